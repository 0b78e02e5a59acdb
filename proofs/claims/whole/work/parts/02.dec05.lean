theorem dX7_film_0 : decode cX7_film 0 = .ok (.iload_n 1, 1) := by decide +kernel
theorem dX7_film_1 : decode cX7_film 1 = .ok (.invokestatic 292, 3) := by decide +kernel
theorem dX7_film_4 : decode cX7_film 4 = .ok (.ifCond .eq 23, 3) := by decide +kernel
theorem dX7_film_7 : decode cX7_film 7 = .ok (.aload_n 0, 1) := by decide +kernel
theorem dX7_film_8 : decode cX7_film 8 = .ok (.iload_n 2, 1) := by decide +kernel
theorem dX7_film_9 : decode cX7_film 9 = .ok (.invokevirtual 177, 3) := by decide +kernel
theorem dX7_film_12 : decode cX7_film 12 = .ok (.ifCond .eq 15, 3) := by decide +kernel
theorem dX7_film_15 : decode cX7_film 15 = .ok (.iload_n 3, 1) := by decide +kernel
theorem dX7_film_16 : decode cX7_film 16 = .ok (.i2l, 1) := by decide +kernel
theorem dX7_film_17 : decode cX7_film 17 = .ok (.lconst 0, 1) := by decide +kernel
theorem dX7_film_18 : decode cX7_film 18 = .ok (.ldc2_w 301, 3) := by decide +kernel
theorem dX7_film_21 : decode cX7_film 21 = .ok (.invokestatic 133, 3) := by decide +kernel
theorem dX7_film_24 : decode cX7_film 24 = .ok (.ifCond .ne 6, 3) := by decide +kernel
theorem dX7_film_27 : decode cX7_film 27 = .ok (.bipush (-2), 2) := by decide +kernel
theorem dX7_film_29 : decode cX7_film 29 = .ok (.ireturn, 1) := by decide +kernel
theorem dX7_film_30 : decode cX7_film 30 = .ok (.aload_n 0, 1) := by decide +kernel
theorem dX7_film_31 : decode cX7_film 31 = .ok (.invokevirtual 232, 3) := by decide +kernel
theorem dX7_film_34 : decode cX7_film 34 = .ok (.iconst 0, 1) := by decide +kernel
theorem dX7_film_35 : decode cX7_film 35 = .ok (.istore 4, 2) := by decide +kernel
theorem dX7_film_37 : decode cX7_film 37 = .ok (.iload 4, 2) := by decide +kernel
theorem dX7_film_39 : decode cX7_film 39 = .ok (.iload_n 3, 1) := by decide +kernel
theorem dX7_film_40 : decode cX7_film 40 = .ok (.if_icmp .ge 79, 3) := by decide +kernel
theorem dX7_film_43 : decode cX7_film 43 = .ok (.iload 4, 2) := by decide +kernel
theorem dX7_film_45 : decode cX7_film 45 = .ok (.ifCond .le 13, 3) := by decide +kernel
theorem dX7_film_48 : decode cX7_film 48 = .ok (.aload_n 0, 1) := by decide +kernel
theorem dX7_film_49 : decode cX7_film 49 = .ok (.invokevirtual 235, 3) := by decide +kernel
theorem dX7_film_52 : decode cX7_film 52 = .ok (.ifCond .ne 6, 3) := by decide +kernel
theorem dX7_film_55 : decode cX7_film 55 = .ok (.bipush (-3), 2) := by decide +kernel
theorem dX7_film_57 : decode cX7_film 57 = .ok (.ireturn, 1) := by decide +kernel
theorem dX7_film_58 : decode cX7_film 58 = .ok (.aload_n 0, 1) := by decide +kernel
theorem dX7_film_59 : decode cX7_film 59 = .ok (.getfield 47, 3) := by decide +kernel
theorem dX7_film_62 : decode cX7_film 62 = .ok (.iload_n 2, 1) := by decide +kernel
theorem dX7_film_63 : decode cX7_film 63 = .ok (.laload, 1) := by decide +kernel
theorem dX7_film_64 : decode cX7_film 64 = .ok (.aload_n 0, 1) := by decide +kernel
theorem dX7_film_65 : decode cX7_film 65 = .ok (.getfield 207, 3) := by decide +kernel
theorem dX7_film_68 : decode cX7_film 68 = .ok (.invokestatic 245, 3) := by decide +kernel
theorem dX7_film_71 : decode cX7_film 71 = .ok (.lstore 5, 2) := by decide +kernel
theorem dX7_film_73 : decode cX7_film 73 = .ok (.aload_n 0, 1) := by decide +kernel
theorem dX7_film_74 : decode cX7_film 74 = .ok (.getfield 71, 3) := by decide +kernel
theorem dX7_film_77 : decode cX7_film 77 = .ok (.iload 4, 2) := by decide +kernel
theorem dX7_film_79 : decode cX7_film 79 = .ok (.lload 5, 2) := by decide +kernel
theorem dX7_film_81 : decode cX7_film 81 = .ok (.ldc2_w 303, 3) := by decide +kernel
theorem dX7_film_84 : decode cX7_film 84 = .ok (.lcmp, 1) := by decide +kernel
theorem dX7_film_85 : decode cX7_film 85 = .ok (.ifCond .ge 9, 3) := by decide +kernel
theorem dX7_film_88 : decode cX7_film 88 = .ok (.sipush (-999), 3) := by decide +kernel
theorem dX7_film_91 : decode cX7_film 91 = .ok (.goto 21, 3) := by decide +kernel
theorem dX7_film_94 : decode cX7_film 94 = .ok (.lload 5, 2) := by decide +kernel
theorem dX7_film_96 : decode cX7_film 96 = .ok (.ldc2_w 169, 3) := by decide +kernel
theorem dX7_film_99 : decode cX7_film 99 = .ok (.lcmp, 1) := by decide +kernel
theorem dX7_film_100 : decode cX7_film 100 = .ok (.ifCond .le 9, 3) := by decide +kernel
theorem dX7_film_103 : decode cX7_film 103 = .ok (.sipush 999, 3) := by decide +kernel
theorem dX7_film_106 : decode cX7_film 106 = .ok (.goto 6, 3) := by decide +kernel
theorem dX7_film_109 : decode cX7_film 109 = .ok (.lload 5, 2) := by decide +kernel
theorem dX7_film_111 : decode cX7_film 111 = .ok (.l2i, 1) := by decide +kernel
theorem dX7_film_112 : decode cX7_film 112 = .ok (.iastore, 1) := by decide +kernel
theorem dX7_film_113 : decode cX7_film 113 = .ok (.iinc 4 1, 3) := by decide +kernel
theorem dX7_film_116 : decode cX7_film 116 = .ok (.goto (-79), 3) := by decide +kernel
theorem dX7_film_119 : decode cX7_film 119 = .ok (.aload_n 0, 1) := by decide +kernel
theorem dX7_film_120 : decode cX7_film 120 = .ok (.getfield 117, 3) := by decide +kernel
theorem dX7_film_123 : decode cX7_film 123 = .ok (.iload_n 1, 1) := by decide +kernel
theorem dX7_film_124 : decode cX7_film 124 = .ok (.iconst 1, 1) := by decide +kernel
theorem dX7_film_125 : decode cX7_film 125 = .ok (.iastore, 1) := by decide +kernel
theorem dX7_film_126 : decode cX7_film 126 = .ok (.aload_n 0, 1) := by decide +kernel
theorem dX7_film_127 : decode cX7_film 127 = .ok (.getfield 120, 3) := by decide +kernel
theorem dX7_film_130 : decode cX7_film 130 = .ok (.iload_n 1, 1) := by decide +kernel
theorem dX7_film_131 : decode cX7_film 131 = .ok (.iload_n 3, 1) := by decide +kernel
theorem dX7_film_132 : decode cX7_film 132 = .ok (.iastore, 1) := by decide +kernel
theorem dX7_film_133 : decode cX7_film 133 = .ok (.iconst 0, 1) := by decide +kernel
theorem dX7_film_134 : decode cX7_film 134 = .ok (.istore 4, 2) := by decide +kernel
theorem dX7_film_136 : decode cX7_film 136 = .ok (.iload 4, 2) := by decide +kernel
theorem dX7_film_138 : decode cX7_film 138 = .ok (.iload_n 3, 1) := by decide +kernel
theorem dX7_film_139 : decode cX7_film 139 = .ok (.if_icmp .ge 28, 3) := by decide +kernel
theorem dX7_film_142 : decode cX7_film 142 = .ok (.aload_n 0, 1) := by decide +kernel
theorem dX7_film_143 : decode cX7_film 143 = .ok (.getfield 123, 3) := by decide +kernel
theorem dX7_film_146 : decode cX7_film 146 = .ok (.bipush 40, 2) := by decide +kernel
theorem dX7_film_148 : decode cX7_film 148 = .ok (.iload_n 1, 1) := by decide +kernel
theorem dX7_film_149 : decode cX7_film 149 = .ok (.imul, 1) := by decide +kernel
theorem dX7_film_150 : decode cX7_film 150 = .ok (.iload 4, 2) := by decide +kernel
theorem dX7_film_152 : decode cX7_film 152 = .ok (.iadd, 1) := by decide +kernel
theorem dX7_film_153 : decode cX7_film 153 = .ok (.aload_n 0, 1) := by decide +kernel
theorem dX7_film_154 : decode cX7_film 154 = .ok (.getfield 71, 3) := by decide +kernel
theorem dX7_film_157 : decode cX7_film 157 = .ok (.iload 4, 2) := by decide +kernel
theorem dX7_film_159 : decode cX7_film 159 = .ok (.iaload, 1) := by decide +kernel
theorem dX7_film_160 : decode cX7_film 160 = .ok (.iastore, 1) := by decide +kernel
theorem dX7_film_161 : decode cX7_film 161 = .ok (.iinc 4 1, 3) := by decide +kernel
theorem dX7_film_164 : decode cX7_film 164 = .ok (.goto (-28), 3) := by decide +kernel
theorem dX7_film_167 : decode cX7_film 167 = .ok (.iload_n 3, 1) := by decide +kernel
theorem dX7_film_168 : decode cX7_film 168 = .ok (.ireturn, 1) := by decide +kernel
theorem dX7_drawn_0 : decode cX7_drawn 0 = .ok (.iload_n 2, 1) := by decide +kernel
theorem dX7_drawn_1 : decode cX7_drawn 1 = .ok (.i2l, 1) := by decide +kernel
theorem dX7_drawn_2 : decode cX7_drawn 2 = .ok (.lconst 0, 1) := by decide +kernel
theorem dX7_drawn_3 : decode cX7_drawn 3 = .ok (.ldc2_w 199, 3) := by decide +kernel
theorem dX7_drawn_6 : decode cX7_drawn 6 = .ok (.invokestatic 133, 3) := by decide +kernel
theorem dX7_drawn_9 : decode cX7_drawn 9 = .ok (.ifCond .eq 10, 3) := by decide +kernel
theorem dX7_drawn_12 : decode cX7_drawn 12 = .ok (.aload_n 0, 1) := by decide +kernel
theorem dX7_drawn_13 : decode cX7_drawn 13 = .ok (.getfield 129, 3) := by decide +kernel
theorem dX7_drawn_16 : decode cX7_drawn 16 = .ok (.ifCond .ne 7, 3) := by decide +kernel
theorem dX7_drawn_19 : decode cX7_drawn 19 = .ok (.ldc2_w 256, 3) := by decide +kernel
theorem dX7_drawn_22 : decode cX7_drawn 22 = .ok (.lreturn, 1) := by decide +kernel
theorem dX7_drawn_23 : decode cX7_drawn 23 = .ok (.aload_n 0, 1) := by decide +kernel
theorem dX7_drawn_24 : decode cX7_drawn 24 = .ok (.invokevirtual 232, 3) := by decide +kernel
theorem dX7_drawn_27 : decode cX7_drawn 27 = .ok (.iload_n 1, 1) := by decide +kernel
theorem dX7_drawn_28 : decode cX7_drawn 28 = .ok (.istore_n 3, 1) := by decide +kernel
theorem dX7_drawn_29 : decode cX7_drawn 29 = .ok (.iconst 0, 1) := by decide +kernel
theorem dX7_drawn_30 : decode cX7_drawn 30 = .ok (.istore 4, 2) := by decide +kernel
theorem dX7_drawn_32 : decode cX7_drawn 32 = .ok (.iload 4, 2) := by decide +kernel
theorem dX7_drawn_34 : decode cX7_drawn 34 = .ok (.iload_n 2, 1) := by decide +kernel
theorem dX7_drawn_35 : decode cX7_drawn 35 = .ok (.if_icmp .ge 60, 3) := by decide +kernel
theorem dX7_drawn_38 : decode cX7_drawn 38 = .ok (.iload_n 3, 1) := by decide +kernel
theorem dX7_drawn_39 : decode cX7_drawn 39 = .ok (.ldc_w 305, 3) := by decide +kernel
theorem dX7_drawn_42 : decode cX7_drawn 42 = .ok (.imul, 1) := by decide +kernel
theorem dX7_drawn_43 : decode cX7_drawn 43 = .ok (.sipush 12345, 3) := by decide +kernel
theorem dX7_drawn_46 : decode cX7_drawn 46 = .ok (.iadd, 1) := by decide +kernel
theorem dX7_drawn_47 : decode cX7_drawn 47 = .ok (.istore_n 3, 1) := by decide +kernel
theorem dX7_drawn_48 : decode cX7_drawn 48 = .ok (.aload_n 0, 1) := by decide +kernel
theorem dX7_drawn_49 : decode cX7_drawn 49 = .ok (.getfield 47, 3) := by decide +kernel
theorem dX7_drawn_52 : decode cX7_drawn 52 = .ok (.iload_n 3, 1) := by decide +kernel
theorem dX7_drawn_53 : decode cX7_drawn 53 = .ok (.bipush 9, 2) := by decide +kernel
theorem dX7_drawn_55 : decode cX7_drawn 55 = .ok (.iushr, 1) := by decide +kernel
theorem dX7_drawn_56 : decode cX7_drawn 56 = .ok (.aload_n 0, 1) := by decide +kernel
theorem dX7_drawn_57 : decode cX7_drawn 57 = .ok (.getfield 129, 3) := by decide +kernel
theorem dX7_drawn_60 : decode cX7_drawn 60 = .ok (.irem, 1) := by decide +kernel
theorem dX7_drawn_61 : decode cX7_drawn 61 = .ok (.dup2, 1) := by decide +kernel
theorem dX7_drawn_62 : decode cX7_drawn 62 = .ok (.laload, 1) := by decide +kernel
theorem dX7_drawn_63 : decode cX7_drawn 63 = .ok (.iload_n 3, 1) := by decide +kernel
theorem dX7_drawn_64 : decode cX7_drawn 64 = .ok (.bipush 20, 2) := by decide +kernel
theorem dX7_drawn_66 : decode cX7_drawn 66 = .ok (.iushr, 1) := by decide +kernel
theorem dX7_drawn_67 : decode cX7_drawn 67 = .ok (.bipush 10, 2) := by decide +kernel
theorem dX7_drawn_69 : decode cX7_drawn 69 = .ok (.irem, 1) := by decide +kernel
theorem dX7_drawn_70 : decode cX7_drawn 70 = .ok (.i2l, 1) := by decide +kernel
theorem dX7_drawn_71 : decode cX7_drawn 71 = .ok (.aload_n 0, 1) := by decide +kernel
theorem dX7_drawn_72 : decode cX7_drawn 72 = .ok (.getfield 207, 3) := by decide +kernel
theorem dX7_drawn_75 : decode cX7_drawn 75 = .ok (.lmul, 1) := by decide +kernel
theorem dX7_drawn_76 : decode cX7_drawn 76 = .ok (.ladd, 1) := by decide +kernel
theorem dX7_drawn_77 : decode cX7_drawn 77 = .ok (.lastore, 1) := by decide +kernel
theorem dX7_drawn_78 : decode cX7_drawn 78 = .ok (.aload_n 0, 1) := by decide +kernel
theorem dX7_drawn_79 : decode cX7_drawn 79 = .ok (.invokevirtual 235, 3) := by decide +kernel
theorem dX7_drawn_82 : decode cX7_drawn 82 = .ok (.ifCond .ne 7, 3) := by decide +kernel
theorem dX7_drawn_85 : decode cX7_drawn 85 = .ok (.ldc2_w 256, 3) := by decide +kernel
theorem dX7_drawn_88 : decode cX7_drawn 88 = .ok (.lreturn, 1) := by decide +kernel
theorem dX7_drawn_89 : decode cX7_drawn 89 = .ok (.iinc 4 1, 3) := by decide +kernel
theorem dX7_drawn_92 : decode cX7_drawn 92 = .ok (.goto (-60), 3) := by decide +kernel
theorem dX7_drawn_95 : decode cX7_drawn 95 = .ok (.aload_n 0, 1) := by decide +kernel
theorem dX7_drawn_96 : decode cX7_drawn 96 = .ok (.invokevirtual 270, 3) := by decide +kernel
theorem dX7_drawn_99 : decode cX7_drawn 99 = .ok (.aload_n 0, 1) := by decide +kernel
theorem dX7_drawn_100 : decode cX7_drawn 100 = .ok (.getfield 207, 3) := by decide +kernel
theorem dX7_drawn_103 : decode cX7_drawn 103 = .ok (.invokestatic 245, 3) := by decide +kernel
theorem dX7_drawn_106 : decode cX7_drawn 106 = .ok (.lreturn, 1) := by decide +kernel
theorem dX7_feed_0 : decode cX7_feed 0 = .ok (.iload_n 2, 1) := by decide +kernel
theorem dX7_feed_1 : decode cX7_feed 1 = .ok (.i2l, 1) := by decide +kernel
theorem dX7_feed_2 : decode cX7_feed 2 = .ok (.lconst 0, 1) := by decide +kernel
theorem dX7_feed_3 : decode cX7_feed 3 = .ok (.ldc2_w 306, 3) := by decide +kernel
theorem dX7_feed_6 : decode cX7_feed 6 = .ok (.invokestatic 133, 3) := by decide +kernel
theorem dX7_feed_9 : decode cX7_feed 9 = .ok (.ifCond .eq 58, 3) := by decide +kernel
theorem dX7_feed_12 : decode cX7_feed 12 = .ok (.iload_n 3, 1) := by decide +kernel
theorem dX7_feed_13 : decode cX7_feed 13 = .ok (.i2l, 1) := by decide +kernel
theorem dX7_feed_14 : decode cX7_feed 14 = .ok (.lconst 0, 1) := by decide +kernel
theorem dX7_feed_15 : decode cX7_feed 15 = .ok (.ldc2_w 306, 3) := by decide +kernel
theorem dX7_feed_18 : decode cX7_feed 18 = .ok (.invokestatic 133, 3) := by decide +kernel
theorem dX7_feed_21 : decode cX7_feed 21 = .ok (.ifCond .eq 46, 3) := by decide +kernel
theorem dX7_feed_24 : decode cX7_feed 24 = .ok (.iload 4, 2) := by decide +kernel
theorem dX7_feed_26 : decode cX7_feed 26 = .ok (.i2l, 1) := by decide +kernel
theorem dX7_feed_27 : decode cX7_feed 27 = .ok (.lconst 0, 1) := by decide +kernel
theorem dX7_feed_28 : decode cX7_feed 28 = .ok (.ldc2_w 306, 3) := by decide +kernel
theorem dX7_feed_31 : decode cX7_feed 31 = .ok (.invokestatic 133, 3) := by decide +kernel
theorem dX7_feed_34 : decode cX7_feed 34 = .ok (.ifCond .eq 33, 3) := by decide +kernel
theorem dX7_feed_37 : decode cX7_feed 37 = .ok (.iload 5, 2) := by decide +kernel
theorem dX7_feed_39 : decode cX7_feed 39 = .ok (.i2l, 1) := by decide +kernel
theorem dX7_feed_40 : decode cX7_feed 40 = .ok (.lconst 0, 1) := by decide +kernel
theorem dX7_feed_41 : decode cX7_feed 41 = .ok (.ldc2_w 306, 3) := by decide +kernel
theorem dX7_feed_44 : decode cX7_feed 44 = .ok (.invokestatic 133, 3) := by decide +kernel
theorem dX7_feed_47 : decode cX7_feed 47 = .ok (.ifCond .eq 20, 3) := by decide +kernel
theorem dX7_feed_50 : decode cX7_feed 50 = .ok (.iload 6, 2) := by decide +kernel
theorem dX7_feed_52 : decode cX7_feed 52 = .ok (.i2l, 1) := by decide +kernel
theorem dX7_feed_53 : decode cX7_feed 53 = .ok (.lconst 0, 1) := by decide +kernel
theorem dX7_feed_54 : decode cX7_feed 54 = .ok (.ldc2_w 306, 3) := by decide +kernel
theorem dX7_feed_57 : decode cX7_feed 57 = .ok (.invokestatic 133, 3) := by decide +kernel
theorem dX7_feed_60 : decode cX7_feed 60 = .ok (.ifCond .eq 7, 3) := by decide +kernel
theorem dX7_feed_63 : decode cX7_feed 63 = .ok (.iconst 1, 1) := by decide +kernel
theorem dX7_feed_64 : decode cX7_feed 64 = .ok (.goto 4, 3) := by decide +kernel
theorem dX7_feed_67 : decode cX7_feed 67 = .ok (.iconst 0, 1) := by decide +kernel
theorem dX7_feed_68 : decode cX7_feed 68 = .ok (.istore 7, 2) := by decide +kernel
theorem dX7_feed_70 : decode cX7_feed 70 = .ok (.iload_n 1, 1) := by decide +kernel
theorem dX7_feed_71 : decode cX7_feed 71 = .ok (.i2l, 1) := by decide +kernel
theorem dX7_feed_72 : decode cX7_feed 72 = .ok (.lconst 1, 1) := by decide +kernel
theorem dX7_feed_73 : decode cX7_feed 73 = .ok (.ldc2_w 159, 3) := by decide +kernel
theorem dX7_feed_76 : decode cX7_feed 76 = .ok (.invokestatic 133, 3) := by decide +kernel
theorem dX7_feed_79 : decode cX7_feed 79 = .ok (.ifCond .eq 8, 3) := by decide +kernel
theorem dX7_feed_82 : decode cX7_feed 82 = .ok (.iload 7, 2) := by decide +kernel
theorem dX7_feed_84 : decode cX7_feed 84 = .ok (.ifCond .ne 6, 3) := by decide +kernel
theorem dX7_feed_87 : decode cX7_feed 87 = .ok (.bipush (-2), 2) := by decide +kernel
theorem dX7_feed_89 : decode cX7_feed 89 = .ok (.ireturn, 1) := by decide +kernel
theorem dX7_feed_90 : decode cX7_feed 90 = .ok (.aload_n 0, 1) := by decide +kernel
theorem dX7_feed_91 : decode cX7_feed 91 = .ok (.getfield 308, 3) := by decide +kernel
theorem dX7_feed_94 : decode cX7_feed 94 = .ok (.iload_n 1, 1) := by decide +kernel
theorem dX7_feed_95 : decode cX7_feed 95 = .ok (.iadd, 1) := by decide +kernel
theorem dX7_feed_96 : decode cX7_feed 96 = .ok (.bipush 60, 2) := by decide +kernel
theorem dX7_feed_98 : decode cX7_feed 98 = .ok (.if_icmp .le 6, 3) := by decide +kernel
theorem dX7_feed_101 : decode cX7_feed 101 = .ok (.bipush (-4), 2) := by decide +kernel
theorem dX7_feed_103 : decode cX7_feed 103 = .ok (.ireturn, 1) := by decide +kernel
theorem dX7_feed_104 : decode cX7_feed 104 = .ok (.iconst 0, 1) := by decide +kernel
theorem dX7_feed_105 : decode cX7_feed 105 = .ok (.istore 8, 2) := by decide +kernel
theorem dX7_feed_107 : decode cX7_feed 107 = .ok (.iload 8, 2) := by decide +kernel
theorem dX7_feed_109 : decode cX7_feed 109 = .ok (.iload_n 1, 1) := by decide +kernel
theorem dX7_feed_110 : decode cX7_feed 110 = .ok (.if_icmp .ge 71, 3) := by decide +kernel
theorem dX7_feed_113 : decode cX7_feed 113 = .ok (.aload_n 0, 1) := by decide +kernel
theorem dX7_feed_114 : decode cX7_feed 114 = .ok (.getfield 81, 3) := by decide +kernel
theorem dX7_feed_117 : decode cX7_feed 117 = .ok (.aload_n 0, 1) := by decide +kernel
theorem dX7_feed_118 : decode cX7_feed 118 = .ok (.getfield 308, 3) := by decide +kernel
theorem dX7_feed_121 : decode cX7_feed 121 = .ok (.iload 8, 2) := by decide +kernel
theorem dX7_feed_123 : decode cX7_feed 123 = .ok (.ifCond .ne 7, 3) := by decide +kernel
theorem dX7_feed_126 : decode cX7_feed 126 = .ok (.iload_n 2, 1) := by decide +kernel
theorem dX7_feed_127 : decode cX7_feed 127 = .ok (.goto 37, 3) := by decide +kernel
theorem dX7_feed_130 : decode cX7_feed 130 = .ok (.iload 8, 2) := by decide +kernel
theorem dX7_feed_132 : decode cX7_feed 132 = .ok (.iconst 1, 1) := by decide +kernel
theorem dX7_feed_133 : decode cX7_feed 133 = .ok (.if_icmp .ne 7, 3) := by decide +kernel
theorem dX7_feed_136 : decode cX7_feed 136 = .ok (.iload_n 3, 1) := by decide +kernel
theorem dX7_feed_137 : decode cX7_feed 137 = .ok (.goto 27, 3) := by decide +kernel
theorem dX7_feed_140 : decode cX7_feed 140 = .ok (.iload 8, 2) := by decide +kernel
theorem dX7_feed_142 : decode cX7_feed 142 = .ok (.iconst 2, 1) := by decide +kernel
theorem dX7_feed_143 : decode cX7_feed 143 = .ok (.if_icmp .ne 8, 3) := by decide +kernel
theorem dX7_feed_146 : decode cX7_feed 146 = .ok (.iload 4, 2) := by decide +kernel
theorem dX7_feed_148 : decode cX7_feed 148 = .ok (.goto 16, 3) := by decide +kernel
theorem dX7_feed_151 : decode cX7_feed 151 = .ok (.iload 8, 2) := by decide +kernel
theorem dX7_feed_153 : decode cX7_feed 153 = .ok (.iconst 3, 1) := by decide +kernel
theorem dX7_feed_154 : decode cX7_feed 154 = .ok (.if_icmp .ne 8, 3) := by decide +kernel
theorem dX7_feed_157 : decode cX7_feed 157 = .ok (.iload 5, 2) := by decide +kernel
theorem dX7_feed_159 : decode cX7_feed 159 = .ok (.goto 5, 3) := by decide +kernel
theorem dX7_feed_162 : decode cX7_feed 162 = .ok (.iload 6, 2) := by decide +kernel
theorem dX7_feed_164 : decode cX7_feed 164 = .ok (.iastore, 1) := by decide +kernel
theorem dX7_feed_165 : decode cX7_feed 165 = .ok (.aload_n 0, 1) := by decide +kernel
theorem dX7_feed_166 : decode cX7_feed 166 = .ok (.dup, 1) := by decide +kernel
theorem dX7_feed_167 : decode cX7_feed 167 = .ok (.getfield 308, 3) := by decide +kernel
theorem dX7_feed_170 : decode cX7_feed 170 = .ok (.iconst 1, 1) := by decide +kernel
theorem dX7_feed_171 : decode cX7_feed 171 = .ok (.iadd, 1) := by decide +kernel
theorem dX7_feed_172 : decode cX7_feed 172 = .ok (.putfield 308, 3) := by decide +kernel
theorem dX7_feed_175 : decode cX7_feed 175 = .ok (.iinc 8 1, 3) := by decide +kernel
theorem dX7_feed_178 : decode cX7_feed 178 = .ok (.goto (-71), 3) := by decide +kernel
theorem dX7_feed_181 : decode cX7_feed 181 = .ok (.aload_n 0, 1) := by decide +kernel
theorem dX7_feed_182 : decode cX7_feed 182 = .ok (.getfield 308, 3) := by decide +kernel
theorem dX7_feed_185 : decode cX7_feed 185 = .ok (.ireturn, 1) := by decide +kernel
theorem dX7_isDigit_0 : decode cX7_isDigit 0 = .ok (.iload_n 1, 1) := by decide +kernel
theorem dX7_isDigit_1 : decode cX7_isDigit 1 = .ok (.aload_n 0, 1) := by decide +kernel
theorem dX7_isDigit_2 : decode cX7_isDigit 2 = .ok (.getfield 311, 3) := by decide +kernel
theorem dX7_isDigit_5 : decode cX7_isDigit 5 = .ok (.if_icmp .ge 26, 3) := by decide +kernel
theorem dX7_isDigit_8 : decode cX7_isDigit 8 = .ok (.aload_n 0, 1) := by decide +kernel
theorem dX7_isDigit_9 : decode cX7_isDigit 9 = .ok (.getfield 81, 3) := by decide +kernel
theorem dX7_isDigit_12 : decode cX7_isDigit 12 = .ok (.iload_n 1, 1) := by decide +kernel
theorem dX7_isDigit_13 : decode cX7_isDigit 13 = .ok (.iaload, 1) := by decide +kernel
theorem dX7_isDigit_14 : decode cX7_isDigit 14 = .ok (.i2l, 1) := by decide +kernel
theorem dX7_isDigit_15 : decode cX7_isDigit 15 = .ok (.ldc2_w 314, 3) := by decide +kernel
theorem dX7_isDigit_18 : decode cX7_isDigit 18 = .ok (.ldc2_w 316, 3) := by decide +kernel
theorem dX7_isDigit_21 : decode cX7_isDigit 21 = .ok (.invokestatic 133, 3) := by decide +kernel
theorem dX7_isDigit_24 : decode cX7_isDigit 24 = .ok (.ifCond .eq 7, 3) := by decide +kernel
theorem dX7_isDigit_27 : decode cX7_isDigit 27 = .ok (.iconst 1, 1) := by decide +kernel
theorem dX7_isDigit_28 : decode cX7_isDigit 28 = .ok (.goto 4, 3) := by decide +kernel
theorem dX7_isDigit_31 : decode cX7_isDigit 31 = .ok (.iconst 0, 1) := by decide +kernel
theorem dX7_isDigit_32 : decode cX7_isDigit 32 = .ok (.ireturn, 1) := by decide +kernel
theorem dX7_isLetter_0 : decode cX7_isLetter 0 = .ok (.iload_n 1, 1) := by decide +kernel
theorem dX7_isLetter_1 : decode cX7_isLetter 1 = .ok (.aload_n 0, 1) := by decide +kernel
theorem dX7_isLetter_2 : decode cX7_isLetter 2 = .ok (.getfield 311, 3) := by decide +kernel
theorem dX7_isLetter_5 : decode cX7_isLetter 5 = .ok (.if_icmp .ge 26, 3) := by decide +kernel
theorem dX7_isLetter_8 : decode cX7_isLetter 8 = .ok (.aload_n 0, 1) := by decide +kernel
theorem dX7_isLetter_9 : decode cX7_isLetter 9 = .ok (.getfield 81, 3) := by decide +kernel
theorem dX7_isLetter_12 : decode cX7_isLetter 12 = .ok (.iload_n 1, 1) := by decide +kernel
theorem dX7_isLetter_13 : decode cX7_isLetter 13 = .ok (.iaload, 1) := by decide +kernel
theorem dX7_isLetter_14 : decode cX7_isLetter 14 = .ok (.i2l, 1) := by decide +kernel
theorem dX7_isLetter_15 : decode cX7_isLetter 15 = .ok (.ldc2_w 318, 3) := by decide +kernel
theorem dX7_isLetter_18 : decode cX7_isLetter 18 = .ok (.ldc2_w 320, 3) := by decide +kernel
theorem dX7_isLetter_21 : decode cX7_isLetter 21 = .ok (.invokestatic 133, 3) := by decide +kernel
theorem dX7_isLetter_24 : decode cX7_isLetter 24 = .ok (.ifCond .eq 7, 3) := by decide +kernel
theorem dX7_isLetter_27 : decode cX7_isLetter 27 = .ok (.iconst 1, 1) := by decide +kernel
theorem dX7_isLetter_28 : decode cX7_isLetter 28 = .ok (.goto 4, 3) := by decide +kernel
theorem dX7_isLetter_31 : decode cX7_isLetter 31 = .ok (.iconst 0, 1) := by decide +kernel
theorem dX7_isLetter_32 : decode cX7_isLetter 32 = .ok (.ireturn, 1) := by decide +kernel
theorem dX7_readsWord_0 : decode cX7_readsWord 0 = .ok (.aload_n 0, 1) := by decide +kernel
theorem dX7_readsWord_1 : decode cX7_readsWord 1 = .ok (.aload_n 0, 1) := by decide +kernel
theorem dX7_readsWord_2 : decode cX7_readsWord 2 = .ok (.getfield 322, 3) := by decide +kernel
theorem dX7_readsWord_5 : decode cX7_readsWord 5 = .ok (.invokevirtual 325, 3) := by decide +kernel
theorem dX7_readsWord_8 : decode cX7_readsWord 8 = .ok (.ifCond .eq 16, 3) := by decide +kernel
theorem dX7_readsWord_11 : decode cX7_readsWord 11 = .ok (.aload_n 0, 1) := by decide +kernel
theorem dX7_readsWord_12 : decode cX7_readsWord 12 = .ok (.dup, 1) := by decide +kernel
theorem dX7_readsWord_13 : decode cX7_readsWord 13 = .ok (.getfield 322, 3) := by decide +kernel
theorem dX7_readsWord_16 : decode cX7_readsWord 16 = .ok (.iconst 1, 1) := by decide +kernel
theorem dX7_readsWord_17 : decode cX7_readsWord 17 = .ok (.iadd, 1) := by decide +kernel
theorem dX7_readsWord_18 : decode cX7_readsWord 18 = .ok (.putfield 322, 3) := by decide +kernel
theorem dX7_readsWord_21 : decode cX7_readsWord 21 = .ok (.goto (-21), 3) := by decide +kernel
theorem dX7_readsWord_24 : decode cX7_readsWord 24 = .ok (.aload_n 0, 1) := by decide +kernel
theorem dX7_readsWord_25 : decode cX7_readsWord 25 = .ok (.iconst 4, 1) := by decide +kernel
theorem dX7_readsWord_26 : decode cX7_readsWord 26 = .ok (.putfield 328, 3) := by decide +kernel
theorem dX7_readsWord_29 : decode cX7_readsWord 29 = .ok (.iconst 0, 1) := by decide +kernel
theorem dX7_readsWord_30 : decode cX7_readsWord 30 = .ok (.istore_n 1, 1) := by decide +kernel
theorem dX7_readsWord_31 : decode cX7_readsWord 31 = .ok (.iconst 0, 1) := by decide +kernel
theorem dX7_readsWord_32 : decode cX7_readsWord 32 = .ok (.istore_n 2, 1) := by decide +kernel
theorem dX7_readsWord_33 : decode cX7_readsWord 33 = .ok (.iload_n 2, 1) := by decide +kernel
theorem dX7_readsWord_34 : decode cX7_readsWord 34 = .ok (.bipush 8, 2) := by decide +kernel
theorem dX7_readsWord_36 : decode cX7_readsWord 36 = .ok (.if_icmp .ge 128, 3) := by decide +kernel
theorem dX7_readsWord_39 : decode cX7_readsWord 39 = .ok (.iload_n 1, 1) := by decide +kernel
theorem dX7_readsWord_40 : decode cX7_readsWord 40 = .ok (.istore_n 3, 1) := by decide +kernel
theorem dX7_readsWord_41 : decode cX7_readsWord 41 = .ok (.aload_n 0, 1) := by decide +kernel
theorem dX7_readsWord_42 : decode cX7_readsWord 42 = .ok (.getfield 74, 3) := by decide +kernel
theorem dX7_readsWord_45 : decode cX7_readsWord 45 = .ok (.iload_n 3, 1) := by decide +kernel
theorem dX7_readsWord_46 : decode cX7_readsWord 46 = .ok (.caload, 1) := by decide +kernel
theorem dX7_readsWord_47 : decode cX7_readsWord 47 = .ok (.bipush 32, 2) := by decide +kernel
theorem dX7_readsWord_49 : decode cX7_readsWord 49 = .ok (.if_icmp .eq 9, 3) := by decide +kernel
theorem dX7_readsWord_52 : decode cX7_readsWord 52 = .ok (.iinc 3 1, 3) := by decide +kernel
theorem dX7_readsWord_55 : decode cX7_readsWord 55 = .ok (.goto (-14), 3) := by decide +kernel
theorem dX7_readsWord_58 : decode cX7_readsWord 58 = .ok (.iload_n 3, 1) := by decide +kernel
theorem dX7_readsWord_59 : decode cX7_readsWord 59 = .ok (.iload_n 1, 1) := by decide +kernel
theorem dX7_readsWord_60 : decode cX7_readsWord 60 = .ok (.isub, 1) := by decide +kernel
theorem dX7_readsWord_61 : decode cX7_readsWord 61 = .ok (.aload_n 0, 1) := by decide +kernel
theorem dX7_readsWord_62 : decode cX7_readsWord 62 = .ok (.getfield 322, 3) := by decide +kernel
theorem dX7_readsWord_65 : decode cX7_readsWord 65 = .ok (.aload_n 0, 1) := by decide +kernel
theorem dX7_readsWord_66 : decode cX7_readsWord 66 = .ok (.getfield 331, 3) := by decide +kernel
theorem dX7_readsWord_69 : decode cX7_readsWord 69 = .ok (.isub, 1) := by decide +kernel
theorem dX7_readsWord_70 : decode cX7_readsWord 70 = .ok (.if_icmp .ne 7, 3) := by decide +kernel
theorem dX7_readsWord_73 : decode cX7_readsWord 73 = .ok (.iconst 1, 1) := by decide +kernel
theorem dX7_readsWord_74 : decode cX7_readsWord 74 = .ok (.goto 4, 3) := by decide +kernel
theorem dX7_readsWord_77 : decode cX7_readsWord 77 = .ok (.iconst 0, 1) := by decide +kernel
theorem dX7_readsWord_78 : decode cX7_readsWord 78 = .ok (.istore 4, 2) := by decide +kernel
theorem dX7_readsWord_80 : decode cX7_readsWord 80 = .ok (.iconst 0, 1) := by decide +kernel
theorem dX7_readsWord_81 : decode cX7_readsWord 81 = .ok (.istore 5, 2) := by decide +kernel
theorem dX7_readsWord_83 : decode cX7_readsWord 83 = .ok (.iload 4, 2) := by decide +kernel
theorem dX7_readsWord_85 : decode cX7_readsWord 85 = .ok (.ifCond .eq 54, 3) := by decide +kernel
theorem dX7_readsWord_88 : decode cX7_readsWord 88 = .ok (.iload 5, 2) := by decide +kernel
theorem dX7_readsWord_90 : decode cX7_readsWord 90 = .ok (.aload_n 0, 1) := by decide +kernel
theorem dX7_readsWord_91 : decode cX7_readsWord 91 = .ok (.getfield 322, 3) := by decide +kernel
theorem dX7_readsWord_94 : decode cX7_readsWord 94 = .ok (.aload_n 0, 1) := by decide +kernel
theorem dX7_readsWord_95 : decode cX7_readsWord 95 = .ok (.getfield 331, 3) := by decide +kernel
theorem dX7_readsWord_98 : decode cX7_readsWord 98 = .ok (.isub, 1) := by decide +kernel
theorem dX7_readsWord_99 : decode cX7_readsWord 99 = .ok (.if_icmp .ge 40, 3) := by decide +kernel
theorem dX7_readsWord_102 : decode cX7_readsWord 102 = .ok (.aload_n 0, 1) := by decide +kernel
theorem dX7_readsWord_103 : decode cX7_readsWord 103 = .ok (.getfield 74, 3) := by decide +kernel
theorem dX7_readsWord_106 : decode cX7_readsWord 106 = .ok (.iload_n 1, 1) := by decide +kernel
theorem dX7_readsWord_107 : decode cX7_readsWord 107 = .ok (.iload 5, 2) := by decide +kernel
theorem dX7_readsWord_109 : decode cX7_readsWord 109 = .ok (.iadd, 1) := by decide +kernel
theorem dX7_readsWord_110 : decode cX7_readsWord 110 = .ok (.caload, 1) := by decide +kernel
theorem dX7_readsWord_111 : decode cX7_readsWord 111 = .ok (.aload_n 0, 1) := by decide +kernel
theorem dX7_readsWord_112 : decode cX7_readsWord 112 = .ok (.getfield 81, 3) := by decide +kernel
theorem dX7_readsWord_115 : decode cX7_readsWord 115 = .ok (.aload_n 0, 1) := by decide +kernel
theorem dX7_readsWord_116 : decode cX7_readsWord 116 = .ok (.getfield 331, 3) := by decide +kernel
theorem dX7_readsWord_119 : decode cX7_readsWord 119 = .ok (.iload 5, 2) := by decide +kernel
theorem dX7_readsWord_121 : decode cX7_readsWord 121 = .ok (.iadd, 1) := by decide +kernel
theorem dX7_readsWord_122 : decode cX7_readsWord 122 = .ok (.iaload, 1) := by decide +kernel
theorem dX7_readsWord_123 : decode cX7_readsWord 123 = .ok (.if_icmp .ne 7, 3) := by decide +kernel
theorem dX7_readsWord_126 : decode cX7_readsWord 126 = .ok (.iconst 1, 1) := by decide +kernel
theorem dX7_readsWord_127 : decode cX7_readsWord 127 = .ok (.goto 4, 3) := by decide +kernel
theorem dX7_readsWord_130 : decode cX7_readsWord 130 = .ok (.iconst 0, 1) := by decide +kernel
theorem dX7_readsWord_131 : decode cX7_readsWord 131 = .ok (.istore 4, 2) := by decide +kernel
theorem dX7_readsWord_133 : decode cX7_readsWord 133 = .ok (.iinc 5 1, 3) := by decide +kernel
theorem dX7_readsWord_136 : decode cX7_readsWord 136 = .ok (.goto (-53), 3) := by decide +kernel
theorem dX7_readsWord_139 : decode cX7_readsWord 139 = .ok (.iload 4, 2) := by decide +kernel
theorem dX7_readsWord_141 : decode cX7_readsWord 141 = .ok (.ifCond .eq 13, 3) := by decide +kernel
theorem dX7_readsWord_144 : decode cX7_readsWord 144 = .ok (.aload_n 0, 1) := by decide +kernel
theorem dX7_readsWord_145 : decode cX7_readsWord 145 = .ok (.iconst 1, 1) := by decide +kernel
theorem dX7_readsWord_146 : decode cX7_readsWord 146 = .ok (.putfield 328, 3) := by decide +kernel
theorem dX7_readsWord_149 : decode cX7_readsWord 149 = .ok (.aload_n 0, 1) := by decide +kernel
theorem dX7_readsWord_150 : decode cX7_readsWord 150 = .ok (.iload_n 2, 1) := by decide +kernel
theorem dX7_readsWord_151 : decode cX7_readsWord 151 = .ok (.putfield 334, 3) := by decide +kernel
theorem dX7_readsWord_154 : decode cX7_readsWord 154 = .ok (.iload_n 3, 1) := by decide +kernel
theorem dX7_readsWord_155 : decode cX7_readsWord 155 = .ok (.iconst 1, 1) := by decide +kernel
theorem dX7_readsWord_156 : decode cX7_readsWord 156 = .ok (.iadd, 1) := by decide +kernel
theorem dX7_readsWord_157 : decode cX7_readsWord 157 = .ok (.istore_n 1, 1) := by decide +kernel
theorem dX7_readsWord_158 : decode cX7_readsWord 158 = .ok (.iinc 2 1, 3) := by decide +kernel
theorem dX7_readsWord_161 : decode cX7_readsWord 161 = .ok (.goto (-128), 3) := by decide +kernel
theorem dX7_readsWord_164 : decode cX7_readsWord 164 = .ok (.return_, 1) := by decide +kernel
theorem dX7_readsNumber_0 : decode cX7_readsNumber 0 = .ok (.aload_n 0, 1) := by decide +kernel
theorem dX7_readsNumber_1 : decode cX7_readsNumber 1 = .ok (.getfield 81, 3) := by decide +kernel
theorem dX7_readsNumber_4 : decode cX7_readsNumber 4 = .ok (.aload_n 0, 1) := by decide +kernel
theorem dX7_readsNumber_5 : decode cX7_readsNumber 5 = .ok (.getfield 322, 3) := by decide +kernel
theorem dX7_readsNumber_8 : decode cX7_readsNumber 8 = .ok (.iaload, 1) := by decide +kernel
theorem dX7_readsNumber_9 : decode cX7_readsNumber 9 = .ok (.bipush 45, 2) := by decide +kernel
theorem dX7_readsNumber_11 : decode cX7_readsNumber 11 = .ok (.if_icmp .ne 7, 3) := by decide +kernel
theorem dX7_readsNumber_14 : decode cX7_readsNumber 14 = .ok (.iconst 1, 1) := by decide +kernel
theorem dX7_readsNumber_15 : decode cX7_readsNumber 15 = .ok (.goto 4, 3) := by decide +kernel
theorem dX7_readsNumber_18 : decode cX7_readsNumber 18 = .ok (.iconst 0, 1) := by decide +kernel
theorem dX7_readsNumber_19 : decode cX7_readsNumber 19 = .ok (.istore_n 1, 1) := by decide +kernel
theorem dX7_readsNumber_20 : decode cX7_readsNumber 20 = .ok (.aload_n 0, 1) := by decide +kernel
theorem dX7_readsNumber_21 : decode cX7_readsNumber 21 = .ok (.dup, 1) := by decide +kernel
theorem dX7_readsNumber_22 : decode cX7_readsNumber 22 = .ok (.getfield 322, 3) := by decide +kernel
theorem dX7_readsNumber_25 : decode cX7_readsNumber 25 = .ok (.iload_n 1, 1) := by decide +kernel
theorem dX7_readsNumber_26 : decode cX7_readsNumber 26 = .ok (.ifCond .eq 7, 3) := by decide +kernel
theorem dX7_readsNumber_29 : decode cX7_readsNumber 29 = .ok (.iconst 1, 1) := by decide +kernel
theorem dX7_readsNumber_30 : decode cX7_readsNumber 30 = .ok (.goto 4, 3) := by decide +kernel
theorem dX7_readsNumber_33 : decode cX7_readsNumber 33 = .ok (.iconst 0, 1) := by decide +kernel
theorem dX7_readsNumber_34 : decode cX7_readsNumber 34 = .ok (.iadd, 1) := by decide +kernel
theorem dX7_readsNumber_35 : decode cX7_readsNumber 35 = .ok (.putfield 322, 3) := by decide +kernel
theorem dX7_readsNumber_38 : decode cX7_readsNumber 38 = .ok (.aload_n 0, 1) := by decide +kernel
theorem dX7_readsNumber_39 : decode cX7_readsNumber 39 = .ok (.getfield 322, 3) := by decide +kernel
theorem dX7_readsNumber_42 : decode cX7_readsNumber 42 = .ok (.istore_n 2, 1) := by decide +kernel
theorem dX7_readsNumber_43 : decode cX7_readsNumber 43 = .ok (.aload_n 0, 1) := by decide +kernel
theorem dX7_readsNumber_44 : decode cX7_readsNumber 44 = .ok (.iconst 0, 1) := by decide +kernel
theorem dX7_readsNumber_45 : decode cX7_readsNumber 45 = .ok (.putfield 334, 3) := by decide +kernel
theorem dX7_readsNumber_48 : decode cX7_readsNumber 48 = .ok (.aload_n 0, 1) := by decide +kernel
theorem dX7_readsNumber_49 : decode cX7_readsNumber 49 = .ok (.aload_n 0, 1) := by decide +kernel
theorem dX7_readsNumber_50 : decode cX7_readsNumber 50 = .ok (.getfield 322, 3) := by decide +kernel
theorem dX7_readsNumber_53 : decode cX7_readsNumber 53 = .ok (.invokevirtual 337, 3) := by decide +kernel
theorem dX7_readsNumber_56 : decode cX7_readsNumber 56 = .ok (.ifCond .eq 57, 3) := by decide +kernel
theorem dX7_readsNumber_59 : decode cX7_readsNumber 59 = .ok (.aload_n 0, 1) := by decide +kernel
theorem dX7_readsNumber_60 : decode cX7_readsNumber 60 = .ok (.aload_n 0, 1) := by decide +kernel
theorem dX7_readsNumber_61 : decode cX7_readsNumber 61 = .ok (.getfield 322, 3) := by decide +kernel
theorem dX7_readsNumber_64 : decode cX7_readsNumber 64 = .ok (.iload_n 2, 1) := by decide +kernel
theorem dX7_readsNumber_65 : decode cX7_readsNumber 65 = .ok (.isub, 1) := by decide +kernel
theorem dX7_readsNumber_66 : decode cX7_readsNumber 66 = .ok (.iconst 3, 1) := by decide +kernel
theorem dX7_readsNumber_67 : decode cX7_readsNumber 67 = .ok (.if_icmp .ge 26, 3) := by decide +kernel
theorem dX7_readsNumber_70 : decode cX7_readsNumber 70 = .ok (.bipush 10, 2) := by decide +kernel
theorem dX7_readsNumber_72 : decode cX7_readsNumber 72 = .ok (.aload_n 0, 1) := by decide +kernel
theorem dX7_readsNumber_73 : decode cX7_readsNumber 73 = .ok (.getfield 334, 3) := by decide +kernel
theorem dX7_readsNumber_76 : decode cX7_readsNumber 76 = .ok (.imul, 1) := by decide +kernel
theorem dX7_readsNumber_77 : decode cX7_readsNumber 77 = .ok (.aload_n 0, 1) := by decide +kernel
theorem dX7_readsNumber_78 : decode cX7_readsNumber 78 = .ok (.getfield 81, 3) := by decide +kernel
theorem dX7_readsNumber_81 : decode cX7_readsNumber 81 = .ok (.aload_n 0, 1) := by decide +kernel
theorem dX7_readsNumber_82 : decode cX7_readsNumber 82 = .ok (.getfield 322, 3) := by decide +kernel
theorem dX7_readsNumber_85 : decode cX7_readsNumber 85 = .ok (.iaload, 1) := by decide +kernel
theorem dX7_readsNumber_86 : decode cX7_readsNumber 86 = .ok (.iadd, 1) := by decide +kernel
theorem dX7_readsNumber_87 : decode cX7_readsNumber 87 = .ok (.bipush 48, 2) := by decide +kernel
theorem dX7_readsNumber_89 : decode cX7_readsNumber 89 = .ok (.isub, 1) := by decide +kernel
theorem dX7_readsNumber_90 : decode cX7_readsNumber 90 = .ok (.goto 7, 3) := by decide +kernel
theorem dX7_readsNumber_93 : decode cX7_readsNumber 93 = .ok (.aload_n 0, 1) := by decide +kernel
theorem dX7_readsNumber_94 : decode cX7_readsNumber 94 = .ok (.getfield 334, 3) := by decide +kernel
theorem dX7_readsNumber_97 : decode cX7_readsNumber 97 = .ok (.putfield 334, 3) := by decide +kernel
theorem dX7_readsNumber_100 : decode cX7_readsNumber 100 = .ok (.aload_n 0, 1) := by decide +kernel
theorem dX7_readsNumber_101 : decode cX7_readsNumber 101 = .ok (.dup, 1) := by decide +kernel
theorem dX7_readsNumber_102 : decode cX7_readsNumber 102 = .ok (.getfield 322, 3) := by decide +kernel
theorem dX7_readsNumber_105 : decode cX7_readsNumber 105 = .ok (.iconst 1, 1) := by decide +kernel
theorem dX7_readsNumber_106 : decode cX7_readsNumber 106 = .ok (.iadd, 1) := by decide +kernel
theorem dX7_readsNumber_107 : decode cX7_readsNumber 107 = .ok (.putfield 322, 3) := by decide +kernel
theorem dX7_readsNumber_110 : decode cX7_readsNumber 110 = .ok (.goto (-62), 3) := by decide +kernel
theorem dX7_readsNumber_113 : decode cX7_readsNumber 113 = .ok (.aload_n 0, 1) := by decide +kernel
theorem dX7_readsNumber_114 : decode cX7_readsNumber 114 = .ok (.aload_n 0, 1) := by decide +kernel
theorem dX7_readsNumber_115 : decode cX7_readsNumber 115 = .ok (.getfield 322, 3) := by decide +kernel
theorem dX7_readsNumber_118 : decode cX7_readsNumber 118 = .ok (.iload_n 2, 1) := by decide +kernel
theorem dX7_readsNumber_119 : decode cX7_readsNumber 119 = .ok (.isub, 1) := by decide +kernel
theorem dX7_readsNumber_120 : decode cX7_readsNumber 120 = .ok (.iconst 3, 1) := by decide +kernel
theorem dX7_readsNumber_121 : decode cX7_readsNumber 121 = .ok (.if_icmp .le 7, 3) := by decide +kernel
theorem dX7_readsNumber_124 : decode cX7_readsNumber 124 = .ok (.iconst 4, 1) := by decide +kernel
theorem dX7_readsNumber_125 : decode cX7_readsNumber 125 = .ok (.goto 4, 3) := by decide +kernel
theorem dX7_readsNumber_128 : decode cX7_readsNumber 128 = .ok (.iconst 2, 1) := by decide +kernel
theorem dX7_readsNumber_129 : decode cX7_readsNumber 129 = .ok (.putfield 328, 3) := by decide +kernel
theorem dX7_readsNumber_132 : decode cX7_readsNumber 132 = .ok (.aload_n 0, 1) := by decide +kernel
theorem dX7_readsNumber_133 : decode cX7_readsNumber 133 = .ok (.iload_n 1, 1) := by decide +kernel
theorem dX7_readsNumber_134 : decode cX7_readsNumber 134 = .ok (.ifCond .eq 11, 3) := by decide +kernel
theorem dX7_readsNumber_137 : decode cX7_readsNumber 137 = .ok (.aload_n 0, 1) := by decide +kernel
theorem dX7_readsNumber_138 : decode cX7_readsNumber 138 = .ok (.getfield 334, 3) := by decide +kernel
theorem dX7_readsNumber_141 : decode cX7_readsNumber 141 = .ok (.ineg, 1) := by decide +kernel
theorem dX7_readsNumber_142 : decode cX7_readsNumber 142 = .ok (.goto 7, 3) := by decide +kernel
theorem dX7_readsNumber_145 : decode cX7_readsNumber 145 = .ok (.aload_n 0, 1) := by decide +kernel
theorem dX7_readsNumber_146 : decode cX7_readsNumber 146 = .ok (.getfield 334, 3) := by decide +kernel
theorem dX7_readsNumber_149 : decode cX7_readsNumber 149 = .ok (.putfield 334, 3) := by decide +kernel
theorem dX7_readsNumber_152 : decode cX7_readsNumber 152 = .ok (.return_, 1) := by decide +kernel
theorem dX7_reads_0 : decode cX7_reads 0 = .ok (.aload_n 0, 1) := by decide +kernel
theorem dX7_reads_1 : decode cX7_reads 1 = .ok (.getfield 322, 3) := by decide +kernel
theorem dX7_reads_4 : decode cX7_reads 4 = .ok (.aload_n 0, 1) := by decide +kernel
theorem dX7_reads_5 : decode cX7_reads 5 = .ok (.getfield 311, 3) := by decide +kernel
theorem dX7_reads_8 : decode cX7_reads 8 = .ok (.if_icmp .ge 44, 3) := by decide +kernel
theorem dX7_reads_11 : decode cX7_reads 11 = .ok (.aload_n 0, 1) := by decide +kernel
theorem dX7_reads_12 : decode cX7_reads 12 = .ok (.getfield 81, 3) := by decide +kernel
theorem dX7_reads_15 : decode cX7_reads 15 = .ok (.aload_n 0, 1) := by decide +kernel
theorem dX7_reads_16 : decode cX7_reads 16 = .ok (.getfield 322, 3) := by decide +kernel
theorem dX7_reads_19 : decode cX7_reads 19 = .ok (.iaload, 1) := by decide +kernel
theorem dX7_reads_20 : decode cX7_reads 20 = .ok (.bipush 32, 2) := by decide +kernel
theorem dX7_reads_22 : decode cX7_reads 22 = .ok (.if_icmp .eq 17, 3) := by decide +kernel
theorem dX7_reads_25 : decode cX7_reads 25 = .ok (.aload_n 0, 1) := by decide +kernel
theorem dX7_reads_26 : decode cX7_reads 26 = .ok (.getfield 81, 3) := by decide +kernel
theorem dX7_reads_29 : decode cX7_reads 29 = .ok (.aload_n 0, 1) := by decide +kernel
theorem dX7_reads_30 : decode cX7_reads 30 = .ok (.getfield 322, 3) := by decide +kernel
theorem dX7_reads_33 : decode cX7_reads 33 = .ok (.iaload, 1) := by decide +kernel
theorem dX7_reads_34 : decode cX7_reads 34 = .ok (.bipush 10, 2) := by decide +kernel
theorem dX7_reads_36 : decode cX7_reads 36 = .ok (.if_icmp .ne 16, 3) := by decide +kernel
theorem dX7_reads_39 : decode cX7_reads 39 = .ok (.aload_n 0, 1) := by decide +kernel
theorem dX7_reads_40 : decode cX7_reads 40 = .ok (.dup, 1) := by decide +kernel
theorem dX7_reads_41 : decode cX7_reads 41 = .ok (.getfield 322, 3) := by decide +kernel
theorem dX7_reads_44 : decode cX7_reads 44 = .ok (.iconst 1, 1) := by decide +kernel
theorem dX7_reads_45 : decode cX7_reads 45 = .ok (.iadd, 1) := by decide +kernel
theorem dX7_reads_46 : decode cX7_reads 46 = .ok (.putfield 322, 3) := by decide +kernel
theorem dX7_reads_49 : decode cX7_reads 49 = .ok (.goto (-49), 3) := by decide +kernel
theorem dX7_reads_52 : decode cX7_reads 52 = .ok (.aload_n 0, 1) := by decide +kernel
theorem dX7_reads_53 : decode cX7_reads 53 = .ok (.aload_n 0, 1) := by decide +kernel
theorem dX7_reads_54 : decode cX7_reads 54 = .ok (.getfield 322, 3) := by decide +kernel
theorem dX7_reads_57 : decode cX7_reads 57 = .ok (.putfield 331, 3) := by decide +kernel
theorem dX7_reads_60 : decode cX7_reads 60 = .ok (.aload_n 0, 1) := by decide +kernel
theorem dX7_reads_61 : decode cX7_reads 61 = .ok (.getfield 322, 3) := by decide +kernel
theorem dX7_reads_64 : decode cX7_reads 64 = .ok (.aload_n 0, 1) := by decide +kernel
theorem dX7_reads_65 : decode cX7_reads 65 = .ok (.getfield 311, 3) := by decide +kernel
theorem dX7_reads_68 : decode cX7_reads 68 = .ok (.if_icmp .ne 11, 3) := by decide +kernel
theorem dX7_reads_71 : decode cX7_reads 71 = .ok (.aload_n 0, 1) := by decide +kernel
theorem dX7_reads_72 : decode cX7_reads 72 = .ok (.iconst 0, 1) := by decide +kernel
theorem dX7_reads_73 : decode cX7_reads 73 = .ok (.putfield 328, 3) := by decide +kernel
theorem dX7_reads_76 : decode cX7_reads 76 = .ok (.goto 99, 3) := by decide +kernel
theorem dX7_reads_79 : decode cX7_reads 79 = .ok (.aload_n 0, 1) := by decide +kernel
theorem dX7_reads_80 : decode cX7_reads 80 = .ok (.aload_n 0, 1) := by decide +kernel
theorem dX7_reads_81 : decode cX7_reads 81 = .ok (.getfield 322, 3) := by decide +kernel
theorem dX7_reads_84 : decode cX7_reads 84 = .ok (.invokevirtual 325, 3) := by decide +kernel
theorem dX7_reads_87 : decode cX7_reads 87 = .ok (.ifCond .eq 10, 3) := by decide +kernel
theorem dX7_reads_90 : decode cX7_reads 90 = .ok (.aload_n 0, 1) := by decide +kernel
theorem dX7_reads_91 : decode cX7_reads 91 = .ok (.invokevirtual 340, 3) := by decide +kernel
theorem dX7_reads_94 : decode cX7_reads 94 = .ok (.goto 81, 3) := by decide +kernel
theorem dX7_reads_97 : decode cX7_reads 97 = .ok (.aload_n 0, 1) := by decide +kernel
theorem dX7_reads_98 : decode cX7_reads 98 = .ok (.aload_n 0, 1) := by decide +kernel
theorem dX7_reads_99 : decode cX7_reads 99 = .ok (.getfield 322, 3) := by decide +kernel
theorem dX7_reads_102 : decode cX7_reads 102 = .ok (.invokevirtual 337, 3) := by decide +kernel
theorem dX7_reads_105 : decode cX7_reads 105 = .ok (.ifCond .ne 30, 3) := by decide +kernel
theorem dX7_reads_108 : decode cX7_reads 108 = .ok (.aload_n 0, 1) := by decide +kernel
theorem dX7_reads_109 : decode cX7_reads 109 = .ok (.getfield 81, 3) := by decide +kernel
theorem dX7_reads_112 : decode cX7_reads 112 = .ok (.aload_n 0, 1) := by decide +kernel
theorem dX7_reads_113 : decode cX7_reads 113 = .ok (.getfield 322, 3) := by decide +kernel
theorem dX7_reads_116 : decode cX7_reads 116 = .ok (.iaload, 1) := by decide +kernel
theorem dX7_reads_117 : decode cX7_reads 117 = .ok (.bipush 45, 2) := by decide +kernel
theorem dX7_reads_119 : decode cX7_reads 119 = .ok (.if_icmp .ne 23, 3) := by decide +kernel
theorem dX7_reads_122 : decode cX7_reads 122 = .ok (.aload_n 0, 1) := by decide +kernel
theorem dX7_reads_123 : decode cX7_reads 123 = .ok (.aload_n 0, 1) := by decide +kernel
theorem dX7_reads_124 : decode cX7_reads 124 = .ok (.getfield 322, 3) := by decide +kernel
theorem dX7_reads_127 : decode cX7_reads 127 = .ok (.iconst 1, 1) := by decide +kernel
theorem dX7_reads_128 : decode cX7_reads 128 = .ok (.iadd, 1) := by decide +kernel
theorem dX7_reads_129 : decode cX7_reads 129 = .ok (.invokevirtual 337, 3) := by decide +kernel
theorem dX7_reads_132 : decode cX7_reads 132 = .ok (.ifCond .eq 10, 3) := by decide +kernel
theorem dX7_reads_135 : decode cX7_reads 135 = .ok (.aload_n 0, 1) := by decide +kernel
theorem dX7_reads_136 : decode cX7_reads 136 = .ok (.invokevirtual 343, 3) := by decide +kernel
theorem dX7_reads_139 : decode cX7_reads 139 = .ok (.goto 36, 3) := by decide +kernel
theorem dX7_reads_142 : decode cX7_reads 142 = .ok (.aload_n 0, 1) := by decide +kernel
theorem dX7_reads_143 : decode cX7_reads 143 = .ok (.aload_n 0, 1) := by decide +kernel
theorem dX7_reads_144 : decode cX7_reads 144 = .ok (.getfield 81, 3) := by decide +kernel
theorem dX7_reads_147 : decode cX7_reads 147 = .ok (.aload_n 0, 1) := by decide +kernel
theorem dX7_reads_148 : decode cX7_reads 148 = .ok (.getfield 322, 3) := by decide +kernel
theorem dX7_reads_151 : decode cX7_reads 151 = .ok (.iaload, 1) := by decide +kernel
theorem dX7_reads_152 : decode cX7_reads 152 = .ok (.bipush 59, 2) := by decide +kernel
theorem dX7_reads_154 : decode cX7_reads 154 = .ok (.if_icmp .ne 7, 3) := by decide +kernel
theorem dX7_reads_157 : decode cX7_reads 157 = .ok (.iconst 3, 1) := by decide +kernel
theorem dX7_reads_158 : decode cX7_reads 158 = .ok (.goto 4, 3) := by decide +kernel
theorem dX7_reads_161 : decode cX7_reads 161 = .ok (.iconst 4, 1) := by decide +kernel
theorem dX7_reads_162 : decode cX7_reads 162 = .ok (.putfield 328, 3) := by decide +kernel
theorem dX7_reads_165 : decode cX7_reads 165 = .ok (.aload_n 0, 1) := by decide +kernel
theorem dX7_reads_166 : decode cX7_reads 166 = .ok (.dup, 1) := by decide +kernel
theorem dX7_reads_167 : decode cX7_reads 167 = .ok (.getfield 322, 3) := by decide +kernel
theorem dX7_reads_170 : decode cX7_reads 170 = .ok (.iconst 1, 1) := by decide +kernel
theorem dX7_reads_171 : decode cX7_reads 171 = .ok (.iadd, 1) := by decide +kernel
theorem dX7_reads_172 : decode cX7_reads 172 = .ok (.putfield 322, 3) := by decide +kernel
theorem dX7_reads_175 : decode cX7_reads 175 = .ok (.return_, 1) := by decide +kernel
theorem dX7_isClause_0 : decode cX7_isClause 0 = .ok (.aload_n 0, 1) := by decide +kernel
theorem dX7_isClause_1 : decode cX7_isClause 1 = .ok (.invokevirtual 346, 3) := by decide +kernel
theorem dX7_isClause_4 : decode cX7_isClause 4 = .ok (.aload_n 0, 1) := by decide +kernel
theorem dX7_isClause_5 : decode cX7_isClause 5 = .ok (.getfield 328, 3) := by decide +kernel
theorem dX7_isClause_8 : decode cX7_isClause 8 = .ok (.iconst 1, 1) := by decide +kernel
theorem dX7_isClause_9 : decode cX7_isClause 9 = .ok (.if_icmp .eq 5, 3) := by decide +kernel
theorem dX7_isClause_12 : decode cX7_isClause 12 = .ok (.iconst 0, 1) := by decide +kernel
theorem dX7_isClause_13 : decode cX7_isClause 13 = .ok (.ireturn, 1) := by decide +kernel
theorem dX7_isClause_14 : decode cX7_isClause 14 = .ok (.aload_n 0, 1) := by decide +kernel
theorem dX7_isClause_15 : decode cX7_isClause 15 = .ok (.getfield 334, 3) := by decide +kernel
theorem dX7_isClause_18 : decode cX7_isClause 18 = .ok (.istore_n 2, 1) := by decide +kernel
theorem dX7_isClause_19 : decode cX7_isClause 19 = .ok (.iconst 0, 1) := by decide +kernel
theorem dX7_isClause_20 : decode cX7_isClause 20 = .ok (.istore_n 3, 1) := by decide +kernel
theorem dX7_isClause_21 : decode cX7_isClause 21 = .ok (.iload_n 3, 1) := by decide +kernel
theorem dX7_isClause_22 : decode cX7_isClause 22 = .ok (.aload_n 0, 1) := by decide +kernel
theorem dX7_isClause_23 : decode cX7_isClause 23 = .ok (.getfield 78, 3) := by decide +kernel
theorem dX7_isClause_26 : decode cX7_isClause 26 = .ok (.iload_n 2, 1) := by decide +kernel
theorem dX7_isClause_27 : decode cX7_isClause 27 = .ok (.iaload, 1) := by decide +kernel
theorem dX7_isClause_28 : decode cX7_isClause 28 = .ok (.if_icmp .ge 33, 3) := by decide +kernel
theorem dX7_isClause_31 : decode cX7_isClause 31 = .ok (.aload_n 0, 1) := by decide +kernel
theorem dX7_isClause_32 : decode cX7_isClause 32 = .ok (.invokevirtual 346, 3) := by decide +kernel
theorem dX7_isClause_35 : decode cX7_isClause 35 = .ok (.aload_n 0, 1) := by decide +kernel
theorem dX7_isClause_36 : decode cX7_isClause 36 = .ok (.getfield 328, 3) := by decide +kernel
theorem dX7_isClause_39 : decode cX7_isClause 39 = .ok (.iconst 2, 1) := by decide +kernel
theorem dX7_isClause_40 : decode cX7_isClause 40 = .ok (.if_icmp .eq 5, 3) := by decide +kernel
theorem dX7_isClause_43 : decode cX7_isClause 43 = .ok (.iconst 0, 1) := by decide +kernel
theorem dX7_isClause_44 : decode cX7_isClause 44 = .ok (.ireturn, 1) := by decide +kernel
theorem dX7_isClause_45 : decode cX7_isClause 45 = .ok (.aload_n 0, 1) := by decide +kernel
theorem dX7_isClause_46 : decode cX7_isClause 46 = .ok (.getfield 84, 3) := by decide +kernel
theorem dX7_isClause_49 : decode cX7_isClause 49 = .ok (.iload_n 3, 1) := by decide +kernel
theorem dX7_isClause_50 : decode cX7_isClause 50 = .ok (.aload_n 0, 1) := by decide +kernel
theorem dX7_isClause_51 : decode cX7_isClause 51 = .ok (.getfield 334, 3) := by decide +kernel
theorem dX7_isClause_54 : decode cX7_isClause 54 = .ok (.iastore, 1) := by decide +kernel
theorem dX7_isClause_55 : decode cX7_isClause 55 = .ok (.iinc 3 1, 3) := by decide +kernel
theorem dX7_isClause_58 : decode cX7_isClause 58 = .ok (.goto (-37), 3) := by decide +kernel
theorem dX7_isClause_61 : decode cX7_isClause 61 = .ok (.aload_n 0, 1) := by decide +kernel
theorem dX7_isClause_62 : decode cX7_isClause 62 = .ok (.dup, 1) := by decide +kernel
theorem dX7_isClause_63 : decode cX7_isClause 63 = .ok (.getfield 349, 3) := by decide +kernel
theorem dX7_isClause_66 : decode cX7_isClause 66 = .ok (.iload_n 1, 1) := by decide +kernel
theorem dX7_isClause_67 : decode cX7_isClause 67 = .ok (.ifCond .eq 15, 3) := by decide +kernel
theorem dX7_isClause_70 : decode cX7_isClause 70 = .ok (.aload_n 0, 1) := by decide +kernel
theorem dX7_isClause_71 : decode cX7_isClause 71 = .ok (.iload_n 2, 1) := by decide +kernel
theorem dX7_isClause_72 : decode cX7_isClause 72 = .ok (.invokevirtual 352, 3) := by decide +kernel
theorem dX7_isClause_75 : decode cX7_isClause 75 = .ok (.ifCond .eq 7, 3) := by decide +kernel
theorem dX7_isClause_78 : decode cX7_isClause 78 = .ok (.iconst 1, 1) := by decide +kernel
theorem dX7_isClause_79 : decode cX7_isClause 79 = .ok (.goto 4, 3) := by decide +kernel
theorem dX7_isClause_82 : decode cX7_isClause 82 = .ok (.iconst 0, 1) := by decide +kernel
theorem dX7_isClause_83 : decode cX7_isClause 83 = .ok (.iadd, 1) := by decide +kernel
theorem dX7_isClause_84 : decode cX7_isClause 84 = .ok (.putfield 349, 3) := by decide +kernel
theorem dX7_isClause_87 : decode cX7_isClause 87 = .ok (.aload_n 0, 1) := by decide +kernel
theorem dX7_isClause_88 : decode cX7_isClause 88 = .ok (.invokevirtual 346, 3) := by decide +kernel
theorem dX7_isClause_91 : decode cX7_isClause 91 = .ok (.aload_n 0, 1) := by decide +kernel
theorem dX7_isClause_92 : decode cX7_isClause 92 = .ok (.getfield 328, 3) := by decide +kernel
theorem dX7_isClause_95 : decode cX7_isClause 95 = .ok (.ifCond .eq 11, 3) := by decide +kernel
theorem dX7_isClause_98 : decode cX7_isClause 98 = .ok (.aload_n 0, 1) := by decide +kernel
theorem dX7_isClause_99 : decode cX7_isClause 99 = .ok (.getfield 328, 3) := by decide +kernel
theorem dX7_isClause_102 : decode cX7_isClause 102 = .ok (.iconst 3, 1) := by decide +kernel
theorem dX7_isClause_103 : decode cX7_isClause 103 = .ok (.if_icmp .ne 7, 3) := by decide +kernel
theorem dX7_isClause_106 : decode cX7_isClause 106 = .ok (.iconst 1, 1) := by decide +kernel
theorem dX7_isClause_107 : decode cX7_isClause 107 = .ok (.goto 4, 3) := by decide +kernel
theorem dX7_isClause_110 : decode cX7_isClause 110 = .ok (.iconst 0, 1) := by decide +kernel
theorem dX7_isClause_111 : decode cX7_isClause 111 = .ok (.ireturn, 1) := by decide +kernel
theorem dX7_isDone_0 : decode cX7_isDone 0 = .ok (.iload_n 1, 1) := by decide +kernel
theorem dX7_isDone_1 : decode cX7_isDone 1 = .ok (.tableswitch 235 0 6 #[43, 80, 106, 135, 158, 181, 204], 43) := by decide +kernel
theorem dX7_isDone_44 : decode cX7_isDone 44 = .ok (.aload_n 0, 1) := by decide +kernel
theorem dX7_isDone_45 : decode cX7_isDone 45 = .ok (.aload_n 0, 1) := by decide +kernel
theorem dX7_isDone_46 : decode cX7_isDone 46 = .ok (.getfield 84, 3) := by decide +kernel
theorem dX7_isDone_49 : decode cX7_isDone 49 = .ok (.iconst 0, 1) := by decide +kernel
theorem dX7_isDone_50 : decode cX7_isDone 50 = .ok (.iaload, 1) := by decide +kernel
theorem dX7_isDone_51 : decode cX7_isDone 51 = .ok (.aload_n 0, 1) := by decide +kernel
theorem dX7_isDone_52 : decode cX7_isDone 52 = .ok (.getfield 84, 3) := by decide +kernel
theorem dX7_isDone_55 : decode cX7_isDone 55 = .ok (.iconst 1, 1) := by decide +kernel
theorem dX7_isDone_56 : decode cX7_isDone 56 = .ok (.iaload, 1) := by decide +kernel
theorem dX7_isDone_57 : decode cX7_isDone 57 = .ok (.aload_n 0, 1) := by decide +kernel
theorem dX7_isDone_58 : decode cX7_isDone 58 = .ok (.getfield 84, 3) := by decide +kernel
theorem dX7_isDone_61 : decode cX7_isDone 61 = .ok (.iconst 2, 1) := by decide +kernel
theorem dX7_isDone_62 : decode cX7_isDone 62 = .ok (.iaload, 1) := by decide +kernel
theorem dX7_isDone_63 : decode cX7_isDone 63 = .ok (.aload_n 0, 1) := by decide +kernel
theorem dX7_isDone_64 : decode cX7_isDone 64 = .ok (.getfield 84, 3) := by decide +kernel
theorem dX7_isDone_67 : decode cX7_isDone 67 = .ok (.iconst 3, 1) := by decide +kernel
theorem dX7_isDone_68 : decode cX7_isDone 68 = .ok (.iaload, 1) := by decide +kernel
theorem dX7_isDone_69 : decode cX7_isDone 69 = .ok (.invokevirtual 355, 3) := by decide +kernel
theorem dX7_isDone_72 : decode cX7_isDone 72 = .ok (.ifCond .lt 7, 3) := by decide +kernel
theorem dX7_isDone_75 : decode cX7_isDone 75 = .ok (.iconst 1, 1) := by decide +kernel
theorem dX7_isDone_76 : decode cX7_isDone 76 = .ok (.goto 4, 3) := by decide +kernel
theorem dX7_isDone_79 : decode cX7_isDone 79 = .ok (.iconst 0, 1) := by decide +kernel
theorem dX7_isDone_80 : decode cX7_isDone 80 = .ok (.ireturn, 1) := by decide +kernel
theorem dX7_isDone_81 : decode cX7_isDone 81 = .ok (.aload_n 0, 1) := by decide +kernel
theorem dX7_isDone_82 : decode cX7_isDone 82 = .ok (.aload_n 0, 1) := by decide +kernel
theorem dX7_isDone_83 : decode cX7_isDone 83 = .ok (.getfield 84, 3) := by decide +kernel
theorem dX7_isDone_86 : decode cX7_isDone 86 = .ok (.iconst 0, 1) := by decide +kernel
theorem dX7_isDone_87 : decode cX7_isDone 87 = .ok (.iaload, 1) := by decide +kernel
theorem dX7_isDone_88 : decode cX7_isDone 88 = .ok (.aload_n 0, 1) := by decide +kernel
theorem dX7_isDone_89 : decode cX7_isDone 89 = .ok (.getfield 84, 3) := by decide +kernel
theorem dX7_isDone_92 : decode cX7_isDone 92 = .ok (.iconst 1, 1) := by decide +kernel
theorem dX7_isDone_93 : decode cX7_isDone 93 = .ok (.iaload, 1) := by decide +kernel
theorem dX7_isDone_94 : decode cX7_isDone 94 = .ok (.invokevirtual 359, 3) := by decide +kernel
theorem dX7_isDone_97 : decode cX7_isDone 97 = .ok (.iconst 1, 1) := by decide +kernel
theorem dX7_isDone_98 : decode cX7_isDone 98 = .ok (.if_icmp .ne 7, 3) := by decide +kernel
theorem dX7_isDone_101 : decode cX7_isDone 101 = .ok (.iconst 1, 1) := by decide +kernel
theorem dX7_isDone_102 : decode cX7_isDone 102 = .ok (.goto 4, 3) := by decide +kernel
theorem dX7_isDone_105 : decode cX7_isDone 105 = .ok (.iconst 0, 1) := by decide +kernel
theorem dX7_isDone_106 : decode cX7_isDone 106 = .ok (.ireturn, 1) := by decide +kernel
theorem dX7_isDone_107 : decode cX7_isDone 107 = .ok (.aload_n 0, 1) := by decide +kernel
theorem dX7_isDone_108 : decode cX7_isDone 108 = .ok (.aload_n 0, 1) := by decide +kernel
theorem dX7_isDone_109 : decode cX7_isDone 109 = .ok (.getfield 84, 3) := by decide +kernel
theorem dX7_isDone_112 : decode cX7_isDone 112 = .ok (.iconst 0, 1) := by decide +kernel
theorem dX7_isDone_113 : decode cX7_isDone 113 = .ok (.iaload, 1) := by decide +kernel
theorem dX7_isDone_114 : decode cX7_isDone 114 = .ok (.iconst 3, 1) := by decide +kernel
theorem dX7_isDone_115 : decode cX7_isDone 115 = .ok (.aload_n 0, 1) := by decide +kernel
theorem dX7_isDone_116 : decode cX7_isDone 116 = .ok (.getfield 84, 3) := by decide +kernel
theorem dX7_isDone_119 : decode cX7_isDone 119 = .ok (.iconst 1, 1) := by decide +kernel
theorem dX7_isDone_120 : decode cX7_isDone 120 = .ok (.iaload, 1) := by decide +kernel
theorem dX7_isDone_121 : decode cX7_isDone 121 = .ok (.invokevirtual 362, 3) := by decide +kernel
theorem dX7_isDone_124 : decode cX7_isDone 124 = .ok (.sipush (-1000), 3) := by decide +kernel
theorem dX7_isDone_127 : decode cX7_isDone 127 = .ok (.if_icmp .eq 7, 3) := by decide +kernel
theorem dX7_isDone_130 : decode cX7_isDone 130 = .ok (.iconst 1, 1) := by decide +kernel
theorem dX7_isDone_131 : decode cX7_isDone 131 = .ok (.goto 4, 3) := by decide +kernel
theorem dX7_isDone_134 : decode cX7_isDone 134 = .ok (.iconst 0, 1) := by decide +kernel
theorem dX7_isDone_135 : decode cX7_isDone 135 = .ok (.ireturn, 1) := by decide +kernel
theorem dX7_isDone_136 : decode cX7_isDone 136 = .ok (.aload_n 0, 1) := by decide +kernel
theorem dX7_isDone_137 : decode cX7_isDone 137 = .ok (.iconst 0, 1) := by decide +kernel
theorem dX7_isDone_138 : decode cX7_isDone 138 = .ok (.aload_n 0, 1) := by decide +kernel
theorem dX7_isDone_139 : decode cX7_isDone 139 = .ok (.getfield 84, 3) := by decide +kernel
theorem dX7_isDone_142 : decode cX7_isDone 142 = .ok (.iconst 0, 1) := by decide +kernel
theorem dX7_isDone_143 : decode cX7_isDone 143 = .ok (.iaload, 1) := by decide +kernel
theorem dX7_isDone_144 : decode cX7_isDone 144 = .ok (.invokevirtual 366, 3) := by decide +kernel
theorem dX7_isDone_147 : decode cX7_isDone 147 = .ok (.sipush (-1000), 3) := by decide +kernel
theorem dX7_isDone_150 : decode cX7_isDone 150 = .ok (.if_icmp .eq 7, 3) := by decide +kernel
theorem dX7_isDone_153 : decode cX7_isDone 153 = .ok (.iconst 1, 1) := by decide +kernel
theorem dX7_isDone_154 : decode cX7_isDone 154 = .ok (.goto 4, 3) := by decide +kernel
theorem dX7_isDone_157 : decode cX7_isDone 157 = .ok (.iconst 0, 1) := by decide +kernel
theorem dX7_isDone_158 : decode cX7_isDone 158 = .ok (.ireturn, 1) := by decide +kernel
theorem dX7_isDone_159 : decode cX7_isDone 159 = .ok (.aload_n 0, 1) := by decide +kernel
theorem dX7_isDone_160 : decode cX7_isDone 160 = .ok (.iconst 1, 1) := by decide +kernel
theorem dX7_isDone_161 : decode cX7_isDone 161 = .ok (.aload_n 0, 1) := by decide +kernel
theorem dX7_isDone_162 : decode cX7_isDone 162 = .ok (.getfield 84, 3) := by decide +kernel
theorem dX7_isDone_165 : decode cX7_isDone 165 = .ok (.iconst 0, 1) := by decide +kernel
theorem dX7_isDone_166 : decode cX7_isDone 166 = .ok (.iaload, 1) := by decide +kernel
theorem dX7_isDone_167 : decode cX7_isDone 167 = .ok (.invokevirtual 366, 3) := by decide +kernel
theorem dX7_isDone_170 : decode cX7_isDone 170 = .ok (.sipush (-1000), 3) := by decide +kernel
theorem dX7_isDone_173 : decode cX7_isDone 173 = .ok (.if_icmp .eq 7, 3) := by decide +kernel
theorem dX7_isDone_176 : decode cX7_isDone 176 = .ok (.iconst 1, 1) := by decide +kernel
theorem dX7_isDone_177 : decode cX7_isDone 177 = .ok (.goto 4, 3) := by decide +kernel
theorem dX7_isDone_180 : decode cX7_isDone 180 = .ok (.iconst 0, 1) := by decide +kernel
theorem dX7_isDone_181 : decode cX7_isDone 181 = .ok (.ireturn, 1) := by decide +kernel
theorem dX7_isDone_182 : decode cX7_isDone 182 = .ok (.aload_n 0, 1) := by decide +kernel
theorem dX7_isDone_183 : decode cX7_isDone 183 = .ok (.iconst 0, 1) := by decide +kernel
theorem dX7_isDone_184 : decode cX7_isDone 184 = .ok (.aload_n 0, 1) := by decide +kernel
theorem dX7_isDone_185 : decode cX7_isDone 185 = .ok (.getfield 84, 3) := by decide +kernel
theorem dX7_isDone_188 : decode cX7_isDone 188 = .ok (.iconst 0, 1) := by decide +kernel
theorem dX7_isDone_189 : decode cX7_isDone 189 = .ok (.iaload, 1) := by decide +kernel
theorem dX7_isDone_190 : decode cX7_isDone 190 = .ok (.invokevirtual 369, 3) := by decide +kernel
theorem dX7_isDone_193 : decode cX7_isDone 193 = .ok (.sipush (-1000), 3) := by decide +kernel
theorem dX7_isDone_196 : decode cX7_isDone 196 = .ok (.if_icmp .eq 7, 3) := by decide +kernel
theorem dX7_isDone_199 : decode cX7_isDone 199 = .ok (.iconst 1, 1) := by decide +kernel
theorem dX7_isDone_200 : decode cX7_isDone 200 = .ok (.goto 4, 3) := by decide +kernel
theorem dX7_isDone_203 : decode cX7_isDone 203 = .ok (.iconst 0, 1) := by decide +kernel
theorem dX7_isDone_204 : decode cX7_isDone 204 = .ok (.ireturn, 1) := by decide +kernel
theorem dX7_isDone_205 : decode cX7_isDone 205 = .ok (.aload_n 0, 1) := by decide +kernel
theorem dX7_isDone_206 : decode cX7_isDone 206 = .ok (.aload_n 0, 1) := by decide +kernel
theorem dX7_isDone_207 : decode cX7_isDone 207 = .ok (.getfield 84, 3) := by decide +kernel
theorem dX7_isDone_210 : decode cX7_isDone 210 = .ok (.iconst 0, 1) := by decide +kernel
theorem dX7_isDone_211 : decode cX7_isDone 211 = .ok (.iaload, 1) := by decide +kernel
theorem dX7_isDone_212 : decode cX7_isDone 212 = .ok (.aload_n 0, 1) := by decide +kernel
theorem dX7_isDone_213 : decode cX7_isDone 213 = .ok (.getfield 84, 3) := by decide +kernel
theorem dX7_isDone_216 : decode cX7_isDone 216 = .ok (.iconst 1, 1) := by decide +kernel
theorem dX7_isDone_217 : decode cX7_isDone 217 = .ok (.iaload, 1) := by decide +kernel
theorem dX7_isDone_218 : decode cX7_isDone 218 = .ok (.aload_n 0, 1) := by decide +kernel
theorem dX7_isDone_219 : decode cX7_isDone 219 = .ok (.getfield 84, 3) := by decide +kernel
theorem dX7_isDone_222 : decode cX7_isDone 222 = .ok (.iconst 2, 1) := by decide +kernel
theorem dX7_isDone_223 : decode cX7_isDone 223 = .ok (.iaload, 1) := by decide +kernel
theorem dX7_isDone_224 : decode cX7_isDone 224 = .ok (.invokevirtual 372, 3) := by decide +kernel
theorem dX7_isDone_227 : decode cX7_isDone 227 = .ok (.ifCond .le 7, 3) := by decide +kernel
theorem dX7_isDone_230 : decode cX7_isDone 230 = .ok (.iconst 1, 1) := by decide +kernel
theorem dX7_isDone_231 : decode cX7_isDone 231 = .ok (.goto 4, 3) := by decide +kernel
theorem dX7_isDone_234 : decode cX7_isDone 234 = .ok (.iconst 0, 1) := by decide +kernel
theorem dX7_isDone_235 : decode cX7_isDone 235 = .ok (.ireturn, 1) := by decide +kernel
theorem dX7_isDone_236 : decode cX7_isDone 236 = .ok (.aload_n 0, 1) := by decide +kernel
theorem dX7_isDone_237 : decode cX7_isDone 237 = .ok (.invokevirtual 375, 3) := by decide +kernel
theorem dX7_isDone_240 : decode cX7_isDone 240 = .ok (.ifCond .lt 7, 3) := by decide +kernel
theorem dX7_isDone_243 : decode cX7_isDone 243 = .ok (.iconst 1, 1) := by decide +kernel
theorem dX7_isDone_244 : decode cX7_isDone 244 = .ok (.goto 4, 3) := by decide +kernel
theorem dX7_isDone_247 : decode cX7_isDone 247 = .ok (.iconst 0, 1) := by decide +kernel
theorem dX7_isDone_248 : decode cX7_isDone 248 = .ok (.ireturn, 1) := by decide +kernel
theorem dX7_isText_0 : decode cX7_isText 0 = .ok (.aload_n 0, 1) := by decide +kernel
theorem dX7_isText_1 : decode cX7_isText 1 = .ok (.iconst 0, 1) := by decide +kernel
theorem dX7_isText_2 : decode cX7_isText 2 = .ok (.putfield 322, 3) := by decide +kernel
theorem dX7_isText_5 : decode cX7_isText 5 = .ok (.aload_n 0, 1) := by decide +kernel
theorem dX7_isText_6 : decode cX7_isText 6 = .ok (.iconst 0, 1) := by decide +kernel
theorem dX7_isText_7 : decode cX7_isText 7 = .ok (.putfield 349, 3) := by decide +kernel
theorem dX7_isText_10 : decode cX7_isText 10 = .ok (.aload_n 0, 1) := by decide +kernel
theorem dX7_isText_11 : decode cX7_isText 11 = .ok (.iload_n 1, 1) := by decide +kernel
theorem dX7_isText_12 : decode cX7_isText 12 = .ok (.invokevirtual 379, 3) := by decide +kernel
theorem dX7_isText_15 : decode cX7_isText 15 = .ok (.istore_n 2, 1) := by decide +kernel
theorem dX7_isText_16 : decode cX7_isText 16 = .ok (.iload_n 2, 1) := by decide +kernel
theorem dX7_isText_17 : decode cX7_isText 17 = .ok (.ifCond .eq 20, 3) := by decide +kernel
theorem dX7_isText_20 : decode cX7_isText 20 = .ok (.aload_n 0, 1) := by decide +kernel
theorem dX7_isText_21 : decode cX7_isText 21 = .ok (.getfield 328, 3) := by decide +kernel
theorem dX7_isText_24 : decode cX7_isText 24 = .ok (.iconst 3, 1) := by decide +kernel
theorem dX7_isText_25 : decode cX7_isText 25 = .ok (.if_icmp .ne 12, 3) := by decide +kernel
theorem dX7_isText_28 : decode cX7_isText 28 = .ok (.aload_n 0, 1) := by decide +kernel
theorem dX7_isText_29 : decode cX7_isText 29 = .ok (.iload_n 1, 1) := by decide +kernel
theorem dX7_isText_30 : decode cX7_isText 30 = .ok (.invokevirtual 379, 3) := by decide +kernel
theorem dX7_isText_33 : decode cX7_isText 33 = .ok (.istore_n 2, 1) := by decide +kernel
theorem dX7_isText_34 : decode cX7_isText 34 = .ok (.goto (-18), 3) := by decide +kernel
theorem dX7_isText_37 : decode cX7_isText 37 = .ok (.iload_n 2, 1) := by decide +kernel
theorem dX7_isText_38 : decode cX7_isText 38 = .ok (.ireturn, 1) := by decide +kernel
theorem dX7_text_0 : decode cX7_text 0 = .ok (.aload_n 0, 1) := by decide +kernel
theorem dX7_text_1 : decode cX7_text 1 = .ok (.aload_n 0, 1) := by decide +kernel
theorem dX7_text_2 : decode cX7_text 2 = .ok (.getfield 308, 3) := by decide +kernel
theorem dX7_text_5 : decode cX7_text 5 = .ok (.putfield 311, 3) := by decide +kernel
theorem dX7_text_8 : decode cX7_text 8 = .ok (.aload_n 0, 1) := by decide +kernel
theorem dX7_text_9 : decode cX7_text 9 = .ok (.iconst 0, 1) := by decide +kernel
theorem dX7_text_10 : decode cX7_text 10 = .ok (.putfield 308, 3) := by decide +kernel
theorem dX7_text_13 : decode cX7_text 13 = .ok (.aload_n 0, 1) := by decide +kernel
theorem dX7_text_14 : decode cX7_text 14 = .ok (.iconst 0, 1) := by decide +kernel
theorem dX7_text_15 : decode cX7_text 15 = .ok (.invokevirtual 383, 3) := by decide +kernel
theorem dX7_text_18 : decode cX7_text 18 = .ok (.ifCond .ne 11, 3) := by decide +kernel
theorem dX7_text_21 : decode cX7_text 21 = .ok (.bipush (-100), 2) := by decide +kernel
theorem dX7_text_23 : decode cX7_text 23 = .ok (.aload_n 0, 1) := by decide +kernel
theorem dX7_text_24 : decode cX7_text 24 = .ok (.getfield 331, 3) := by decide +kernel
theorem dX7_text_27 : decode cX7_text 27 = .ok (.isub, 1) := by decide +kernel
theorem dX7_text_28 : decode cX7_text 28 = .ok (.ireturn, 1) := by decide +kernel
theorem dX7_text_29 : decode cX7_text 29 = .ok (.aload_n 0, 1) := by decide +kernel
theorem dX7_text_30 : decode cX7_text 30 = .ok (.iconst 1, 1) := by decide +kernel
theorem dX7_text_31 : decode cX7_text 31 = .ok (.invokevirtual 383, 3) := by decide +kernel
theorem dX7_text_34 : decode cX7_text 34 = .ok (.pop, 1) := by decide +kernel
theorem dX7_text_35 : decode cX7_text 35 = .ok (.aload_n 0, 1) := by decide +kernel
theorem dX7_text_36 : decode cX7_text 36 = .ok (.getfield 349, 3) := by decide +kernel
theorem dX7_text_39 : decode cX7_text 39 = .ok (.ireturn, 1) := by decide +kernel
theorem dX7_image_0 : decode cX7_image 0 = .ok (.aload_n 0, 1) := by decide +kernel
theorem dX7_image_1 : decode cX7_image 1 = .ok (.iconst 1, 1) := by decide +kernel
theorem dX7_image_2 : decode cX7_image 2 = .ok (.putfield 386, 3) := by decide +kernel
theorem dX7_image_5 : decode cX7_image 5 = .ok (.aload_n 0, 1) := by decide +kernel
theorem dX7_image_6 : decode cX7_image 6 = .ok (.aload_n 0, 1) := by decide +kernel
theorem dX7_image_7 : decode cX7_image 7 = .ok (.getfield 129, 3) := by decide +kernel
theorem dX7_image_10 : decode cX7_image 10 = .ok (.putfield 390, 3) := by decide +kernel
theorem dX7_image_13 : decode cX7_image 13 = .ok (.iconst 0, 1) := by decide +kernel
theorem dX7_image_14 : decode cX7_image 14 = .ok (.istore_n 1, 1) := by decide +kernel
theorem dX7_image_15 : decode cX7_image 15 = .ok (.iload_n 1, 1) := by decide +kernel
theorem dX7_image_16 : decode cX7_image 16 = .ok (.aload_n 0, 1) := by decide +kernel
theorem dX7_image_17 : decode cX7_image 17 = .ok (.getfield 129, 3) := by decide +kernel
theorem dX7_image_20 : decode cX7_image 20 = .ok (.if_icmp .ge 69, 3) := by decide +kernel
theorem dX7_image_23 : decode cX7_image 23 = .ok (.aload_n 0, 1) := by decide +kernel
theorem dX7_image_24 : decode cX7_image 24 = .ok (.getfield 87, 3) := by decide +kernel
theorem dX7_image_27 : decode cX7_image 27 = .ok (.iload_n 1, 1) := by decide +kernel
theorem dX7_image_28 : decode cX7_image 28 = .ok (.aload_n 0, 1) := by decide +kernel
theorem dX7_image_29 : decode cX7_image 29 = .ok (.getfield 11, 3) := by decide +kernel
theorem dX7_image_32 : decode cX7_image 32 = .ok (.iload_n 1, 1) := by decide +kernel
theorem dX7_image_33 : decode cX7_image 33 = .ok (.iaload, 1) := by decide +kernel
theorem dX7_image_34 : decode cX7_image 34 = .ok (.iastore, 1) := by decide +kernel
theorem dX7_image_35 : decode cX7_image 35 = .ok (.aload_n 0, 1) := by decide +kernel
theorem dX7_image_36 : decode cX7_image 36 = .ok (.getfield 90, 3) := by decide +kernel
theorem dX7_image_39 : decode cX7_image 39 = .ok (.iload_n 1, 1) := by decide +kernel
theorem dX7_image_40 : decode cX7_image 40 = .ok (.aload_n 0, 1) := by decide +kernel
theorem dX7_image_41 : decode cX7_image 41 = .ok (.getfield 15, 3) := by decide +kernel
theorem dX7_image_44 : decode cX7_image 44 = .ok (.iload_n 1, 1) := by decide +kernel
theorem dX7_image_45 : decode cX7_image 45 = .ok (.iaload, 1) := by decide +kernel
theorem dX7_image_46 : decode cX7_image 46 = .ok (.iastore, 1) := by decide +kernel
theorem dX7_image_47 : decode cX7_image 47 = .ok (.aload_n 0, 1) := by decide +kernel
theorem dX7_image_48 : decode cX7_image 48 = .ok (.getfield 93, 3) := by decide +kernel
theorem dX7_image_51 : decode cX7_image 51 = .ok (.iload_n 1, 1) := by decide +kernel
theorem dX7_image_52 : decode cX7_image 52 = .ok (.aload_n 0, 1) := by decide +kernel
theorem dX7_image_53 : decode cX7_image 53 = .ok (.getfield 18, 3) := by decide +kernel
theorem dX7_image_56 : decode cX7_image 56 = .ok (.iload_n 1, 1) := by decide +kernel
theorem dX7_image_57 : decode cX7_image 57 = .ok (.iaload, 1) := by decide +kernel
theorem dX7_image_58 : decode cX7_image 58 = .ok (.iastore, 1) := by decide +kernel
theorem dX7_image_59 : decode cX7_image 59 = .ok (.aload_n 0, 1) := by decide +kernel
theorem dX7_image_60 : decode cX7_image 60 = .ok (.getfield 96, 3) := by decide +kernel
theorem dX7_image_63 : decode cX7_image 63 = .ok (.iload_n 1, 1) := by decide +kernel
theorem dX7_image_64 : decode cX7_image 64 = .ok (.aload_n 0, 1) := by decide +kernel
theorem dX7_image_65 : decode cX7_image 65 = .ok (.getfield 21, 3) := by decide +kernel
theorem dX7_image_68 : decode cX7_image 68 = .ok (.iload_n 1, 1) := by decide +kernel
theorem dX7_image_69 : decode cX7_image 69 = .ok (.iaload, 1) := by decide +kernel
theorem dX7_image_70 : decode cX7_image 70 = .ok (.iastore, 1) := by decide +kernel
theorem dX7_image_71 : decode cX7_image 71 = .ok (.aload_n 0, 1) := by decide +kernel
theorem dX7_image_72 : decode cX7_image 72 = .ok (.getfield 99, 3) := by decide +kernel
theorem dX7_image_75 : decode cX7_image 75 = .ok (.iload_n 1, 1) := by decide +kernel
theorem dX7_image_76 : decode cX7_image 76 = .ok (.aload_n 0, 1) := by decide +kernel
theorem dX7_image_77 : decode cX7_image 77 = .ok (.getfield 24, 3) := by decide +kernel
theorem dX7_image_80 : decode cX7_image 80 = .ok (.iload_n 1, 1) := by decide +kernel
theorem dX7_image_81 : decode cX7_image 81 = .ok (.laload, 1) := by decide +kernel
theorem dX7_image_82 : decode cX7_image 82 = .ok (.lastore, 1) := by decide +kernel
theorem dX7_image_83 : decode cX7_image 83 = .ok (.iinc 1 1, 3) := by decide +kernel
theorem dX7_image_86 : decode cX7_image 86 = .ok (.goto (-71), 3) := by decide +kernel
theorem dX7_image_89 : decode cX7_image 89 = .ok (.aload_n 0, 1) := by decide +kernel
theorem dX7_image_90 : decode cX7_image 90 = .ok (.aload_n 0, 1) := by decide +kernel
theorem dX7_image_91 : decode cX7_image 91 = .ok (.getfield 28, 3) := by decide +kernel
theorem dX7_image_94 : decode cX7_image 94 = .ok (.putfield 393, 3) := by decide +kernel
theorem dX7_image_97 : decode cX7_image 97 = .ok (.iconst 0, 1) := by decide +kernel
theorem dX7_image_98 : decode cX7_image 98 = .ok (.istore_n 1, 1) := by decide +kernel
theorem dX7_image_99 : decode cX7_image 99 = .ok (.iload_n 1, 1) := by decide +kernel
theorem dX7_image_100 : decode cX7_image 100 = .ok (.iconst 2, 1) := by decide +kernel
theorem dX7_image_101 : decode cX7_image 101 = .ok (.if_icmp .ge 33, 3) := by decide +kernel
theorem dX7_image_104 : decode cX7_image 104 = .ok (.aload_n 0, 1) := by decide +kernel
theorem dX7_image_105 : decode cX7_image 105 = .ok (.getfield 102, 3) := by decide +kernel
theorem dX7_image_108 : decode cX7_image 108 = .ok (.iload_n 1, 1) := by decide +kernel
theorem dX7_image_109 : decode cX7_image 109 = .ok (.aload_n 0, 1) := by decide +kernel
theorem dX7_image_110 : decode cX7_image 110 = .ok (.getfield 32, 3) := by decide +kernel
theorem dX7_image_113 : decode cX7_image 113 = .ok (.iload_n 1, 1) := by decide +kernel
theorem dX7_image_114 : decode cX7_image 114 = .ok (.iaload, 1) := by decide +kernel
theorem dX7_image_115 : decode cX7_image 115 = .ok (.iastore, 1) := by decide +kernel
theorem dX7_image_116 : decode cX7_image 116 = .ok (.aload_n 0, 1) := by decide +kernel
theorem dX7_image_117 : decode cX7_image 117 = .ok (.getfield 105, 3) := by decide +kernel
theorem dX7_image_120 : decode cX7_image 120 = .ok (.iload_n 1, 1) := by decide +kernel
theorem dX7_image_121 : decode cX7_image 121 = .ok (.aload_n 0, 1) := by decide +kernel
theorem dX7_image_122 : decode cX7_image 122 = .ok (.getfield 35, 3) := by decide +kernel
theorem dX7_image_125 : decode cX7_image 125 = .ok (.iload_n 1, 1) := by decide +kernel
theorem dX7_image_126 : decode cX7_image 126 = .ok (.iaload, 1) := by decide +kernel
theorem dX7_image_127 : decode cX7_image 127 = .ok (.iastore, 1) := by decide +kernel
theorem dX7_image_128 : decode cX7_image 128 = .ok (.iinc 1 1, 3) := by decide +kernel
theorem dX7_image_131 : decode cX7_image 131 = .ok (.goto (-32), 3) := by decide +kernel
theorem dX7_image_134 : decode cX7_image 134 = .ok (.aload_n 0, 1) := by decide +kernel
theorem dX7_image_135 : decode cX7_image 135 = .ok (.aload_n 0, 1) := by decide +kernel
theorem dX7_image_136 : decode cX7_image 136 = .ok (.getfield 210, 3) := by decide +kernel
theorem dX7_image_139 : decode cX7_image 139 = .ok (.putfield 396, 3) := by decide +kernel
theorem dX7_image_142 : decode cX7_image 142 = .ok (.iconst 0, 1) := by decide +kernel
theorem dX7_image_143 : decode cX7_image 143 = .ok (.istore_n 1, 1) := by decide +kernel
theorem dX7_image_144 : decode cX7_image 144 = .ok (.iload_n 1, 1) := by decide +kernel
theorem dX7_image_145 : decode cX7_image 145 = .ok (.aload_n 0, 1) := by decide +kernel
theorem dX7_image_146 : decode cX7_image 146 = .ok (.getfield 210, 3) := by decide +kernel
theorem dX7_image_149 : decode cX7_image 149 = .ok (.if_icmp .ge 45, 3) := by decide +kernel
theorem dX7_image_152 : decode cX7_image 152 = .ok (.aload_n 0, 1) := by decide +kernel
theorem dX7_image_153 : decode cX7_image 153 = .ok (.getfield 108, 3) := by decide +kernel
theorem dX7_image_156 : decode cX7_image 156 = .ok (.iload_n 1, 1) := by decide +kernel
theorem dX7_image_157 : decode cX7_image 157 = .ok (.aload_n 0, 1) := by decide +kernel
theorem dX7_image_158 : decode cX7_image 158 = .ok (.getfield 38, 3) := by decide +kernel
theorem dX7_image_161 : decode cX7_image 161 = .ok (.iload_n 1, 1) := by decide +kernel
theorem dX7_image_162 : decode cX7_image 162 = .ok (.iaload, 1) := by decide +kernel
theorem dX7_image_163 : decode cX7_image 163 = .ok (.iastore, 1) := by decide +kernel
theorem dX7_image_164 : decode cX7_image 164 = .ok (.aload_n 0, 1) := by decide +kernel
theorem dX7_image_165 : decode cX7_image 165 = .ok (.getfield 111, 3) := by decide +kernel
theorem dX7_image_168 : decode cX7_image 168 = .ok (.iload_n 1, 1) := by decide +kernel
theorem dX7_image_169 : decode cX7_image 169 = .ok (.aload_n 0, 1) := by decide +kernel
theorem dX7_image_170 : decode cX7_image 170 = .ok (.getfield 41, 3) := by decide +kernel
theorem dX7_image_173 : decode cX7_image 173 = .ok (.iload_n 1, 1) := by decide +kernel
theorem dX7_image_174 : decode cX7_image 174 = .ok (.iaload, 1) := by decide +kernel
theorem dX7_image_175 : decode cX7_image 175 = .ok (.iastore, 1) := by decide +kernel
theorem dX7_image_176 : decode cX7_image 176 = .ok (.aload_n 0, 1) := by decide +kernel
theorem dX7_image_177 : decode cX7_image 177 = .ok (.getfield 114, 3) := by decide +kernel
theorem dX7_image_180 : decode cX7_image 180 = .ok (.iload_n 1, 1) := by decide +kernel
theorem dX7_image_181 : decode cX7_image 181 = .ok (.aload_n 0, 1) := by decide +kernel
theorem dX7_image_182 : decode cX7_image 182 = .ok (.getfield 44, 3) := by decide +kernel
theorem dX7_image_185 : decode cX7_image 185 = .ok (.iload_n 1, 1) := by decide +kernel
theorem dX7_image_186 : decode cX7_image 186 = .ok (.iaload, 1) := by decide +kernel
theorem dX7_image_187 : decode cX7_image 187 = .ok (.iastore, 1) := by decide +kernel
theorem dX7_image_188 : decode cX7_image 188 = .ok (.iinc 1 1, 3) := by decide +kernel
theorem dX7_image_191 : decode cX7_image 191 = .ok (.goto (-47), 3) := by decide +kernel
theorem dX7_image_194 : decode cX7_image 194 = .ok (.aload_n 0, 1) := by decide +kernel
theorem dX7_image_195 : decode cX7_image 195 = .ok (.getfield 129, 3) := by decide +kernel
theorem dX7_image_198 : decode cX7_image 198 = .ok (.ireturn, 1) := by decide +kernel
theorem dX7_back_0 : decode cX7_back 0 = .ok (.aload_n 0, 1) := by decide +kernel
theorem dX7_back_1 : decode cX7_back 1 = .ok (.getfield 386, 3) := by decide +kernel
theorem dX7_back_4 : decode cX7_back 4 = .ok (.ifCond .ne 6, 3) := by decide +kernel
theorem dX7_back_7 : decode cX7_back 7 = .ok (.bipush (-3), 2) := by decide +kernel
theorem dX7_back_9 : decode cX7_back 9 = .ok (.ireturn, 1) := by decide +kernel
theorem dX7_back_10 : decode cX7_back 10 = .ok (.aload_n 0, 1) := by decide +kernel
theorem dX7_back_11 : decode cX7_back 11 = .ok (.aload_n 0, 1) := by decide +kernel
theorem dX7_back_12 : decode cX7_back 12 = .ok (.getfield 390, 3) := by decide +kernel
theorem dX7_back_15 : decode cX7_back 15 = .ok (.putfield 129, 3) := by decide +kernel
theorem dX7_back_18 : decode cX7_back 18 = .ok (.iconst 0, 1) := by decide +kernel
theorem dX7_back_19 : decode cX7_back 19 = .ok (.istore_n 1, 1) := by decide +kernel
theorem dX7_back_20 : decode cX7_back 20 = .ok (.iload_n 1, 1) := by decide +kernel
theorem dX7_back_21 : decode cX7_back 21 = .ok (.aload_n 0, 1) := by decide +kernel
theorem dX7_back_22 : decode cX7_back 22 = .ok (.getfield 129, 3) := by decide +kernel
theorem dX7_back_25 : decode cX7_back 25 = .ok (.if_icmp .ge 69, 3) := by decide +kernel
theorem dX7_back_28 : decode cX7_back 28 = .ok (.aload_n 0, 1) := by decide +kernel
theorem dX7_back_29 : decode cX7_back 29 = .ok (.getfield 11, 3) := by decide +kernel
theorem dX7_back_32 : decode cX7_back 32 = .ok (.iload_n 1, 1) := by decide +kernel
theorem dX7_back_33 : decode cX7_back 33 = .ok (.aload_n 0, 1) := by decide +kernel
theorem dX7_back_34 : decode cX7_back 34 = .ok (.getfield 87, 3) := by decide +kernel
theorem dX7_back_37 : decode cX7_back 37 = .ok (.iload_n 1, 1) := by decide +kernel
theorem dX7_back_38 : decode cX7_back 38 = .ok (.iaload, 1) := by decide +kernel
theorem dX7_back_39 : decode cX7_back 39 = .ok (.iastore, 1) := by decide +kernel
theorem dX7_back_40 : decode cX7_back 40 = .ok (.aload_n 0, 1) := by decide +kernel
theorem dX7_back_41 : decode cX7_back 41 = .ok (.getfield 15, 3) := by decide +kernel
theorem dX7_back_44 : decode cX7_back 44 = .ok (.iload_n 1, 1) := by decide +kernel
theorem dX7_back_45 : decode cX7_back 45 = .ok (.aload_n 0, 1) := by decide +kernel
theorem dX7_back_46 : decode cX7_back 46 = .ok (.getfield 90, 3) := by decide +kernel
theorem dX7_back_49 : decode cX7_back 49 = .ok (.iload_n 1, 1) := by decide +kernel
theorem dX7_back_50 : decode cX7_back 50 = .ok (.iaload, 1) := by decide +kernel
theorem dX7_back_51 : decode cX7_back 51 = .ok (.iastore, 1) := by decide +kernel
theorem dX7_back_52 : decode cX7_back 52 = .ok (.aload_n 0, 1) := by decide +kernel
theorem dX7_back_53 : decode cX7_back 53 = .ok (.getfield 18, 3) := by decide +kernel
theorem dX7_back_56 : decode cX7_back 56 = .ok (.iload_n 1, 1) := by decide +kernel
theorem dX7_back_57 : decode cX7_back 57 = .ok (.aload_n 0, 1) := by decide +kernel
theorem dX7_back_58 : decode cX7_back 58 = .ok (.getfield 93, 3) := by decide +kernel
theorem dX7_back_61 : decode cX7_back 61 = .ok (.iload_n 1, 1) := by decide +kernel
theorem dX7_back_62 : decode cX7_back 62 = .ok (.iaload, 1) := by decide +kernel
theorem dX7_back_63 : decode cX7_back 63 = .ok (.iastore, 1) := by decide +kernel
theorem dX7_back_64 : decode cX7_back 64 = .ok (.aload_n 0, 1) := by decide +kernel
theorem dX7_back_65 : decode cX7_back 65 = .ok (.getfield 21, 3) := by decide +kernel
theorem dX7_back_68 : decode cX7_back 68 = .ok (.iload_n 1, 1) := by decide +kernel
theorem dX7_back_69 : decode cX7_back 69 = .ok (.aload_n 0, 1) := by decide +kernel
theorem dX7_back_70 : decode cX7_back 70 = .ok (.getfield 96, 3) := by decide +kernel
theorem dX7_back_73 : decode cX7_back 73 = .ok (.iload_n 1, 1) := by decide +kernel
theorem dX7_back_74 : decode cX7_back 74 = .ok (.iaload, 1) := by decide +kernel
theorem dX7_back_75 : decode cX7_back 75 = .ok (.iastore, 1) := by decide +kernel
theorem dX7_back_76 : decode cX7_back 76 = .ok (.aload_n 0, 1) := by decide +kernel
theorem dX7_back_77 : decode cX7_back 77 = .ok (.getfield 24, 3) := by decide +kernel
theorem dX7_back_80 : decode cX7_back 80 = .ok (.iload_n 1, 1) := by decide +kernel
theorem dX7_back_81 : decode cX7_back 81 = .ok (.aload_n 0, 1) := by decide +kernel
theorem dX7_back_82 : decode cX7_back 82 = .ok (.getfield 99, 3) := by decide +kernel
theorem dX7_back_85 : decode cX7_back 85 = .ok (.iload_n 1, 1) := by decide +kernel
theorem dX7_back_86 : decode cX7_back 86 = .ok (.laload, 1) := by decide +kernel
theorem dX7_back_87 : decode cX7_back 87 = .ok (.lastore, 1) := by decide +kernel
theorem dX7_back_88 : decode cX7_back 88 = .ok (.iinc 1 1, 3) := by decide +kernel
theorem dX7_back_91 : decode cX7_back 91 = .ok (.goto (-71), 3) := by decide +kernel
theorem dX7_back_94 : decode cX7_back 94 = .ok (.aload_n 0, 1) := by decide +kernel
theorem dX7_back_95 : decode cX7_back 95 = .ok (.aload_n 0, 1) := by decide +kernel
theorem dX7_back_96 : decode cX7_back 96 = .ok (.getfield 393, 3) := by decide +kernel
theorem dX7_back_99 : decode cX7_back 99 = .ok (.putfield 28, 3) := by decide +kernel
theorem dX7_back_102 : decode cX7_back 102 = .ok (.iconst 0, 1) := by decide +kernel
theorem dX7_back_103 : decode cX7_back 103 = .ok (.istore_n 1, 1) := by decide +kernel
theorem dX7_back_104 : decode cX7_back 104 = .ok (.iload_n 1, 1) := by decide +kernel
theorem dX7_back_105 : decode cX7_back 105 = .ok (.iconst 2, 1) := by decide +kernel
theorem dX7_back_106 : decode cX7_back 106 = .ok (.if_icmp .ge 33, 3) := by decide +kernel
theorem dX7_back_109 : decode cX7_back 109 = .ok (.aload_n 0, 1) := by decide +kernel
theorem dX7_back_110 : decode cX7_back 110 = .ok (.getfield 32, 3) := by decide +kernel
theorem dX7_back_113 : decode cX7_back 113 = .ok (.iload_n 1, 1) := by decide +kernel
theorem dX7_back_114 : decode cX7_back 114 = .ok (.aload_n 0, 1) := by decide +kernel
theorem dX7_back_115 : decode cX7_back 115 = .ok (.getfield 102, 3) := by decide +kernel
theorem dX7_back_118 : decode cX7_back 118 = .ok (.iload_n 1, 1) := by decide +kernel
theorem dX7_back_119 : decode cX7_back 119 = .ok (.iaload, 1) := by decide +kernel
theorem dX7_back_120 : decode cX7_back 120 = .ok (.iastore, 1) := by decide +kernel
theorem dX7_back_121 : decode cX7_back 121 = .ok (.aload_n 0, 1) := by decide +kernel
theorem dX7_back_122 : decode cX7_back 122 = .ok (.getfield 35, 3) := by decide +kernel
theorem dX7_back_125 : decode cX7_back 125 = .ok (.iload_n 1, 1) := by decide +kernel
theorem dX7_back_126 : decode cX7_back 126 = .ok (.aload_n 0, 1) := by decide +kernel
theorem dX7_back_127 : decode cX7_back 127 = .ok (.getfield 105, 3) := by decide +kernel
theorem dX7_back_130 : decode cX7_back 130 = .ok (.iload_n 1, 1) := by decide +kernel
theorem dX7_back_131 : decode cX7_back 131 = .ok (.iaload, 1) := by decide +kernel
theorem dX7_back_132 : decode cX7_back 132 = .ok (.iastore, 1) := by decide +kernel
theorem dX7_back_133 : decode cX7_back 133 = .ok (.iinc 1 1, 3) := by decide +kernel
theorem dX7_back_136 : decode cX7_back 136 = .ok (.goto (-32), 3) := by decide +kernel
theorem dX7_back_139 : decode cX7_back 139 = .ok (.aload_n 0, 1) := by decide +kernel
theorem dX7_back_140 : decode cX7_back 140 = .ok (.aload_n 0, 1) := by decide +kernel
theorem dX7_back_141 : decode cX7_back 141 = .ok (.getfield 396, 3) := by decide +kernel
theorem dX7_back_144 : decode cX7_back 144 = .ok (.putfield 210, 3) := by decide +kernel
theorem dX7_back_147 : decode cX7_back 147 = .ok (.iconst 0, 1) := by decide +kernel
theorem dX7_back_148 : decode cX7_back 148 = .ok (.istore_n 1, 1) := by decide +kernel
theorem dX7_back_149 : decode cX7_back 149 = .ok (.iload_n 1, 1) := by decide +kernel
theorem dX7_back_150 : decode cX7_back 150 = .ok (.aload_n 0, 1) := by decide +kernel
theorem dX7_back_151 : decode cX7_back 151 = .ok (.getfield 210, 3) := by decide +kernel
theorem dX7_back_154 : decode cX7_back 154 = .ok (.if_icmp .ge 45, 3) := by decide +kernel
theorem dX7_back_157 : decode cX7_back 157 = .ok (.aload_n 0, 1) := by decide +kernel
theorem dX7_back_158 : decode cX7_back 158 = .ok (.getfield 38, 3) := by decide +kernel
theorem dX7_back_161 : decode cX7_back 161 = .ok (.iload_n 1, 1) := by decide +kernel
theorem dX7_back_162 : decode cX7_back 162 = .ok (.aload_n 0, 1) := by decide +kernel
theorem dX7_back_163 : decode cX7_back 163 = .ok (.getfield 108, 3) := by decide +kernel
theorem dX7_back_166 : decode cX7_back 166 = .ok (.iload_n 1, 1) := by decide +kernel
theorem dX7_back_167 : decode cX7_back 167 = .ok (.iaload, 1) := by decide +kernel
theorem dX7_back_168 : decode cX7_back 168 = .ok (.iastore, 1) := by decide +kernel
theorem dX7_back_169 : decode cX7_back 169 = .ok (.aload_n 0, 1) := by decide +kernel
theorem dX7_back_170 : decode cX7_back 170 = .ok (.getfield 41, 3) := by decide +kernel
theorem dX7_back_173 : decode cX7_back 173 = .ok (.iload_n 1, 1) := by decide +kernel
theorem dX7_back_174 : decode cX7_back 174 = .ok (.aload_n 0, 1) := by decide +kernel
theorem dX7_back_175 : decode cX7_back 175 = .ok (.getfield 111, 3) := by decide +kernel
theorem dX7_back_178 : decode cX7_back 178 = .ok (.iload_n 1, 1) := by decide +kernel
theorem dX7_back_179 : decode cX7_back 179 = .ok (.iaload, 1) := by decide +kernel
theorem dX7_back_180 : decode cX7_back 180 = .ok (.iastore, 1) := by decide +kernel
theorem dX7_back_181 : decode cX7_back 181 = .ok (.aload_n 0, 1) := by decide +kernel
theorem dX7_back_182 : decode cX7_back 182 = .ok (.getfield 44, 3) := by decide +kernel
theorem dX7_back_185 : decode cX7_back 185 = .ok (.iload_n 1, 1) := by decide +kernel
theorem dX7_back_186 : decode cX7_back 186 = .ok (.aload_n 0, 1) := by decide +kernel
theorem dX7_back_187 : decode cX7_back 187 = .ok (.getfield 114, 3) := by decide +kernel
theorem dX7_back_190 : decode cX7_back 190 = .ok (.iload_n 1, 1) := by decide +kernel
theorem dX7_back_191 : decode cX7_back 191 = .ok (.iaload, 1) := by decide +kernel
theorem dX7_back_192 : decode cX7_back 192 = .ok (.iastore, 1) := by decide +kernel
theorem dX7_back_193 : decode cX7_back 193 = .ok (.iinc 1 1, 3) := by decide +kernel
theorem dX7_back_196 : decode cX7_back 196 = .ok (.goto (-47), 3) := by decide +kernel
theorem dX7_back_199 : decode cX7_back 199 = .ok (.aload_n 0, 1) := by decide +kernel
theorem dX7_back_200 : decode cX7_back 200 = .ok (.getfield 129, 3) := by decide +kernel
theorem dX7_back_203 : decode cX7_back 203 = .ok (.ireturn, 1) := by decide +kernel
theorem dX7_isSheet_0 : decode cX7_isSheet 0 = .ok (.iload_n 0, 1) := by decide +kernel
theorem dX7_isSheet_1 : decode cX7_isSheet 1 = .ok (.i2l, 1) := by decide +kernel
theorem dX7_isSheet_2 : decode cX7_isSheet 2 = .ok (.lconst 0, 1) := by decide +kernel
theorem dX7_isSheet_3 : decode cX7_isSheet 3 = .ok (.ldc2_w 181, 3) := by decide +kernel
theorem dX7_isSheet_6 : decode cX7_isSheet 6 = .ok (.invokestatic 133, 3) := by decide +kernel
theorem dX7_isSheet_9 : decode cX7_isSheet 9 = .ok (.ireturn, 1) := by decide +kernel
theorem dX7_load_0 : decode cX7_load 0 = .ok (.iload_n 1, 1) := by decide +kernel
theorem dX7_load_1 : decode cX7_load 1 = .ok (.invokestatic 292, 3) := by decide +kernel
theorem dX7_load_4 : decode cX7_load 4 = .ok (.ifCond .eq 26, 3) := by decide +kernel
theorem dX7_load_7 : decode cX7_load 7 = .ok (.iload_n 2, 1) := by decide +kernel
theorem dX7_load_8 : decode cX7_load 8 = .ok (.i2l, 1) := by decide +kernel
theorem dX7_load_9 : decode cX7_load 9 = .ok (.lconst 0, 1) := by decide +kernel
theorem dX7_load_10 : decode cX7_load 10 = .ok (.lconst 1, 1) := by decide +kernel
theorem dX7_load_11 : decode cX7_load 11 = .ok (.invokestatic 133, 3) := by decide +kernel
theorem dX7_load_14 : decode cX7_load 14 = .ok (.ifCond .eq 16, 3) := by decide +kernel
theorem dX7_load_17 : decode cX7_load 17 = .ok (.iload 4, 2) := by decide +kernel
theorem dX7_load_19 : decode cX7_load 19 = .ok (.i2l, 1) := by decide +kernel
theorem dX7_load_20 : decode cX7_load 20 = .ok (.lconst 0, 1) := by decide +kernel
theorem dX7_load_21 : decode cX7_load 21 = .ok (.ldc2_w 399, 3) := by decide +kernel
theorem dX7_load_24 : decode cX7_load 24 = .ok (.invokestatic 133, 3) := by decide +kernel
theorem dX7_load_27 : decode cX7_load 27 = .ok (.ifCond .ne 6, 3) := by decide +kernel
theorem dX7_load_30 : decode cX7_load 30 = .ok (.bipush (-2), 2) := by decide +kernel
theorem dX7_load_32 : decode cX7_load 32 = .ok (.ireturn, 1) := by decide +kernel
theorem dX7_load_33 : decode cX7_load 33 = .ok (.aload_n 0, 1) := by decide +kernel
theorem dX7_load_34 : decode cX7_load 34 = .ok (.getfield 117, 3) := by decide +kernel
theorem dX7_load_37 : decode cX7_load 37 = .ok (.iload_n 1, 1) := by decide +kernel
theorem dX7_load_38 : decode cX7_load 38 = .ok (.iaload, 1) := by decide +kernel
theorem dX7_load_39 : decode cX7_load 39 = .ok (.iconst (-1), 1) := by decide +kernel
theorem dX7_load_40 : decode cX7_load 40 = .ok (.if_icmp .ne 6, 3) := by decide +kernel
theorem dX7_load_43 : decode cX7_load 43 = .ok (.bipush (-11), 2) := by decide +kernel
theorem dX7_load_45 : decode cX7_load 45 = .ok (.ireturn, 1) := by decide +kernel
theorem dX7_load_46 : decode cX7_load 46 = .ok (.aload_n 0, 1) := by decide +kernel
theorem dX7_load_47 : decode cX7_load 47 = .ok (.getfield 117, 3) := by decide +kernel
theorem dX7_load_50 : decode cX7_load 50 = .ok (.iload_n 1, 1) := by decide +kernel
theorem dX7_load_51 : decode cX7_load 51 = .ok (.iaload, 1) := by decide +kernel
theorem dX7_load_52 : decode cX7_load 52 = .ok (.iload_n 2, 1) := by decide +kernel
theorem dX7_load_53 : decode cX7_load 53 = .ok (.if_icmp .eq 6, 3) := by decide +kernel
theorem dX7_load_56 : decode cX7_load 56 = .ok (.bipush (-13), 2) := by decide +kernel
theorem dX7_load_58 : decode cX7_load 58 = .ok (.ireturn, 1) := by decide +kernel
theorem dX7_load_59 : decode cX7_load 59 = .ok (.iconst 0, 1) := by decide +kernel
theorem dX7_load_60 : decode cX7_load 60 = .ok (.istore 5, 2) := by decide +kernel
theorem dX7_load_62 : decode cX7_load 62 = .ok (.iconst 0, 1) := by decide +kernel
theorem dX7_load_63 : decode cX7_load 63 = .ok (.istore 6, 2) := by decide +kernel
theorem dX7_load_65 : decode cX7_load 65 = .ok (.iload 6, 2) := by decide +kernel
theorem dX7_load_67 : decode cX7_load 67 = .ok (.iload 4, 2) := by decide +kernel
theorem dX7_load_69 : decode cX7_load 69 = .ok (.if_icmp .ge 103, 3) := by decide +kernel
theorem dX7_load_72 : decode cX7_load 72 = .ok (.iload_n 3, 1) := by decide +kernel
theorem dX7_load_73 : decode cX7_load 73 = .ok (.i2l, 1) := by decide +kernel
theorem dX7_load_74 : decode cX7_load 74 = .ok (.ldc2_w 163, 3) := by decide +kernel
theorem dX7_load_77 : decode cX7_load 77 = .ok (.iload 6, 2) := by decide +kernel
theorem dX7_load_79 : decode cX7_load 79 = .ok (.i2l, 1) := by decide +kernel
theorem dX7_load_80 : decode cX7_load 80 = .ok (.lmul, 1) := by decide +kernel
theorem dX7_load_81 : decode cX7_load 81 = .ok (.ladd, 1) := by decide +kernel
theorem dX7_load_82 : decode cX7_load 82 = .ok (.lstore 7, 2) := by decide +kernel
theorem dX7_load_84 : decode cX7_load 84 = .ok (.lload 7, 2) := by decide +kernel
theorem dX7_load_86 : decode cX7_load 86 = .ok (.lconst 0, 1) := by decide +kernel
theorem dX7_load_87 : decode cX7_load 87 = .ok (.aload_n 0, 1) := by decide +kernel
theorem dX7_load_88 : decode cX7_load 88 = .ok (.getfield 120, 3) := by decide +kernel
theorem dX7_load_91 : decode cX7_load 91 = .ok (.iload_n 1, 1) := by decide +kernel
theorem dX7_load_92 : decode cX7_load 92 = .ok (.iaload, 1) := by decide +kernel
theorem dX7_load_93 : decode cX7_load 93 = .ok (.iconst 4, 1) := by decide +kernel
theorem dX7_load_94 : decode cX7_load 94 = .ok (.isub, 1) := by decide +kernel
theorem dX7_load_95 : decode cX7_load 95 = .ok (.i2l, 1) := by decide +kernel
theorem dX7_load_96 : decode cX7_load 96 = .ok (.invokestatic 133, 3) := by decide +kernel
theorem dX7_load_99 : decode cX7_load 99 = .ok (.ifCond .ne 6, 3) := by decide +kernel
theorem dX7_load_102 : decode cX7_load 102 = .ok (.bipush (-12), 2) := by decide +kernel
theorem dX7_load_104 : decode cX7_load 104 = .ok (.ireturn, 1) := by decide +kernel
theorem dX7_load_105 : decode cX7_load 105 = .ok (.bipush 40, 2) := by decide +kernel
theorem dX7_load_107 : decode cX7_load 107 = .ok (.iload_n 1, 1) := by decide +kernel
theorem dX7_load_108 : decode cX7_load 108 = .ok (.imul, 1) := by decide +kernel
theorem dX7_load_109 : decode cX7_load 109 = .ok (.lload 7, 2) := by decide +kernel
theorem dX7_load_111 : decode cX7_load 111 = .ok (.l2i, 1) := by decide +kernel
theorem dX7_load_112 : decode cX7_load 112 = .ok (.iadd, 1) := by decide +kernel
theorem dX7_load_113 : decode cX7_load 113 = .ok (.istore 9, 2) := by decide +kernel
theorem dX7_load_115 : decode cX7_load 115 = .ok (.iload 5, 2) := by decide +kernel
theorem dX7_load_117 : decode cX7_load 117 = .ok (.aload_n 0, 1) := by decide +kernel
theorem dX7_load_118 : decode cX7_load 118 = .ok (.aload_n 0, 1) := by decide +kernel
theorem dX7_load_119 : decode cX7_load 119 = .ok (.getfield 123, 3) := by decide +kernel
theorem dX7_load_122 : decode cX7_load 122 = .ok (.iload 9, 2) := by decide +kernel
theorem dX7_load_124 : decode cX7_load 124 = .ok (.iaload, 1) := by decide +kernel
theorem dX7_load_125 : decode cX7_load 125 = .ok (.aload_n 0, 1) := by decide +kernel
theorem dX7_load_126 : decode cX7_load 126 = .ok (.getfield 123, 3) := by decide +kernel
theorem dX7_load_129 : decode cX7_load 129 = .ok (.iload 9, 2) := by decide +kernel
theorem dX7_load_131 : decode cX7_load 131 = .ok (.iconst 1, 1) := by decide +kernel
theorem dX7_load_132 : decode cX7_load 132 = .ok (.iadd, 1) := by decide +kernel
theorem dX7_load_133 : decode cX7_load 133 = .ok (.iaload, 1) := by decide +kernel
theorem dX7_load_134 : decode cX7_load 134 = .ok (.aload_n 0, 1) := by decide +kernel
theorem dX7_load_135 : decode cX7_load 135 = .ok (.getfield 123, 3) := by decide +kernel
theorem dX7_load_138 : decode cX7_load 138 = .ok (.iload 9, 2) := by decide +kernel
theorem dX7_load_140 : decode cX7_load 140 = .ok (.iconst 2, 1) := by decide +kernel
theorem dX7_load_141 : decode cX7_load 141 = .ok (.iadd, 1) := by decide +kernel
theorem dX7_load_142 : decode cX7_load 142 = .ok (.iaload, 1) := by decide +kernel
theorem dX7_load_143 : decode cX7_load 143 = .ok (.aload_n 0, 1) := by decide +kernel
theorem dX7_load_144 : decode cX7_load 144 = .ok (.getfield 123, 3) := by decide +kernel
theorem dX7_load_147 : decode cX7_load 147 = .ok (.iload 9, 2) := by decide +kernel
theorem dX7_load_149 : decode cX7_load 149 = .ok (.iconst 3, 1) := by decide +kernel
theorem dX7_load_150 : decode cX7_load 150 = .ok (.iadd, 1) := by decide +kernel
theorem dX7_load_151 : decode cX7_load 151 = .ok (.iaload, 1) := by decide +kernel
theorem dX7_load_152 : decode cX7_load 152 = .ok (.invokevirtual 355, 3) := by decide +kernel
theorem dX7_load_155 : decode cX7_load 155 = .ok (.ifCond .lt 7, 3) := by decide +kernel
theorem dX7_load_158 : decode cX7_load 158 = .ok (.iconst 1, 1) := by decide +kernel
theorem dX7_load_159 : decode cX7_load 159 = .ok (.goto 4, 3) := by decide +kernel
theorem dX7_load_162 : decode cX7_load 162 = .ok (.iconst 0, 1) := by decide +kernel
theorem dX7_load_163 : decode cX7_load 163 = .ok (.iadd, 1) := by decide +kernel
theorem dX7_load_164 : decode cX7_load 164 = .ok (.istore 5, 2) := by decide +kernel
theorem dX7_load_166 : decode cX7_load 166 = .ok (.iinc 6 1, 3) := by decide +kernel
theorem dX7_load_169 : decode cX7_load 169 = .ok (.goto (-104), 3) := by decide +kernel
theorem dX7_load_172 : decode cX7_load 172 = .ok (.iload 5, 2) := by decide +kernel
theorem dX7_load_174 : decode cX7_load 174 = .ok (.ireturn, 1) := by decide +kernel
theorem dX7_count_0 : decode cX7_count 0 = .ok (.iload_n 1, 1) := by decide +kernel
theorem dX7_count_1 : decode cX7_count 1 = .ok (.i2l, 1) := by decide +kernel
theorem dX7_count_2 : decode cX7_count 2 = .ok (.lconst 0, 1) := by decide +kernel
theorem dX7_count_3 : decode cX7_count 3 = .ok (.ldc2_w 159, 3) := by decide +kernel
theorem dX7_count_6 : decode cX7_count 6 = .ok (.invokestatic 133, 3) := by decide +kernel
theorem dX7_count_9 : decode cX7_count 9 = .ok (.ifCond .ne 7, 3) := by decide +kernel
theorem dX7_count_12 : decode cX7_count 12 = .ok (.sipush (-1000), 3) := by decide +kernel
theorem dX7_count_15 : decode cX7_count 15 = .ok (.ireturn, 1) := by decide +kernel
theorem dX7_count_16 : decode cX7_count 16 = .ok (.iconst 0, 1) := by decide +kernel
theorem dX7_count_17 : decode cX7_count 17 = .ok (.istore_n 2, 1) := by decide +kernel
theorem dX7_count_18 : decode cX7_count 18 = .ok (.iconst 0, 1) := by decide +kernel
theorem dX7_count_19 : decode cX7_count 19 = .ok (.istore_n 3, 1) := by decide +kernel
theorem dX7_count_20 : decode cX7_count 20 = .ok (.iload_n 3, 1) := by decide +kernel
theorem dX7_count_21 : decode cX7_count 21 = .ok (.aload_n 0, 1) := by decide +kernel
theorem dX7_count_22 : decode cX7_count 22 = .ok (.getfield 210, 3) := by decide +kernel
theorem dX7_count_25 : decode cX7_count 25 = .ok (.if_icmp .ge 27, 3) := by decide +kernel
theorem dX7_count_28 : decode cX7_count 28 = .ok (.iload_n 2, 1) := by decide +kernel
theorem dX7_count_29 : decode cX7_count 29 = .ok (.iload_n 1, 1) := by decide +kernel
theorem dX7_count_30 : decode cX7_count 30 = .ok (.iconst 3, 1) := by decide +kernel
theorem dX7_count_31 : decode cX7_count 31 = .ok (.if_icmp .ne 12, 3) := by decide +kernel
theorem dX7_count_34 : decode cX7_count 34 = .ok (.aload_n 0, 1) := by decide +kernel
theorem dX7_count_35 : decode cX7_count 35 = .ok (.getfield 44, 3) := by decide +kernel
theorem dX7_count_38 : decode cX7_count 38 = .ok (.iload_n 3, 1) := by decide +kernel
theorem dX7_count_39 : decode cX7_count 39 = .ok (.iaload, 1) := by decide +kernel
theorem dX7_count_40 : decode cX7_count 40 = .ok (.goto 4, 3) := by decide +kernel
theorem dX7_count_43 : decode cX7_count 43 = .ok (.iconst 0, 1) := by decide +kernel
theorem dX7_count_44 : decode cX7_count 44 = .ok (.iadd, 1) := by decide +kernel
theorem dX7_count_45 : decode cX7_count 45 = .ok (.istore_n 2, 1) := by decide +kernel
theorem dX7_count_46 : decode cX7_count 46 = .ok (.iinc 3 1, 3) := by decide +kernel
theorem dX7_count_49 : decode cX7_count 49 = .ok (.goto (-29), 3) := by decide +kernel
theorem dX7_count_52 : decode cX7_count 52 = .ok (.iconst 0, 1) := by decide +kernel
theorem dX7_count_53 : decode cX7_count 53 = .ok (.istore_n 3, 1) := by decide +kernel
theorem dX7_count_54 : decode cX7_count 54 = .ok (.iload_n 3, 1) := by decide +kernel
theorem dX7_count_55 : decode cX7_count 55 = .ok (.aload_n 0, 1) := by decide +kernel
theorem dX7_count_56 : decode cX7_count 56 = .ok (.getfield 129, 3) := by decide +kernel
theorem dX7_count_59 : decode cX7_count 59 = .ok (.if_icmp .ge 40, 3) := by decide +kernel
theorem dX7_count_62 : decode cX7_count 62 = .ok (.iload_n 2, 1) := by decide +kernel
theorem dX7_count_63 : decode cX7_count 63 = .ok (.iload_n 1, 1) := by decide +kernel
theorem dX7_count_64 : decode cX7_count 64 = .ok (.iconst 4, 1) := by decide +kernel
theorem dX7_count_65 : decode cX7_count 65 = .ok (.if_icmp .ne 11, 3) := by decide +kernel
theorem dX7_count_68 : decode cX7_count 68 = .ok (.aload_n 0, 1) := by decide +kernel
theorem dX7_count_69 : decode cX7_count 69 = .ok (.iload_n 3, 1) := by decide +kernel
theorem dX7_count_70 : decode cX7_count 70 = .ok (.invokevirtual 191, 3) := by decide +kernel
theorem dX7_count_73 : decode cX7_count 73 = .ok (.goto 18, 3) := by decide +kernel
theorem dX7_count_76 : decode cX7_count 76 = .ok (.iload_n 1, 1) := by decide +kernel
theorem dX7_count_77 : decode cX7_count 77 = .ok (.iconst 5, 1) := by decide +kernel
theorem dX7_count_78 : decode cX7_count 78 = .ok (.if_icmp .ne 12, 3) := by decide +kernel
theorem dX7_count_81 : decode cX7_count 81 = .ok (.aload_n 0, 1) := by decide +kernel
theorem dX7_count_82 : decode cX7_count 82 = .ok (.getfield 21, 3) := by decide +kernel
theorem dX7_count_85 : decode cX7_count 85 = .ok (.iload_n 3, 1) := by decide +kernel
theorem dX7_count_86 : decode cX7_count 86 = .ok (.iaload, 1) := by decide +kernel
theorem dX7_count_87 : decode cX7_count 87 = .ok (.goto 4, 3) := by decide +kernel
theorem dX7_count_90 : decode cX7_count 90 = .ok (.iconst 0, 1) := by decide +kernel
theorem dX7_count_91 : decode cX7_count 91 = .ok (.iadd, 1) := by decide +kernel
theorem dX7_count_92 : decode cX7_count 92 = .ok (.istore_n 2, 1) := by decide +kernel
theorem dX7_count_93 : decode cX7_count 93 = .ok (.iinc 3 1, 3) := by decide +kernel
theorem dX7_count_96 : decode cX7_count 96 = .ok (.goto (-42), 3) := by decide +kernel
theorem dX7_count_99 : decode cX7_count 99 = .ok (.iload_n 1, 1) := by decide +kernel
theorem dX7_count_100 : decode cX7_count 100 = .ok (.ifCond .ne 10, 3) := by decide +kernel
theorem dX7_count_103 : decode cX7_count 103 = .ok (.aload_n 0, 1) := by decide +kernel
theorem dX7_count_104 : decode cX7_count 104 = .ok (.getfield 129, 3) := by decide +kernel
theorem dX7_count_107 : decode cX7_count 107 = .ok (.goto 28, 3) := by decide +kernel
theorem dX7_count_110 : decode cX7_count 110 = .ok (.iload_n 1, 1) := by decide +kernel
theorem dX7_count_111 : decode cX7_count 111 = .ok (.iconst 1, 1) := by decide +kernel
theorem dX7_count_112 : decode cX7_count 112 = .ok (.if_icmp .ne 10, 3) := by decide +kernel
theorem dX7_count_115 : decode cX7_count 115 = .ok (.aload_n 0, 1) := by decide +kernel
theorem dX7_count_116 : decode cX7_count 116 = .ok (.getfield 210, 3) := by decide +kernel
theorem dX7_count_119 : decode cX7_count 119 = .ok (.goto 16, 3) := by decide +kernel
theorem dX7_count_122 : decode cX7_count 122 = .ok (.iload_n 1, 1) := by decide +kernel
theorem dX7_count_123 : decode cX7_count 123 = .ok (.iconst 2, 1) := by decide +kernel
theorem dX7_count_124 : decode cX7_count 124 = .ok (.if_icmp .ne 10, 3) := by decide +kernel
theorem dX7_count_127 : decode cX7_count 127 = .ok (.aload_n 0, 1) := by decide +kernel
theorem dX7_count_128 : decode cX7_count 128 = .ok (.getfield 308, 3) := by decide +kernel
theorem dX7_count_131 : decode cX7_count 131 = .ok (.goto 4, 3) := by decide +kernel
theorem dX7_count_134 : decode cX7_count 134 = .ok (.iload_n 2, 1) := by decide +kernel
theorem dX7_count_135 : decode cX7_count 135 = .ok (.ireturn, 1) := by decide +kernel
theorem dX7_sheet_0 : decode cX7_sheet 0 = .ok (.iload_n 1, 1) := by decide +kernel
theorem dX7_sheet_1 : decode cX7_sheet 1 = .ok (.invokestatic 292, 3) := by decide +kernel
theorem dX7_sheet_4 : decode cX7_sheet 4 = .ok (.ifCond .eq 26, 3) := by decide +kernel
theorem dX7_sheet_7 : decode cX7_sheet 7 = .ok (.iload_n 2, 1) := by decide +kernel
theorem dX7_sheet_8 : decode cX7_sheet 8 = .ok (.i2l, 1) := by decide +kernel
theorem dX7_sheet_9 : decode cX7_sheet 9 = .ok (.ldc2_w 197, 3) := by decide +kernel
theorem dX7_sheet_12 : decode cX7_sheet 12 = .ok (.lconst 1, 1) := by decide +kernel
theorem dX7_sheet_13 : decode cX7_sheet 13 = .ok (.invokestatic 133, 3) := by decide +kernel
theorem dX7_sheet_16 : decode cX7_sheet 16 = .ok (.ifCond .eq 14, 3) := by decide +kernel
theorem dX7_sheet_19 : decode cX7_sheet 19 = .ok (.iload_n 2, 1) := by decide +kernel
theorem dX7_sheet_20 : decode cX7_sheet 20 = .ok (.iconst (-1), 1) := by decide +kernel
theorem dX7_sheet_21 : decode cX7_sheet 21 = .ok (.if_icmp .eq 12, 3) := by decide +kernel
theorem dX7_sheet_24 : decode cX7_sheet 24 = .ok (.iload_n 3, 1) := by decide +kernel
theorem dX7_sheet_25 : decode cX7_sheet 25 = .ok (.bipush 40, 2) := by decide +kernel
theorem dX7_sheet_27 : decode cX7_sheet 27 = .ok (.if_icmp .le 6, 3) := by decide +kernel
theorem dX7_sheet_30 : decode cX7_sheet 30 = .ok (.bipush (-2), 2) := by decide +kernel
theorem dX7_sheet_32 : decode cX7_sheet 32 = .ok (.ireturn, 1) := by decide +kernel
theorem dX7_sheet_33 : decode cX7_sheet 33 = .ok (.iload_n 2, 1) := by decide +kernel
theorem dX7_sheet_34 : decode cX7_sheet 34 = .ok (.iconst (-1), 1) := by decide +kernel
theorem dX7_sheet_35 : decode cX7_sheet 35 = .ok (.if_icmp .eq 10, 3) := by decide +kernel
theorem dX7_sheet_38 : decode cX7_sheet 38 = .ok (.iload_n 3, 1) := by decide +kernel
theorem dX7_sheet_39 : decode cX7_sheet 39 = .ok (.ifCond .ge 6, 3) := by decide +kernel
theorem dX7_sheet_42 : decode cX7_sheet 42 = .ok (.bipush (-14), 2) := by decide +kernel
theorem dX7_sheet_44 : decode cX7_sheet 44 = .ok (.ireturn, 1) := by decide +kernel
theorem dX7_sheet_45 : decode cX7_sheet 45 = .ok (.aload_n 0, 1) := by decide +kernel
theorem dX7_sheet_46 : decode cX7_sheet 46 = .ok (.getfield 117, 3) := by decide +kernel
theorem dX7_sheet_49 : decode cX7_sheet 49 = .ok (.iload_n 1, 1) := by decide +kernel
theorem dX7_sheet_50 : decode cX7_sheet 50 = .ok (.iload_n 2, 1) := by decide +kernel
theorem dX7_sheet_51 : decode cX7_sheet 51 = .ok (.iastore, 1) := by decide +kernel
theorem dX7_sheet_52 : decode cX7_sheet 52 = .ok (.aload_n 0, 1) := by decide +kernel
theorem dX7_sheet_53 : decode cX7_sheet 53 = .ok (.getfield 120, 3) := by decide +kernel
theorem dX7_sheet_56 : decode cX7_sheet 56 = .ok (.iload_n 1, 1) := by decide +kernel
theorem dX7_sheet_57 : decode cX7_sheet 57 = .ok (.iload_n 2, 1) := by decide +kernel
theorem dX7_sheet_58 : decode cX7_sheet 58 = .ok (.iconst (-1), 1) := by decide +kernel
theorem dX7_sheet_59 : decode cX7_sheet 59 = .ok (.if_icmp .ne 7, 3) := by decide +kernel
theorem dX7_sheet_62 : decode cX7_sheet 62 = .ok (.iconst 0, 1) := by decide +kernel
theorem dX7_sheet_63 : decode cX7_sheet 63 = .ok (.goto 4, 3) := by decide +kernel
theorem dX7_sheet_66 : decode cX7_sheet 66 = .ok (.iload_n 3, 1) := by decide +kernel
theorem dX7_sheet_67 : decode cX7_sheet 67 = .ok (.iastore, 1) := by decide +kernel
theorem dX7_sheet_68 : decode cX7_sheet 68 = .ok (.iconst 0, 1) := by decide +kernel
theorem dX7_sheet_69 : decode cX7_sheet 69 = .ok (.istore 4, 2) := by decide +kernel
theorem dX7_sheet_71 : decode cX7_sheet 71 = .ok (.iload 4, 2) := by decide +kernel
theorem dX7_sheet_73 : decode cX7_sheet 73 = .ok (.aload_n 0, 1) := by decide +kernel
theorem dX7_sheet_74 : decode cX7_sheet 74 = .ok (.getfield 120, 3) := by decide +kernel
theorem dX7_sheet_77 : decode cX7_sheet 77 = .ok (.iload_n 1, 1) := by decide +kernel
theorem dX7_sheet_78 : decode cX7_sheet 78 = .ok (.iaload, 1) := by decide +kernel
theorem dX7_sheet_79 : decode cX7_sheet 79 = .ok (.if_icmp .ge 22, 3) := by decide +kernel
theorem dX7_sheet_82 : decode cX7_sheet 82 = .ok (.aload_n 0, 1) := by decide +kernel
theorem dX7_sheet_83 : decode cX7_sheet 83 = .ok (.getfield 123, 3) := by decide +kernel
theorem dX7_sheet_86 : decode cX7_sheet 86 = .ok (.bipush 40, 2) := by decide +kernel
theorem dX7_sheet_88 : decode cX7_sheet 88 = .ok (.iload_n 1, 1) := by decide +kernel
theorem dX7_sheet_89 : decode cX7_sheet 89 = .ok (.imul, 1) := by decide +kernel
theorem dX7_sheet_90 : decode cX7_sheet 90 = .ok (.iload 4, 2) := by decide +kernel
theorem dX7_sheet_92 : decode cX7_sheet 92 = .ok (.iadd, 1) := by decide +kernel
theorem dX7_sheet_93 : decode cX7_sheet 93 = .ok (.iconst 0, 1) := by decide +kernel
theorem dX7_sheet_94 : decode cX7_sheet 94 = .ok (.iastore, 1) := by decide +kernel
theorem dX7_sheet_95 : decode cX7_sheet 95 = .ok (.iinc 4 1, 3) := by decide +kernel
theorem dX7_sheet_98 : decode cX7_sheet 98 = .ok (.goto (-27), 3) := by decide +kernel
theorem dX7_sheet_101 : decode cX7_sheet 101 = .ok (.iconst 1, 1) := by decide +kernel
theorem dX7_sheet_102 : decode cX7_sheet 102 = .ok (.ireturn, 1) := by decide +kernel
theorem dX7_put_0 : decode cX7_put 0 = .ok (.iload_n 1, 1) := by decide +kernel
theorem dX7_put_1 : decode cX7_put 1 = .ok (.invokestatic 292, 3) := by decide +kernel
theorem dX7_put_4 : decode cX7_put 4 = .ok (.ifCond .ne 6, 3) := by decide +kernel
theorem dX7_put_7 : decode cX7_put 7 = .ok (.bipush (-2), 2) := by decide +kernel
theorem dX7_put_9 : decode cX7_put 9 = .ok (.ireturn, 1) := by decide +kernel
theorem dX7_put_10 : decode cX7_put 10 = .ok (.aload_n 0, 1) := by decide +kernel
theorem dX7_put_11 : decode cX7_put 11 = .ok (.getfield 117, 3) := by decide +kernel
theorem dX7_put_14 : decode cX7_put 14 = .ok (.iload_n 1, 1) := by decide +kernel
theorem dX7_put_15 : decode cX7_put 15 = .ok (.iaload, 1) := by decide +kernel
theorem dX7_put_16 : decode cX7_put 16 = .ok (.iconst (-1), 1) := by decide +kernel
theorem dX7_put_17 : decode cX7_put 17 = .ok (.if_icmp .ne 6, 3) := by decide +kernel
theorem dX7_put_20 : decode cX7_put 20 = .ok (.bipush (-11), 2) := by decide +kernel
theorem dX7_put_22 : decode cX7_put 22 = .ok (.ireturn, 1) := by decide +kernel
theorem dX7_put_23 : decode cX7_put 23 = .ok (.iload_n 2, 1) := by decide +kernel
theorem dX7_put_24 : decode cX7_put 24 = .ok (.i2l, 1) := by decide +kernel
theorem dX7_put_25 : decode cX7_put 25 = .ok (.lconst 0, 1) := by decide +kernel
theorem dX7_put_26 : decode cX7_put 26 = .ok (.aload_n 0, 1) := by decide +kernel
theorem dX7_put_27 : decode cX7_put 27 = .ok (.getfield 120, 3) := by decide +kernel
theorem dX7_put_30 : decode cX7_put 30 = .ok (.iload_n 1, 1) := by decide +kernel
theorem dX7_put_31 : decode cX7_put 31 = .ok (.iaload, 1) := by decide +kernel
theorem dX7_put_32 : decode cX7_put 32 = .ok (.iconst 1, 1) := by decide +kernel
theorem dX7_put_33 : decode cX7_put 33 = .ok (.isub, 1) := by decide +kernel
theorem dX7_put_34 : decode cX7_put 34 = .ok (.i2l, 1) := by decide +kernel
theorem dX7_put_35 : decode cX7_put 35 = .ok (.invokestatic 133, 3) := by decide +kernel
theorem dX7_put_38 : decode cX7_put 38 = .ok (.ifCond .ne 6, 3) := by decide +kernel
theorem dX7_put_41 : decode cX7_put 41 = .ok (.bipush (-12), 2) := by decide +kernel
theorem dX7_put_43 : decode cX7_put 43 = .ok (.ireturn, 1) := by decide +kernel
theorem dX7_put_44 : decode cX7_put 44 = .ok (.aload_n 0, 1) := by decide +kernel
theorem dX7_put_45 : decode cX7_put 45 = .ok (.getfield 123, 3) := by decide +kernel
theorem dX7_put_48 : decode cX7_put 48 = .ok (.bipush 40, 2) := by decide +kernel
theorem dX7_put_50 : decode cX7_put 50 = .ok (.iload_n 1, 1) := by decide +kernel
theorem dX7_put_51 : decode cX7_put 51 = .ok (.imul, 1) := by decide +kernel
theorem dX7_put_52 : decode cX7_put 52 = .ok (.iload_n 2, 1) := by decide +kernel
theorem dX7_put_53 : decode cX7_put 53 = .ok (.iadd, 1) := by decide +kernel
theorem dX7_put_54 : decode cX7_put 54 = .ok (.aload_n 0, 1) := by decide +kernel
theorem dX7_put_55 : decode cX7_put 55 = .ok (.getfield 117, 3) := by decide +kernel
theorem dX7_put_58 : decode cX7_put 58 = .ok (.iload_n 1, 1) := by decide +kernel
theorem dX7_put_59 : decode cX7_put 59 = .ok (.iaload, 1) := by decide +kernel
theorem dX7_put_60 : decode cX7_put 60 = .ok (.ifCond .ne 8, 3) := by decide +kernel
theorem dX7_put_63 : decode cX7_put 63 = .ok (.iload_n 3, 1) := by decide +kernel
theorem dX7_put_64 : decode cX7_put 64 = .ok (.i2s, 1) := by decide +kernel
theorem dX7_put_65 : decode cX7_put 65 = .ok (.goto 4, 3) := by decide +kernel
theorem dX7_put_68 : decode cX7_put 68 = .ok (.iload_n 3, 1) := by decide +kernel
theorem dX7_put_69 : decode cX7_put 69 = .ok (.iastore, 1) := by decide +kernel
theorem dX7_put_70 : decode cX7_put 70 = .ok (.iconst 1, 1) := by decide +kernel
theorem dX7_put_71 : decode cX7_put 71 = .ok (.ireturn, 1) := by decide +kernel
