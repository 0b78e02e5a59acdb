theorem dX4_sweepRight_0 : decode cX4_sweepRight 0 = .ok (.aload_n 0, 1) := by decide +kernel
theorem dX4_sweepRight_1 : decode cX4_sweepRight 1 = .ok (.getfield 19, 3) := by decide +kernel
theorem dX4_sweepRight_4 : decode cX4_sweepRight 4 = .ok (.iconst 0, 1) := by decide +kernel
theorem dX4_sweepRight_5 : decode cX4_sweepRight 5 = .ok (.lconst 1, 1) := by decide +kernel
theorem dX4_sweepRight_6 : decode cX4_sweepRight 6 = .ok (.lastore, 1) := by decide +kernel
theorem dX4_sweepRight_7 : decode cX4_sweepRight 7 = .ok (.aload_n 0, 1) := by decide +kernel
theorem dX4_sweepRight_8 : decode cX4_sweepRight 8 = .ok (.getfield 25, 3) := by decide +kernel
theorem dX4_sweepRight_11 : decode cX4_sweepRight 11 = .ok (.iconst 0, 1) := by decide +kernel
theorem dX4_sweepRight_12 : decode cX4_sweepRight 12 = .ok (.lconst 0, 1) := by decide +kernel
theorem dX4_sweepRight_13 : decode cX4_sweepRight 13 = .ok (.lastore, 1) := by decide +kernel
theorem dX4_sweepRight_14 : decode cX4_sweepRight 14 = .ok (.iconst 0, 1) := by decide +kernel
theorem dX4_sweepRight_15 : decode cX4_sweepRight 15 = .ok (.istore_n 3, 1) := by decide +kernel
theorem dX4_sweepRight_16 : decode cX4_sweepRight 16 = .ok (.iload_n 3, 1) := by decide +kernel
theorem dX4_sweepRight_17 : decode cX4_sweepRight 17 = .ok (.iload_n 2, 1) := by decide +kernel
theorem dX4_sweepRight_18 : decode cX4_sweepRight 18 = .ok (.if_icmp .ge 98, 3) := by decide +kernel
theorem dX4_sweepRight_21 : decode cX4_sweepRight 21 = .ok (.aload_n 1, 1) := by decide +kernel
theorem dX4_sweepRight_22 : decode cX4_sweepRight 22 = .ok (.iload_n 3, 1) := by decide +kernel
theorem dX4_sweepRight_23 : decode cX4_sweepRight 23 = .ok (.iconst 1, 1) := by decide +kernel
theorem dX4_sweepRight_24 : decode cX4_sweepRight 24 = .ok (.isub, 1) := by decide +kernel
theorem dX4_sweepRight_25 : decode cX4_sweepRight 25 = .ok (.invokevirtual 44, 3) := by decide +kernel
theorem dX4_sweepRight_28 : decode cX4_sweepRight 28 = .ok (.i2l, 1) := by decide +kernel
theorem dX4_sweepRight_29 : decode cX4_sweepRight 29 = .ok (.lstore 4, 2) := by decide +kernel
theorem dX4_sweepRight_31 : decode cX4_sweepRight 31 = .ok (.iload_n 3, 1) := by decide +kernel
theorem dX4_sweepRight_32 : decode cX4_sweepRight 32 = .ok (.ifCond .le 14, 3) := by decide +kernel
theorem dX4_sweepRight_35 : decode cX4_sweepRight 35 = .ok (.aload_n 0, 1) := by decide +kernel
theorem dX4_sweepRight_36 : decode cX4_sweepRight 36 = .ok (.getfield 19, 3) := by decide +kernel
theorem dX4_sweepRight_39 : decode cX4_sweepRight 39 = .ok (.iload_n 3, 1) := by decide +kernel
theorem dX4_sweepRight_40 : decode cX4_sweepRight 40 = .ok (.iconst 1, 1) := by decide +kernel
theorem dX4_sweepRight_41 : decode cX4_sweepRight 41 = .ok (.isub, 1) := by decide +kernel
theorem dX4_sweepRight_42 : decode cX4_sweepRight 42 = .ok (.laload, 1) := by decide +kernel
theorem dX4_sweepRight_43 : decode cX4_sweepRight 43 = .ok (.goto 4, 3) := by decide +kernel
theorem dX4_sweepRight_46 : decode cX4_sweepRight 46 = .ok (.lconst 0, 1) := by decide +kernel
theorem dX4_sweepRight_47 : decode cX4_sweepRight 47 = .ok (.lstore 6, 2) := by decide +kernel
theorem dX4_sweepRight_49 : decode cX4_sweepRight 49 = .ok (.aload_n 0, 1) := by decide +kernel
theorem dX4_sweepRight_50 : decode cX4_sweepRight 50 = .ok (.getfield 19, 3) := by decide +kernel
theorem dX4_sweepRight_53 : decode cX4_sweepRight 53 = .ok (.iload_n 3, 1) := by decide +kernel
theorem dX4_sweepRight_54 : decode cX4_sweepRight 54 = .ok (.iconst 1, 1) := by decide +kernel
theorem dX4_sweepRight_55 : decode cX4_sweepRight 55 = .ok (.iadd, 1) := by decide +kernel
theorem dX4_sweepRight_56 : decode cX4_sweepRight 56 = .ok (.aload_n 1, 1) := by decide +kernel
theorem dX4_sweepRight_57 : decode cX4_sweepRight 57 = .ok (.iload_n 3, 1) := by decide +kernel
theorem dX4_sweepRight_58 : decode cX4_sweepRight 58 = .ok (.invokevirtual 48, 3) := by decide +kernel
theorem dX4_sweepRight_61 : decode cX4_sweepRight 61 = .ok (.i2l, 1) := by decide +kernel
theorem dX4_sweepRight_62 : decode cX4_sweepRight 62 = .ok (.aload_n 0, 1) := by decide +kernel
theorem dX4_sweepRight_63 : decode cX4_sweepRight 63 = .ok (.getfield 19, 3) := by decide +kernel
theorem dX4_sweepRight_66 : decode cX4_sweepRight 66 = .ok (.iload_n 3, 1) := by decide +kernel
theorem dX4_sweepRight_67 : decode cX4_sweepRight 67 = .ok (.laload, 1) := by decide +kernel
theorem dX4_sweepRight_68 : decode cX4_sweepRight 68 = .ok (.lmul, 1) := by decide +kernel
theorem dX4_sweepRight_69 : decode cX4_sweepRight 69 = .ok (.lload 4, 2) := by decide +kernel
theorem dX4_sweepRight_71 : decode cX4_sweepRight 71 = .ok (.lload 4, 2) := by decide +kernel
theorem dX4_sweepRight_73 : decode cX4_sweepRight 73 = .ok (.lmul, 1) := by decide +kernel
theorem dX4_sweepRight_74 : decode cX4_sweepRight 74 = .ok (.lload 6, 2) := by decide +kernel
theorem dX4_sweepRight_76 : decode cX4_sweepRight 76 = .ok (.lmul, 1) := by decide +kernel
theorem dX4_sweepRight_77 : decode cX4_sweepRight 77 = .ok (.lsub, 1) := by decide +kernel
theorem dX4_sweepRight_78 : decode cX4_sweepRight 78 = .ok (.lastore, 1) := by decide +kernel
theorem dX4_sweepRight_79 : decode cX4_sweepRight 79 = .ok (.aload_n 0, 1) := by decide +kernel
theorem dX4_sweepRight_80 : decode cX4_sweepRight 80 = .ok (.getfield 25, 3) := by decide +kernel
theorem dX4_sweepRight_83 : decode cX4_sweepRight 83 = .ok (.iload_n 3, 1) := by decide +kernel
theorem dX4_sweepRight_84 : decode cX4_sweepRight 84 = .ok (.iconst 1, 1) := by decide +kernel
theorem dX4_sweepRight_85 : decode cX4_sweepRight 85 = .ok (.iadd, 1) := by decide +kernel
theorem dX4_sweepRight_86 : decode cX4_sweepRight 86 = .ok (.aload_n 1, 1) := by decide +kernel
theorem dX4_sweepRight_87 : decode cX4_sweepRight 87 = .ok (.iload_n 3, 1) := by decide +kernel
theorem dX4_sweepRight_88 : decode cX4_sweepRight 88 = .ok (.invokevirtual 51, 3) := by decide +kernel
theorem dX4_sweepRight_91 : decode cX4_sweepRight 91 = .ok (.i2l, 1) := by decide +kernel
theorem dX4_sweepRight_92 : decode cX4_sweepRight 92 = .ok (.aload_n 0, 1) := by decide +kernel
theorem dX4_sweepRight_93 : decode cX4_sweepRight 93 = .ok (.getfield 19, 3) := by decide +kernel
theorem dX4_sweepRight_96 : decode cX4_sweepRight 96 = .ok (.iload_n 3, 1) := by decide +kernel
theorem dX4_sweepRight_97 : decode cX4_sweepRight 97 = .ok (.laload, 1) := by decide +kernel
theorem dX4_sweepRight_98 : decode cX4_sweepRight 98 = .ok (.lmul, 1) := by decide +kernel
theorem dX4_sweepRight_99 : decode cX4_sweepRight 99 = .ok (.lload 4, 2) := by decide +kernel
theorem dX4_sweepRight_101 : decode cX4_sweepRight 101 = .ok (.aload_n 0, 1) := by decide +kernel
theorem dX4_sweepRight_102 : decode cX4_sweepRight 102 = .ok (.getfield 25, 3) := by decide +kernel
theorem dX4_sweepRight_105 : decode cX4_sweepRight 105 = .ok (.iload_n 3, 1) := by decide +kernel
theorem dX4_sweepRight_106 : decode cX4_sweepRight 106 = .ok (.laload, 1) := by decide +kernel
theorem dX4_sweepRight_107 : decode cX4_sweepRight 107 = .ok (.lmul, 1) := by decide +kernel
theorem dX4_sweepRight_108 : decode cX4_sweepRight 108 = .ok (.ladd, 1) := by decide +kernel
theorem dX4_sweepRight_109 : decode cX4_sweepRight 109 = .ok (.lastore, 1) := by decide +kernel
theorem dX4_sweepRight_110 : decode cX4_sweepRight 110 = .ok (.iinc 3 1, 3) := by decide +kernel
theorem dX4_sweepRight_113 : decode cX4_sweepRight 113 = .ok (.goto (-97), 3) := by decide +kernel
theorem dX4_sweepRight_116 : decode cX4_sweepRight 116 = .ok (.return_, 1) := by decide +kernel
theorem dX4_sweepLeft_0 : decode cX4_sweepLeft 0 = .ok (.aload_n 0, 1) := by decide +kernel
theorem dX4_sweepLeft_1 : decode cX4_sweepLeft 1 = .ok (.getfield 22, 3) := by decide +kernel
theorem dX4_sweepLeft_4 : decode cX4_sweepLeft 4 = .ok (.iload_n 2, 1) := by decide +kernel
theorem dX4_sweepLeft_5 : decode cX4_sweepLeft 5 = .ok (.lconst 1, 1) := by decide +kernel
theorem dX4_sweepLeft_6 : decode cX4_sweepLeft 6 = .ok (.lastore, 1) := by decide +kernel
theorem dX4_sweepLeft_7 : decode cX4_sweepLeft 7 = .ok (.aload_n 0, 1) := by decide +kernel
theorem dX4_sweepLeft_8 : decode cX4_sweepLeft 8 = .ok (.getfield 22, 3) := by decide +kernel
theorem dX4_sweepLeft_11 : decode cX4_sweepLeft 11 = .ok (.iload_n 2, 1) := by decide +kernel
theorem dX4_sweepLeft_12 : decode cX4_sweepLeft 12 = .ok (.iconst 1, 1) := by decide +kernel
theorem dX4_sweepLeft_13 : decode cX4_sweepLeft 13 = .ok (.iadd, 1) := by decide +kernel
theorem dX4_sweepLeft_14 : decode cX4_sweepLeft 14 = .ok (.lconst 0, 1) := by decide +kernel
theorem dX4_sweepLeft_15 : decode cX4_sweepLeft 15 = .ok (.lastore, 1) := by decide +kernel
theorem dX4_sweepLeft_16 : decode cX4_sweepLeft 16 = .ok (.aload_n 0, 1) := by decide +kernel
theorem dX4_sweepLeft_17 : decode cX4_sweepLeft 17 = .ok (.getfield 28, 3) := by decide +kernel
theorem dX4_sweepLeft_20 : decode cX4_sweepLeft 20 = .ok (.iload_n 2, 1) := by decide +kernel
theorem dX4_sweepLeft_21 : decode cX4_sweepLeft 21 = .ok (.lconst 0, 1) := by decide +kernel
theorem dX4_sweepLeft_22 : decode cX4_sweepLeft 22 = .ok (.lastore, 1) := by decide +kernel
theorem dX4_sweepLeft_23 : decode cX4_sweepLeft 23 = .ok (.iload_n 2, 1) := by decide +kernel
theorem dX4_sweepLeft_24 : decode cX4_sweepLeft 24 = .ok (.iconst 1, 1) := by decide +kernel
theorem dX4_sweepLeft_25 : decode cX4_sweepLeft 25 = .ok (.isub, 1) := by decide +kernel
theorem dX4_sweepLeft_26 : decode cX4_sweepLeft 26 = .ok (.istore_n 3, 1) := by decide +kernel
theorem dX4_sweepLeft_27 : decode cX4_sweepLeft 27 = .ok (.iload_n 3, 1) := by decide +kernel
theorem dX4_sweepLeft_28 : decode cX4_sweepLeft 28 = .ok (.ifCond .lt 86, 3) := by decide +kernel
theorem dX4_sweepLeft_31 : decode cX4_sweepLeft 31 = .ok (.aload_n 1, 1) := by decide +kernel
theorem dX4_sweepLeft_32 : decode cX4_sweepLeft 32 = .ok (.iload_n 3, 1) := by decide +kernel
theorem dX4_sweepLeft_33 : decode cX4_sweepLeft 33 = .ok (.invokevirtual 44, 3) := by decide +kernel
theorem dX4_sweepLeft_36 : decode cX4_sweepLeft 36 = .ok (.i2l, 1) := by decide +kernel
theorem dX4_sweepLeft_37 : decode cX4_sweepLeft 37 = .ok (.lstore 4, 2) := by decide +kernel
theorem dX4_sweepLeft_39 : decode cX4_sweepLeft 39 = .ok (.aload_n 0, 1) := by decide +kernel
theorem dX4_sweepLeft_40 : decode cX4_sweepLeft 40 = .ok (.getfield 22, 3) := by decide +kernel
theorem dX4_sweepLeft_43 : decode cX4_sweepLeft 43 = .ok (.iload_n 3, 1) := by decide +kernel
theorem dX4_sweepLeft_44 : decode cX4_sweepLeft 44 = .ok (.aload_n 1, 1) := by decide +kernel
theorem dX4_sweepLeft_45 : decode cX4_sweepLeft 45 = .ok (.iload_n 3, 1) := by decide +kernel
theorem dX4_sweepLeft_46 : decode cX4_sweepLeft 46 = .ok (.invokevirtual 48, 3) := by decide +kernel
theorem dX4_sweepLeft_49 : decode cX4_sweepLeft 49 = .ok (.i2l, 1) := by decide +kernel
theorem dX4_sweepLeft_50 : decode cX4_sweepLeft 50 = .ok (.aload_n 0, 1) := by decide +kernel
theorem dX4_sweepLeft_51 : decode cX4_sweepLeft 51 = .ok (.getfield 22, 3) := by decide +kernel
theorem dX4_sweepLeft_54 : decode cX4_sweepLeft 54 = .ok (.iload_n 3, 1) := by decide +kernel
theorem dX4_sweepLeft_55 : decode cX4_sweepLeft 55 = .ok (.iconst 1, 1) := by decide +kernel
theorem dX4_sweepLeft_56 : decode cX4_sweepLeft 56 = .ok (.iadd, 1) := by decide +kernel
theorem dX4_sweepLeft_57 : decode cX4_sweepLeft 57 = .ok (.laload, 1) := by decide +kernel
theorem dX4_sweepLeft_58 : decode cX4_sweepLeft 58 = .ok (.lmul, 1) := by decide +kernel
theorem dX4_sweepLeft_59 : decode cX4_sweepLeft 59 = .ok (.lload 4, 2) := by decide +kernel
theorem dX4_sweepLeft_61 : decode cX4_sweepLeft 61 = .ok (.lload 4, 2) := by decide +kernel
theorem dX4_sweepLeft_63 : decode cX4_sweepLeft 63 = .ok (.lmul, 1) := by decide +kernel
theorem dX4_sweepLeft_64 : decode cX4_sweepLeft 64 = .ok (.aload_n 0, 1) := by decide +kernel
theorem dX4_sweepLeft_65 : decode cX4_sweepLeft 65 = .ok (.getfield 22, 3) := by decide +kernel
theorem dX4_sweepLeft_68 : decode cX4_sweepLeft 68 = .ok (.iload_n 3, 1) := by decide +kernel
theorem dX4_sweepLeft_69 : decode cX4_sweepLeft 69 = .ok (.iconst 2, 1) := by decide +kernel
theorem dX4_sweepLeft_70 : decode cX4_sweepLeft 70 = .ok (.iadd, 1) := by decide +kernel
theorem dX4_sweepLeft_71 : decode cX4_sweepLeft 71 = .ok (.laload, 1) := by decide +kernel
theorem dX4_sweepLeft_72 : decode cX4_sweepLeft 72 = .ok (.lmul, 1) := by decide +kernel
theorem dX4_sweepLeft_73 : decode cX4_sweepLeft 73 = .ok (.lsub, 1) := by decide +kernel
theorem dX4_sweepLeft_74 : decode cX4_sweepLeft 74 = .ok (.lastore, 1) := by decide +kernel
theorem dX4_sweepLeft_75 : decode cX4_sweepLeft 75 = .ok (.aload_n 0, 1) := by decide +kernel
theorem dX4_sweepLeft_76 : decode cX4_sweepLeft 76 = .ok (.getfield 28, 3) := by decide +kernel
theorem dX4_sweepLeft_79 : decode cX4_sweepLeft 79 = .ok (.iload_n 3, 1) := by decide +kernel
theorem dX4_sweepLeft_80 : decode cX4_sweepLeft 80 = .ok (.aload_n 1, 1) := by decide +kernel
theorem dX4_sweepLeft_81 : decode cX4_sweepLeft 81 = .ok (.iload_n 3, 1) := by decide +kernel
theorem dX4_sweepLeft_82 : decode cX4_sweepLeft 82 = .ok (.invokevirtual 51, 3) := by decide +kernel
theorem dX4_sweepLeft_85 : decode cX4_sweepLeft 85 = .ok (.i2l, 1) := by decide +kernel
theorem dX4_sweepLeft_86 : decode cX4_sweepLeft 86 = .ok (.aload_n 0, 1) := by decide +kernel
theorem dX4_sweepLeft_87 : decode cX4_sweepLeft 87 = .ok (.getfield 22, 3) := by decide +kernel
theorem dX4_sweepLeft_90 : decode cX4_sweepLeft 90 = .ok (.iload_n 3, 1) := by decide +kernel
theorem dX4_sweepLeft_91 : decode cX4_sweepLeft 91 = .ok (.iconst 1, 1) := by decide +kernel
theorem dX4_sweepLeft_92 : decode cX4_sweepLeft 92 = .ok (.iadd, 1) := by decide +kernel
theorem dX4_sweepLeft_93 : decode cX4_sweepLeft 93 = .ok (.laload, 1) := by decide +kernel
theorem dX4_sweepLeft_94 : decode cX4_sweepLeft 94 = .ok (.lmul, 1) := by decide +kernel
theorem dX4_sweepLeft_95 : decode cX4_sweepLeft 95 = .ok (.lload 4, 2) := by decide +kernel
theorem dX4_sweepLeft_97 : decode cX4_sweepLeft 97 = .ok (.aload_n 0, 1) := by decide +kernel
theorem dX4_sweepLeft_98 : decode cX4_sweepLeft 98 = .ok (.getfield 28, 3) := by decide +kernel
theorem dX4_sweepLeft_101 : decode cX4_sweepLeft 101 = .ok (.iload_n 3, 1) := by decide +kernel
theorem dX4_sweepLeft_102 : decode cX4_sweepLeft 102 = .ok (.iconst 1, 1) := by decide +kernel
theorem dX4_sweepLeft_103 : decode cX4_sweepLeft 103 = .ok (.iadd, 1) := by decide +kernel
theorem dX4_sweepLeft_104 : decode cX4_sweepLeft 104 = .ok (.laload, 1) := by decide +kernel
theorem dX4_sweepLeft_105 : decode cX4_sweepLeft 105 = .ok (.lmul, 1) := by decide +kernel
theorem dX4_sweepLeft_106 : decode cX4_sweepLeft 106 = .ok (.ladd, 1) := by decide +kernel
theorem dX4_sweepLeft_107 : decode cX4_sweepLeft 107 = .ok (.lastore, 1) := by decide +kernel
theorem dX4_sweepLeft_108 : decode cX4_sweepLeft 108 = .ok (.iinc 3 (-1), 3) := by decide +kernel
theorem dX4_sweepLeft_111 : decode cX4_sweepLeft 111 = .ok (.goto (-84), 3) := by decide +kernel
theorem dX4_sweepLeft_114 : decode cX4_sweepLeft 114 = .ok (.return_, 1) := by decide +kernel
theorem dX5_init_0 : decode cX5_init 0 = .ok (.aload_n 0, 1) := by decide +kernel
theorem dX5_init_1 : decode cX5_init 1 = .ok (.invokespecial 3, 3) := by decide +kernel
theorem dX5_init_4 : decode cX5_init 4 = .ok (.aload_n 0, 1) := by decide +kernel
theorem dX5_init_5 : decode cX5_init 5 = .ok (.bipush 60, 2) := by decide +kernel
theorem dX5_init_7 : decode cX5_init 7 = .ok (.newarray .int, 2) := by decide +kernel
theorem dX5_init_9 : decode cX5_init 9 = .ok (.putfield 9, 3) := by decide +kernel
theorem dX5_init_12 : decode cX5_init 12 = .ok (.aload_n 0, 1) := by decide +kernel
theorem dX5_init_13 : decode cX5_init 13 = .ok (.iconst 0, 1) := by decide +kernel
theorem dX5_init_14 : decode cX5_init 14 = .ok (.putfield 15, 3) := by decide +kernel
theorem dX5_init_17 : decode cX5_init 17 = .ok (.aload_n 0, 1) := by decide +kernel
theorem dX5_init_18 : decode cX5_init 18 = .ok (.bipush 60, 2) := by decide +kernel
theorem dX5_init_20 : decode cX5_init 20 = .ok (.newarray .int, 2) := by decide +kernel
theorem dX5_init_22 : decode cX5_init 22 = .ok (.putfield 19, 3) := by decide +kernel
theorem dX5_init_25 : decode cX5_init 25 = .ok (.aload_n 0, 1) := by decide +kernel
theorem dX5_init_26 : decode cX5_init 26 = .ok (.iconst 0, 1) := by decide +kernel
theorem dX5_init_27 : decode cX5_init 27 = .ok (.putfield 22, 3) := by decide +kernel
theorem dX5_init_30 : decode cX5_init 30 = .ok (.aload_n 0, 1) := by decide +kernel
theorem dX5_init_31 : decode cX5_init 31 = .ok (.iconst 0, 1) := by decide +kernel
theorem dX5_init_32 : decode cX5_init 32 = .ok (.putfield 25, 3) := by decide +kernel
theorem dX5_init_35 : decode cX5_init 35 = .ok (.return_, 1) := by decide +kernel
theorem dX5_append_0 : decode cX5_append 0 = .ok (.aload_n 0, 1) := by decide +kernel
theorem dX5_append_1 : decode cX5_append 1 = .ok (.getfield 15, 3) := by decide +kernel
theorem dX5_append_4 : decode cX5_append 4 = .ok (.iload_n 2, 1) := by decide +kernel
theorem dX5_append_5 : decode cX5_append 5 = .ok (.if_icmp .ge 32, 3) := by decide +kernel
theorem dX5_append_8 : decode cX5_append 8 = .ok (.aload_n 0, 1) := by decide +kernel
theorem dX5_append_9 : decode cX5_append 9 = .ok (.getfield 15, 3) := by decide +kernel
theorem dX5_append_12 : decode cX5_append 12 = .ok (.bipush 60, 2) := by decide +kernel
theorem dX5_append_14 : decode cX5_append 14 = .ok (.if_icmp .ge 23, 3) := by decide +kernel
theorem dX5_append_17 : decode cX5_append 17 = .ok (.aload_n 0, 1) := by decide +kernel
theorem dX5_append_18 : decode cX5_append 18 = .ok (.getfield 9, 3) := by decide +kernel
theorem dX5_append_21 : decode cX5_append 21 = .ok (.aload_n 0, 1) := by decide +kernel
theorem dX5_append_22 : decode cX5_append 22 = .ok (.getfield 15, 3) := by decide +kernel
theorem dX5_append_25 : decode cX5_append 25 = .ok (.iload_n 1, 1) := by decide +kernel
theorem dX5_append_26 : decode cX5_append 26 = .ok (.iastore, 1) := by decide +kernel
theorem dX5_append_27 : decode cX5_append 27 = .ok (.aload_n 0, 1) := by decide +kernel
theorem dX5_append_28 : decode cX5_append 28 = .ok (.dup, 1) := by decide +kernel
theorem dX5_append_29 : decode cX5_append 29 = .ok (.getfield 15, 3) := by decide +kernel
theorem dX5_append_32 : decode cX5_append 32 = .ok (.iconst 1, 1) := by decide +kernel
theorem dX5_append_33 : decode cX5_append 33 = .ok (.iadd, 1) := by decide +kernel
theorem dX5_append_34 : decode cX5_append 34 = .ok (.putfield 15, 3) := by decide +kernel
theorem dX5_append_37 : decode cX5_append 37 = .ok (.return_, 1) := by decide +kernel
theorem dX5_planAt_0 : decode cX5_planAt 0 = .ok (.iload_n 1, 1) := by decide +kernel
theorem dX5_planAt_1 : decode cX5_planAt 1 = .ok (.ifCond .lt 20, 3) := by decide +kernel
theorem dX5_planAt_4 : decode cX5_planAt 4 = .ok (.iload_n 1, 1) := by decide +kernel
theorem dX5_planAt_5 : decode cX5_planAt 5 = .ok (.aload_n 0, 1) := by decide +kernel
theorem dX5_planAt_6 : decode cX5_planAt 6 = .ok (.getfield 22, 3) := by decide +kernel
theorem dX5_planAt_9 : decode cX5_planAt 9 = .ok (.if_icmp .ge 12, 3) := by decide +kernel
theorem dX5_planAt_12 : decode cX5_planAt 12 = .ok (.aload_n 0, 1) := by decide +kernel
theorem dX5_planAt_13 : decode cX5_planAt 13 = .ok (.getfield 19, 3) := by decide +kernel
theorem dX5_planAt_16 : decode cX5_planAt 16 = .ok (.iload_n 1, 1) := by decide +kernel
theorem dX5_planAt_17 : decode cX5_planAt 17 = .ok (.iaload, 1) := by decide +kernel
theorem dX5_planAt_18 : decode cX5_planAt 18 = .ok (.goto 4, 3) := by decide +kernel
theorem dX5_planAt_21 : decode cX5_planAt 21 = .ok (.iconst 0, 1) := by decide +kernel
theorem dX5_planAt_22 : decode cX5_planAt 22 = .ok (.ireturn, 1) := by decide +kernel
theorem dX5_numbersOf_0 : decode cX5_numbersOf 0 = .ok (.iload_n 0, 1) := by decide +kernel
theorem dX5_numbersOf_1 : decode cX5_numbersOf 1 = .ok (.tableswitch 51 0 6 #[43, 47, 47, 49, 49, 49, 45], 43) := by decide +kernel
theorem dX5_numbersOf_44 : decode cX5_numbersOf 44 = .ok (.iconst 4, 1) := by decide +kernel
theorem dX5_numbersOf_45 : decode cX5_numbersOf 45 = .ok (.ireturn, 1) := by decide +kernel
theorem dX5_numbersOf_46 : decode cX5_numbersOf 46 = .ok (.iconst 3, 1) := by decide +kernel
theorem dX5_numbersOf_47 : decode cX5_numbersOf 47 = .ok (.ireturn, 1) := by decide +kernel
theorem dX5_numbersOf_48 : decode cX5_numbersOf 48 = .ok (.iconst 2, 1) := by decide +kernel
theorem dX5_numbersOf_49 : decode cX5_numbersOf 49 = .ok (.ireturn, 1) := by decide +kernel
theorem dX5_numbersOf_50 : decode cX5_numbersOf 50 = .ok (.iconst 1, 1) := by decide +kernel
theorem dX5_numbersOf_51 : decode cX5_numbersOf 51 = .ok (.ireturn, 1) := by decide +kernel
theorem dX5_numbersOf_52 : decode cX5_numbersOf 52 = .ok (.iconst 0, 1) := by decide +kernel
theorem dX5_numbersOf_53 : decode cX5_numbersOf 53 = .ok (.ireturn, 1) := by decide +kernel
theorem dX5_nameOf_0 : decode cX5_nameOf 0 = .ok (.iload_n 0, 1) := by decide +kernel
theorem dX5_nameOf_1 : decode cX5_nameOf 1 = .ok (.tableswitch 64 0 6 #[43, 46, 49, 52, 55, 58, 61], 43) := by decide +kernel
theorem dX5_nameOf_44 : decode cX5_nameOf 44 = .ok (.ldc 28, 2) := by decide +kernel
theorem dX5_nameOf_46 : decode cX5_nameOf 46 = .ok (.areturn, 1) := by decide +kernel
theorem dX5_nameOf_47 : decode cX5_nameOf 47 = .ok (.ldc 30, 2) := by decide +kernel
theorem dX5_nameOf_49 : decode cX5_nameOf 49 = .ok (.areturn, 1) := by decide +kernel
theorem dX5_nameOf_50 : decode cX5_nameOf 50 = .ok (.ldc 32, 2) := by decide +kernel
theorem dX5_nameOf_52 : decode cX5_nameOf 52 = .ok (.areturn, 1) := by decide +kernel
theorem dX5_nameOf_53 : decode cX5_nameOf 53 = .ok (.ldc 34, 2) := by decide +kernel
theorem dX5_nameOf_55 : decode cX5_nameOf 55 = .ok (.areturn, 1) := by decide +kernel
theorem dX5_nameOf_56 : decode cX5_nameOf 56 = .ok (.ldc 36, 2) := by decide +kernel
theorem dX5_nameOf_58 : decode cX5_nameOf 58 = .ok (.areturn, 1) := by decide +kernel
theorem dX5_nameOf_59 : decode cX5_nameOf 59 = .ok (.ldc 38, 2) := by decide +kernel
theorem dX5_nameOf_61 : decode cX5_nameOf 61 = .ok (.areturn, 1) := by decide +kernel
theorem dX5_nameOf_62 : decode cX5_nameOf 62 = .ok (.ldc 40, 2) := by decide +kernel
theorem dX5_nameOf_64 : decode cX5_nameOf 64 = .ok (.areturn, 1) := by decide +kernel
theorem dX5_nameOf_65 : decode cX5_nameOf 65 = .ok (.ldc 42, 2) := by decide +kernel
theorem dX5_nameOf_67 : decode cX5_nameOf 67 = .ok (.areturn, 1) := by decide +kernel
theorem dX5_read_0 : decode cX5_read 0 = .ok (.aload_n 0, 1) := by decide +kernel
theorem dX5_read_1 : decode cX5_read 1 = .ok (.iconst 0, 1) := by decide +kernel
theorem dX5_read_2 : decode cX5_read 2 = .ok (.putfield 25, 3) := by decide +kernel
theorem dX5_read_5 : decode cX5_read 5 = .ok (.aload_n 0, 1) := by decide +kernel
theorem dX5_read_6 : decode cX5_read 6 = .ok (.iconst 0, 1) := by decide +kernel
theorem dX5_read_7 : decode cX5_read 7 = .ok (.putfield 22, 3) := by decide +kernel
theorem dX5_read_10 : decode cX5_read 10 = .ok (.iconst 0, 1) := by decide +kernel
theorem dX5_read_11 : decode cX5_read 11 = .ok (.istore_n 1, 1) := by decide +kernel
theorem dX5_read_12 : decode cX5_read 12 = .ok (.iload_n 1, 1) := by decide +kernel
theorem dX5_read_13 : decode cX5_read 13 = .ok (.bipush 60, 2) := by decide +kernel
theorem dX5_read_15 : decode cX5_read 15 = .ok (.if_icmp .ge 67, 3) := by decide +kernel
theorem dX5_read_18 : decode cX5_read 18 = .ok (.aload_n 0, 1) := by decide +kernel
theorem dX5_read_19 : decode cX5_read 19 = .ok (.invokevirtual 44, 3) := by decide +kernel
theorem dX5_read_22 : decode cX5_read 22 = .ok (.ifCond .ne 8, 3) := by decide +kernel
theorem dX5_read_25 : decode cX5_read 25 = .ok (.aload_n 0, 1) := by decide +kernel
theorem dX5_read_26 : decode cX5_read 26 = .ok (.getfield 25, 3) := by decide +kernel
theorem dX5_read_29 : decode cX5_read 29 = .ok (.ireturn, 1) := by decide +kernel
theorem dX5_read_30 : decode cX5_read 30 = .ok (.aload_n 0, 1) := by decide +kernel
theorem dX5_read_31 : decode cX5_read 31 = .ok (.invokevirtual 48, 3) := by decide +kernel
theorem dX5_read_34 : decode cX5_read 34 = .ok (.aload_n 0, 1) := by decide +kernel
theorem dX5_read_35 : decode cX5_read 35 = .ok (.getfield 25, 3) := by decide +kernel
theorem dX5_read_38 : decode cX5_read 38 = .ok (.aload_n 0, 1) := by decide +kernel
theorem dX5_read_39 : decode cX5_read 39 = .ok (.getfield 15, 3) := by decide +kernel
theorem dX5_read_42 : decode cX5_read 42 = .ok (.if_icmp .lt 5, 3) := by decide +kernel
theorem dX5_read_45 : decode cX5_read 45 = .ok (.iconst (-1), 1) := by decide +kernel
theorem dX5_read_46 : decode cX5_read 46 = .ok (.ireturn, 1) := by decide +kernel
theorem dX5_read_47 : decode cX5_read 47 = .ok (.aload_n 0, 1) := by decide +kernel
theorem dX5_read_48 : decode cX5_read 48 = .ok (.getfield 9, 3) := by decide +kernel
theorem dX5_read_51 : decode cX5_read 51 = .ok (.aload_n 0, 1) := by decide +kernel
theorem dX5_read_52 : decode cX5_read 52 = .ok (.getfield 25, 3) := by decide +kernel
theorem dX5_read_55 : decode cX5_read 55 = .ok (.iaload, 1) := by decide +kernel
theorem dX5_read_56 : decode cX5_read 56 = .ok (.bipush 59, 2) := by decide +kernel
theorem dX5_read_58 : decode cX5_read 58 = .ok (.if_icmp .eq 8, 3) := by decide +kernel
theorem dX5_read_61 : decode cX5_read 61 = .ok (.aload_n 0, 1) := by decide +kernel
theorem dX5_read_62 : decode cX5_read 62 = .ok (.getfield 25, 3) := by decide +kernel
theorem dX5_read_65 : decode cX5_read 65 = .ok (.ireturn, 1) := by decide +kernel
theorem dX5_read_66 : decode cX5_read 66 = .ok (.aload_n 0, 1) := by decide +kernel
theorem dX5_read_67 : decode cX5_read 67 = .ok (.dup, 1) := by decide +kernel
theorem dX5_read_68 : decode cX5_read 68 = .ok (.getfield 25, 3) := by decide +kernel
theorem dX5_read_71 : decode cX5_read 71 = .ok (.iconst 1, 1) := by decide +kernel
theorem dX5_read_72 : decode cX5_read 72 = .ok (.iadd, 1) := by decide +kernel
theorem dX5_read_73 : decode cX5_read 73 = .ok (.putfield 25, 3) := by decide +kernel
theorem dX5_read_76 : decode cX5_read 76 = .ok (.iinc 1 1, 3) := by decide +kernel
theorem dX5_read_79 : decode cX5_read 79 = .ok (.goto (-67), 3) := by decide +kernel
theorem dX5_read_82 : decode cX5_read 82 = .ok (.aload_n 0, 1) := by decide +kernel
theorem dX5_read_83 : decode cX5_read 83 = .ok (.getfield 25, 3) := by decide +kernel
theorem dX5_read_86 : decode cX5_read 86 = .ok (.ireturn, 1) := by decide +kernel
theorem dX5_readClause_0 : decode cX5_readClause 0 = .ok (.aload_n 0, 1) := by decide +kernel
theorem dX5_readClause_1 : decode cX5_readClause 1 = .ok (.invokevirtual 48, 3) := by decide +kernel
theorem dX5_readClause_4 : decode cX5_readClause 4 = .ok (.aload_n 0, 1) := by decide +kernel
theorem dX5_readClause_5 : decode cX5_readClause 5 = .ok (.invokevirtual 51, 3) := by decide +kernel
theorem dX5_readClause_8 : decode cX5_readClause 8 = .ok (.istore_n 1, 1) := by decide +kernel
theorem dX5_readClause_9 : decode cX5_readClause 9 = .ok (.aload_n 0, 1) := by decide +kernel
theorem dX5_readClause_10 : decode cX5_readClause 10 = .ok (.iload_n 1, 1) := by decide +kernel
theorem dX5_readClause_11 : decode cX5_readClause 11 = .ok (.invokevirtual 55, 3) := by decide +kernel
theorem dX5_readClause_14 : decode cX5_readClause 14 = .ok (.istore_n 2, 1) := by decide +kernel
theorem dX5_readClause_15 : decode cX5_readClause 15 = .ok (.iload_n 2, 1) := by decide +kernel
theorem dX5_readClause_16 : decode cX5_readClause 16 = .ok (.iconst (-1), 1) := by decide +kernel
theorem dX5_readClause_17 : decode cX5_readClause 17 = .ok (.if_icmp .ne 5, 3) := by decide +kernel
theorem dX5_readClause_20 : decode cX5_readClause 20 = .ok (.iconst 0, 1) := by decide +kernel
theorem dX5_readClause_21 : decode cX5_readClause 21 = .ok (.ireturn, 1) := by decide +kernel
theorem dX5_readClause_22 : decode cX5_readClause 22 = .ok (.aload_n 0, 1) := by decide +kernel
theorem dX5_readClause_23 : decode cX5_readClause 23 = .ok (.dup, 1) := by decide +kernel
theorem dX5_readClause_24 : decode cX5_readClause 24 = .ok (.getfield 25, 3) := by decide +kernel
theorem dX5_readClause_27 : decode cX5_readClause 27 = .ok (.iload_n 1, 1) := by decide +kernel
theorem dX5_readClause_28 : decode cX5_readClause 28 = .ok (.iadd, 1) := by decide +kernel
theorem dX5_readClause_29 : decode cX5_readClause 29 = .ok (.putfield 25, 3) := by decide +kernel
theorem dX5_readClause_32 : decode cX5_readClause 32 = .ok (.aload_n 0, 1) := by decide +kernel
theorem dX5_readClause_33 : decode cX5_readClause 33 = .ok (.iload_n 2, 1) := by decide +kernel
theorem dX5_readClause_34 : decode cX5_readClause 34 = .ok (.invokevirtual 59, 3) := by decide +kernel
theorem dX5_readClause_37 : decode cX5_readClause 37 = .ok (.iconst 0, 1) := by decide +kernel
theorem dX5_readClause_38 : decode cX5_readClause 38 = .ok (.istore_n 3, 1) := by decide +kernel
theorem dX5_readClause_39 : decode cX5_readClause 39 = .ok (.iload_n 3, 1) := by decide +kernel
theorem dX5_readClause_40 : decode cX5_readClause 40 = .ok (.iload_n 2, 1) := by decide +kernel
theorem dX5_readClause_41 : decode cX5_readClause 41 = .ok (.invokestatic 63, 3) := by decide +kernel
theorem dX5_readClause_44 : decode cX5_readClause 44 = .ok (.if_icmp .ge 22, 3) := by decide +kernel
theorem dX5_readClause_47 : decode cX5_readClause 47 = .ok (.aload_n 0, 1) := by decide +kernel
theorem dX5_readClause_48 : decode cX5_readClause 48 = .ok (.invokevirtual 48, 3) := by decide +kernel
theorem dX5_readClause_51 : decode cX5_readClause 51 = .ok (.aload_n 0, 1) := by decide +kernel
theorem dX5_readClause_52 : decode cX5_readClause 52 = .ok (.invokevirtual 66, 3) := by decide +kernel
theorem dX5_readClause_55 : decode cX5_readClause 55 = .ok (.ifCond .ne 5, 3) := by decide +kernel
theorem dX5_readClause_58 : decode cX5_readClause 58 = .ok (.iconst 0, 1) := by decide +kernel
theorem dX5_readClause_59 : decode cX5_readClause 59 = .ok (.ireturn, 1) := by decide +kernel
theorem dX5_readClause_60 : decode cX5_readClause 60 = .ok (.iinc 3 1, 3) := by decide +kernel
theorem dX5_readClause_63 : decode cX5_readClause 63 = .ok (.goto (-24), 3) := by decide +kernel
theorem dX5_readClause_66 : decode cX5_readClause 66 = .ok (.iconst 1, 1) := by decide +kernel
theorem dX5_readClause_67 : decode cX5_readClause 67 = .ok (.ireturn, 1) := by decide +kernel
theorem dX5_readNumber_0 : decode cX5_readNumber 0 = .ok (.aload_n 0, 1) := by decide +kernel
theorem dX5_readNumber_1 : decode cX5_readNumber 1 = .ok (.getfield 25, 3) := by decide +kernel
theorem dX5_readNumber_4 : decode cX5_readNumber 4 = .ok (.aload_n 0, 1) := by decide +kernel
theorem dX5_readNumber_5 : decode cX5_readNumber 5 = .ok (.getfield 15, 3) := by decide +kernel
theorem dX5_readNumber_8 : decode cX5_readNumber 8 = .ok (.if_icmp .ge 21, 3) := by decide +kernel
theorem dX5_readNumber_11 : decode cX5_readNumber 11 = .ok (.aload_n 0, 1) := by decide +kernel
theorem dX5_readNumber_12 : decode cX5_readNumber 12 = .ok (.getfield 9, 3) := by decide +kernel
theorem dX5_readNumber_15 : decode cX5_readNumber 15 = .ok (.aload_n 0, 1) := by decide +kernel
theorem dX5_readNumber_16 : decode cX5_readNumber 16 = .ok (.getfield 25, 3) := by decide +kernel
theorem dX5_readNumber_19 : decode cX5_readNumber 19 = .ok (.iaload, 1) := by decide +kernel
theorem dX5_readNumber_20 : decode cX5_readNumber 20 = .ok (.bipush 45, 2) := by decide +kernel
theorem dX5_readNumber_22 : decode cX5_readNumber 22 = .ok (.if_icmp .ne 7, 3) := by decide +kernel
theorem dX5_readNumber_25 : decode cX5_readNumber 25 = .ok (.iconst 1, 1) := by decide +kernel
theorem dX5_readNumber_26 : decode cX5_readNumber 26 = .ok (.goto 4, 3) := by decide +kernel
theorem dX5_readNumber_29 : decode cX5_readNumber 29 = .ok (.iconst 0, 1) := by decide +kernel
theorem dX5_readNumber_30 : decode cX5_readNumber 30 = .ok (.istore_n 1, 1) := by decide +kernel
theorem dX5_readNumber_31 : decode cX5_readNumber 31 = .ok (.iload_n 1, 1) := by decide +kernel
theorem dX5_readNumber_32 : decode cX5_readNumber 32 = .ok (.ifCond .eq 12, 3) := by decide +kernel
theorem dX5_readNumber_35 : decode cX5_readNumber 35 = .ok (.aload_n 0, 1) := by decide +kernel
theorem dX5_readNumber_36 : decode cX5_readNumber 36 = .ok (.getfield 25, 3) := by decide +kernel
theorem dX5_readNumber_39 : decode cX5_readNumber 39 = .ok (.iconst 1, 1) := by decide +kernel
theorem dX5_readNumber_40 : decode cX5_readNumber 40 = .ok (.iadd, 1) := by decide +kernel
theorem dX5_readNumber_41 : decode cX5_readNumber 41 = .ok (.goto 7, 3) := by decide +kernel
theorem dX5_readNumber_44 : decode cX5_readNumber 44 = .ok (.aload_n 0, 1) := by decide +kernel
theorem dX5_readNumber_45 : decode cX5_readNumber 45 = .ok (.getfield 25, 3) := by decide +kernel
theorem dX5_readNumber_48 : decode cX5_readNumber 48 = .ok (.istore_n 2, 1) := by decide +kernel
theorem dX5_readNumber_49 : decode cX5_readNumber 49 = .ok (.iload_n 2, 1) := by decide +kernel
theorem dX5_readNumber_50 : decode cX5_readNumber 50 = .ok (.istore_n 3, 1) := by decide +kernel
theorem dX5_readNumber_51 : decode cX5_readNumber 51 = .ok (.iconst 0, 1) := by decide +kernel
theorem dX5_readNumber_52 : decode cX5_readNumber 52 = .ok (.istore 4, 2) := by decide +kernel
theorem dX5_readNumber_54 : decode cX5_readNumber 54 = .ok (.iload_n 3, 1) := by decide +kernel
theorem dX5_readNumber_55 : decode cX5_readNumber 55 = .ok (.aload_n 0, 1) := by decide +kernel
theorem dX5_readNumber_56 : decode cX5_readNumber 56 = .ok (.getfield 15, 3) := by decide +kernel
theorem dX5_readNumber_59 : decode cX5_readNumber 59 = .ok (.if_icmp .ge 48, 3) := by decide +kernel
theorem dX5_readNumber_62 : decode cX5_readNumber 62 = .ok (.aload_n 0, 1) := by decide +kernel
theorem dX5_readNumber_63 : decode cX5_readNumber 63 = .ok (.getfield 9, 3) := by decide +kernel
theorem dX5_readNumber_66 : decode cX5_readNumber 66 = .ok (.iload_n 3, 1) := by decide +kernel
theorem dX5_readNumber_67 : decode cX5_readNumber 67 = .ok (.iaload, 1) := by decide +kernel
theorem dX5_readNumber_68 : decode cX5_readNumber 68 = .ok (.bipush 48, 2) := by decide +kernel
theorem dX5_readNumber_70 : decode cX5_readNumber 70 = .ok (.if_icmp .lt 37, 3) := by decide +kernel
theorem dX5_readNumber_73 : decode cX5_readNumber 73 = .ok (.aload_n 0, 1) := by decide +kernel
theorem dX5_readNumber_74 : decode cX5_readNumber 74 = .ok (.getfield 9, 3) := by decide +kernel
theorem dX5_readNumber_77 : decode cX5_readNumber 77 = .ok (.iload_n 3, 1) := by decide +kernel
theorem dX5_readNumber_78 : decode cX5_readNumber 78 = .ok (.iaload, 1) := by decide +kernel
theorem dX5_readNumber_79 : decode cX5_readNumber 79 = .ok (.bipush 57, 2) := by decide +kernel
theorem dX5_readNumber_81 : decode cX5_readNumber 81 = .ok (.if_icmp .gt 26, 3) := by decide +kernel
theorem dX5_readNumber_84 : decode cX5_readNumber 84 = .ok (.iload 4, 2) := by decide +kernel
theorem dX5_readNumber_86 : decode cX5_readNumber 86 = .ok (.bipush 10, 2) := by decide +kernel
theorem dX5_readNumber_88 : decode cX5_readNumber 88 = .ok (.imul, 1) := by decide +kernel
theorem dX5_readNumber_89 : decode cX5_readNumber 89 = .ok (.aload_n 0, 1) := by decide +kernel
theorem dX5_readNumber_90 : decode cX5_readNumber 90 = .ok (.getfield 9, 3) := by decide +kernel
theorem dX5_readNumber_93 : decode cX5_readNumber 93 = .ok (.iload_n 3, 1) := by decide +kernel
theorem dX5_readNumber_94 : decode cX5_readNumber 94 = .ok (.iaload, 1) := by decide +kernel
theorem dX5_readNumber_95 : decode cX5_readNumber 95 = .ok (.iadd, 1) := by decide +kernel
theorem dX5_readNumber_96 : decode cX5_readNumber 96 = .ok (.bipush 48, 2) := by decide +kernel
theorem dX5_readNumber_98 : decode cX5_readNumber 98 = .ok (.isub, 1) := by decide +kernel
theorem dX5_readNumber_99 : decode cX5_readNumber 99 = .ok (.istore 4, 2) := by decide +kernel
theorem dX5_readNumber_101 : decode cX5_readNumber 101 = .ok (.iinc 3 1, 3) := by decide +kernel
theorem dX5_readNumber_104 : decode cX5_readNumber 104 = .ok (.goto (-50), 3) := by decide +kernel
theorem dX5_readNumber_107 : decode cX5_readNumber 107 = .ok (.iload_n 3, 1) := by decide +kernel
theorem dX5_readNumber_108 : decode cX5_readNumber 108 = .ok (.iload_n 2, 1) := by decide +kernel
theorem dX5_readNumber_109 : decode cX5_readNumber 109 = .ok (.if_icmp .eq 10, 3) := by decide +kernel
theorem dX5_readNumber_112 : decode cX5_readNumber 112 = .ok (.iload_n 3, 1) := by decide +kernel
theorem dX5_readNumber_113 : decode cX5_readNumber 113 = .ok (.iload_n 2, 1) := by decide +kernel
theorem dX5_readNumber_114 : decode cX5_readNumber 114 = .ok (.isub, 1) := by decide +kernel
theorem dX5_readNumber_115 : decode cX5_readNumber 115 = .ok (.iconst 3, 1) := by decide +kernel
theorem dX5_readNumber_116 : decode cX5_readNumber 116 = .ok (.if_icmp .le 5, 3) := by decide +kernel
theorem dX5_readNumber_119 : decode cX5_readNumber 119 = .ok (.iconst 0, 1) := by decide +kernel
theorem dX5_readNumber_120 : decode cX5_readNumber 120 = .ok (.ireturn, 1) := by decide +kernel
theorem dX5_readNumber_121 : decode cX5_readNumber 121 = .ok (.aload_n 0, 1) := by decide +kernel
theorem dX5_readNumber_122 : decode cX5_readNumber 122 = .ok (.iload_n 1, 1) := by decide +kernel
theorem dX5_readNumber_123 : decode cX5_readNumber 123 = .ok (.ifCond .eq 9, 3) := by decide +kernel
theorem dX5_readNumber_126 : decode cX5_readNumber 126 = .ok (.iload 4, 2) := by decide +kernel
theorem dX5_readNumber_128 : decode cX5_readNumber 128 = .ok (.ineg, 1) := by decide +kernel
theorem dX5_readNumber_129 : decode cX5_readNumber 129 = .ok (.goto 5, 3) := by decide +kernel
theorem dX5_readNumber_132 : decode cX5_readNumber 132 = .ok (.iload 4, 2) := by decide +kernel
theorem dX5_readNumber_134 : decode cX5_readNumber 134 = .ok (.invokevirtual 59, 3) := by decide +kernel
theorem dX5_readNumber_137 : decode cX5_readNumber 137 = .ok (.aload_n 0, 1) := by decide +kernel
theorem dX5_readNumber_138 : decode cX5_readNumber 138 = .ok (.iload_n 3, 1) := by decide +kernel
theorem dX5_readNumber_139 : decode cX5_readNumber 139 = .ok (.putfield 25, 3) := by decide +kernel
theorem dX5_readNumber_142 : decode cX5_readNumber 142 = .ok (.iconst 1, 1) := by decide +kernel
theorem dX5_readNumber_143 : decode cX5_readNumber 143 = .ok (.ireturn, 1) := by decide +kernel
theorem dX5_skipBlanks_0 : decode cX5_skipBlanks 0 = .ok (.aload_n 0, 1) := by decide +kernel
theorem dX5_skipBlanks_1 : decode cX5_skipBlanks 1 = .ok (.getfield 25, 3) := by decide +kernel
theorem dX5_skipBlanks_4 : decode cX5_skipBlanks 4 = .ok (.aload_n 0, 1) := by decide +kernel
theorem dX5_skipBlanks_5 : decode cX5_skipBlanks 5 = .ok (.getfield 15, 3) := by decide +kernel
theorem dX5_skipBlanks_8 : decode cX5_skipBlanks 8 = .ok (.if_icmp .ge 44, 3) := by decide +kernel
theorem dX5_skipBlanks_11 : decode cX5_skipBlanks 11 = .ok (.aload_n 0, 1) := by decide +kernel
theorem dX5_skipBlanks_12 : decode cX5_skipBlanks 12 = .ok (.getfield 9, 3) := by decide +kernel
theorem dX5_skipBlanks_15 : decode cX5_skipBlanks 15 = .ok (.aload_n 0, 1) := by decide +kernel
theorem dX5_skipBlanks_16 : decode cX5_skipBlanks 16 = .ok (.getfield 25, 3) := by decide +kernel
theorem dX5_skipBlanks_19 : decode cX5_skipBlanks 19 = .ok (.iaload, 1) := by decide +kernel
theorem dX5_skipBlanks_20 : decode cX5_skipBlanks 20 = .ok (.bipush 32, 2) := by decide +kernel
theorem dX5_skipBlanks_22 : decode cX5_skipBlanks 22 = .ok (.if_icmp .eq 17, 3) := by decide +kernel
theorem dX5_skipBlanks_25 : decode cX5_skipBlanks 25 = .ok (.aload_n 0, 1) := by decide +kernel
theorem dX5_skipBlanks_26 : decode cX5_skipBlanks 26 = .ok (.getfield 9, 3) := by decide +kernel
theorem dX5_skipBlanks_29 : decode cX5_skipBlanks 29 = .ok (.aload_n 0, 1) := by decide +kernel
theorem dX5_skipBlanks_30 : decode cX5_skipBlanks 30 = .ok (.getfield 25, 3) := by decide +kernel
theorem dX5_skipBlanks_33 : decode cX5_skipBlanks 33 = .ok (.iaload, 1) := by decide +kernel
theorem dX5_skipBlanks_34 : decode cX5_skipBlanks 34 = .ok (.bipush 10, 2) := by decide +kernel
theorem dX5_skipBlanks_36 : decode cX5_skipBlanks 36 = .ok (.if_icmp .ne 16, 3) := by decide +kernel
theorem dX5_skipBlanks_39 : decode cX5_skipBlanks 39 = .ok (.aload_n 0, 1) := by decide +kernel
theorem dX5_skipBlanks_40 : decode cX5_skipBlanks 40 = .ok (.dup, 1) := by decide +kernel
theorem dX5_skipBlanks_41 : decode cX5_skipBlanks 41 = .ok (.getfield 25, 3) := by decide +kernel
theorem dX5_skipBlanks_44 : decode cX5_skipBlanks 44 = .ok (.iconst 1, 1) := by decide +kernel
theorem dX5_skipBlanks_45 : decode cX5_skipBlanks 45 = .ok (.iadd, 1) := by decide +kernel
theorem dX5_skipBlanks_46 : decode cX5_skipBlanks 46 = .ok (.putfield 25, 3) := by decide +kernel
theorem dX5_skipBlanks_49 : decode cX5_skipBlanks 49 = .ok (.goto (-49), 3) := by decide +kernel
theorem dX5_skipBlanks_52 : decode cX5_skipBlanks 52 = .ok (.return_, 1) := by decide +kernel
theorem dX5_lettersHere_0 : decode cX5_lettersHere 0 = .ok (.aload_n 0, 1) := by decide +kernel
theorem dX5_lettersHere_1 : decode cX5_lettersHere 1 = .ok (.getfield 25, 3) := by decide +kernel
theorem dX5_lettersHere_4 : decode cX5_lettersHere 4 = .ok (.istore_n 1, 1) := by decide +kernel
theorem dX5_lettersHere_5 : decode cX5_lettersHere 5 = .ok (.iload_n 1, 1) := by decide +kernel
theorem dX5_lettersHere_6 : decode cX5_lettersHere 6 = .ok (.aload_n 0, 1) := by decide +kernel
theorem dX5_lettersHere_7 : decode cX5_lettersHere 7 = .ok (.getfield 15, 3) := by decide +kernel
theorem dX5_lettersHere_10 : decode cX5_lettersHere 10 = .ok (.if_icmp .ge 31, 3) := by decide +kernel
theorem dX5_lettersHere_13 : decode cX5_lettersHere 13 = .ok (.aload_n 0, 1) := by decide +kernel
theorem dX5_lettersHere_14 : decode cX5_lettersHere 14 = .ok (.getfield 9, 3) := by decide +kernel
theorem dX5_lettersHere_17 : decode cX5_lettersHere 17 = .ok (.iload_n 1, 1) := by decide +kernel
theorem dX5_lettersHere_18 : decode cX5_lettersHere 18 = .ok (.iaload, 1) := by decide +kernel
theorem dX5_lettersHere_19 : decode cX5_lettersHere 19 = .ok (.bipush 97, 2) := by decide +kernel
theorem dX5_lettersHere_21 : decode cX5_lettersHere 21 = .ok (.if_icmp .lt 20, 3) := by decide +kernel
theorem dX5_lettersHere_24 : decode cX5_lettersHere 24 = .ok (.aload_n 0, 1) := by decide +kernel
theorem dX5_lettersHere_25 : decode cX5_lettersHere 25 = .ok (.getfield 9, 3) := by decide +kernel
theorem dX5_lettersHere_28 : decode cX5_lettersHere 28 = .ok (.iload_n 1, 1) := by decide +kernel
theorem dX5_lettersHere_29 : decode cX5_lettersHere 29 = .ok (.iaload, 1) := by decide +kernel
theorem dX5_lettersHere_30 : decode cX5_lettersHere 30 = .ok (.bipush 122, 2) := by decide +kernel
theorem dX5_lettersHere_32 : decode cX5_lettersHere 32 = .ok (.if_icmp .gt 9, 3) := by decide +kernel
theorem dX5_lettersHere_35 : decode cX5_lettersHere 35 = .ok (.iinc 1 1, 3) := by decide +kernel
theorem dX5_lettersHere_38 : decode cX5_lettersHere 38 = .ok (.goto (-33), 3) := by decide +kernel
theorem dX5_lettersHere_41 : decode cX5_lettersHere 41 = .ok (.iload_n 1, 1) := by decide +kernel
theorem dX5_lettersHere_42 : decode cX5_lettersHere 42 = .ok (.aload_n 0, 1) := by decide +kernel
theorem dX5_lettersHere_43 : decode cX5_lettersHere 43 = .ok (.getfield 25, 3) := by decide +kernel
theorem dX5_lettersHere_46 : decode cX5_lettersHere 46 = .ok (.isub, 1) := by decide +kernel
theorem dX5_lettersHere_47 : decode cX5_lettersHere 47 = .ok (.ireturn, 1) := by decide +kernel
theorem dX5_wordHere_0 : decode cX5_wordHere 0 = .ok (.iconst 0, 1) := by decide +kernel
theorem dX5_wordHere_1 : decode cX5_wordHere 1 = .ok (.istore_n 2, 1) := by decide +kernel
theorem dX5_wordHere_2 : decode cX5_wordHere 2 = .ok (.iload_n 2, 1) := by decide +kernel
theorem dX5_wordHere_3 : decode cX5_wordHere 3 = .ok (.bipush 8, 2) := by decide +kernel
theorem dX5_wordHere_5 : decode cX5_wordHere 5 = .ok (.if_icmp .ge 23, 3) := by decide +kernel
theorem dX5_wordHere_8 : decode cX5_wordHere 8 = .ok (.aload_n 0, 1) := by decide +kernel
theorem dX5_wordHere_9 : decode cX5_wordHere 9 = .ok (.iload_n 2, 1) := by decide +kernel
theorem dX5_wordHere_10 : decode cX5_wordHere 10 = .ok (.invokestatic 69, 3) := by decide +kernel
theorem dX5_wordHere_13 : decode cX5_wordHere 13 = .ok (.iload_n 1, 1) := by decide +kernel
theorem dX5_wordHere_14 : decode cX5_wordHere 14 = .ok (.invokevirtual 73, 3) := by decide +kernel
theorem dX5_wordHere_17 : decode cX5_wordHere 17 = .ok (.ifCond .eq 5, 3) := by decide +kernel
theorem dX5_wordHere_20 : decode cX5_wordHere 20 = .ok (.iload_n 2, 1) := by decide +kernel
theorem dX5_wordHere_21 : decode cX5_wordHere 21 = .ok (.ireturn, 1) := by decide +kernel
theorem dX5_wordHere_22 : decode cX5_wordHere 22 = .ok (.iinc 2 1, 3) := by decide +kernel
theorem dX5_wordHere_25 : decode cX5_wordHere 25 = .ok (.goto (-23), 3) := by decide +kernel
theorem dX5_wordHere_28 : decode cX5_wordHere 28 = .ok (.iconst (-1), 1) := by decide +kernel
theorem dX5_wordHere_29 : decode cX5_wordHere 29 = .ok (.ireturn, 1) := by decide +kernel
theorem dX5_isHere_0 : decode cX5_isHere 0 = .ok (.aload_n 1, 1) := by decide +kernel
theorem dX5_isHere_1 : decode cX5_isHere 1 = .ok (.invokevirtual 77, 3) := by decide +kernel
theorem dX5_isHere_4 : decode cX5_isHere 4 = .ok (.iload_n 2, 1) := by decide +kernel
theorem dX5_isHere_5 : decode cX5_isHere 5 = .ok (.if_icmp .ne 16, 3) := by decide +kernel
theorem dX5_isHere_8 : decode cX5_isHere 8 = .ok (.aload_n 0, 1) := by decide +kernel
theorem dX5_isHere_9 : decode cX5_isHere 9 = .ok (.getfield 25, 3) := by decide +kernel
theorem dX5_isHere_12 : decode cX5_isHere 12 = .ok (.iload_n 2, 1) := by decide +kernel
theorem dX5_isHere_13 : decode cX5_isHere 13 = .ok (.iadd, 1) := by decide +kernel
theorem dX5_isHere_14 : decode cX5_isHere 14 = .ok (.aload_n 0, 1) := by decide +kernel
theorem dX5_isHere_15 : decode cX5_isHere 15 = .ok (.getfield 15, 3) := by decide +kernel
theorem dX5_isHere_18 : decode cX5_isHere 18 = .ok (.if_icmp .le 5, 3) := by decide +kernel
theorem dX5_isHere_21 : decode cX5_isHere 21 = .ok (.iconst 0, 1) := by decide +kernel
theorem dX5_isHere_22 : decode cX5_isHere 22 = .ok (.ireturn, 1) := by decide +kernel
theorem dX5_isHere_23 : decode cX5_isHere 23 = .ok (.iconst 0, 1) := by decide +kernel
theorem dX5_isHere_24 : decode cX5_isHere 24 = .ok (.istore_n 3, 1) := by decide +kernel
theorem dX5_isHere_25 : decode cX5_isHere 25 = .ok (.iload_n 3, 1) := by decide +kernel
theorem dX5_isHere_26 : decode cX5_isHere 26 = .ok (.iload_n 2, 1) := by decide +kernel
theorem dX5_isHere_27 : decode cX5_isHere 27 = .ok (.if_icmp .ge 30, 3) := by decide +kernel
theorem dX5_isHere_30 : decode cX5_isHere 30 = .ok (.aload_n 0, 1) := by decide +kernel
theorem dX5_isHere_31 : decode cX5_isHere 31 = .ok (.getfield 9, 3) := by decide +kernel
theorem dX5_isHere_34 : decode cX5_isHere 34 = .ok (.aload_n 0, 1) := by decide +kernel
theorem dX5_isHere_35 : decode cX5_isHere 35 = .ok (.getfield 25, 3) := by decide +kernel
theorem dX5_isHere_38 : decode cX5_isHere 38 = .ok (.iload_n 3, 1) := by decide +kernel
theorem dX5_isHere_39 : decode cX5_isHere 39 = .ok (.iadd, 1) := by decide +kernel
theorem dX5_isHere_40 : decode cX5_isHere 40 = .ok (.iaload, 1) := by decide +kernel
theorem dX5_isHere_41 : decode cX5_isHere 41 = .ok (.aload_n 1, 1) := by decide +kernel
theorem dX5_isHere_42 : decode cX5_isHere 42 = .ok (.iload_n 3, 1) := by decide +kernel
theorem dX5_isHere_43 : decode cX5_isHere 43 = .ok (.invokevirtual 82, 3) := by decide +kernel
theorem dX5_isHere_46 : decode cX5_isHere 46 = .ok (.if_icmp .eq 5, 3) := by decide +kernel
theorem dX5_isHere_49 : decode cX5_isHere 49 = .ok (.iconst 0, 1) := by decide +kernel
theorem dX5_isHere_50 : decode cX5_isHere 50 = .ok (.ireturn, 1) := by decide +kernel
theorem dX5_isHere_51 : decode cX5_isHere 51 = .ok (.iinc 3 1, 3) := by decide +kernel
theorem dX5_isHere_54 : decode cX5_isHere 54 = .ok (.goto (-29), 3) := by decide +kernel
theorem dX5_isHere_57 : decode cX5_isHere 57 = .ok (.iconst 1, 1) := by decide +kernel
theorem dX5_isHere_58 : decode cX5_isHere 58 = .ok (.ireturn, 1) := by decide +kernel
theorem dX5_planNext_0 : decode cX5_planNext 0 = .ok (.aload_n 0, 1) := by decide +kernel
theorem dX5_planNext_1 : decode cX5_planNext 1 = .ok (.getfield 22, 3) := by decide +kernel
theorem dX5_planNext_4 : decode cX5_planNext 4 = .ok (.bipush 60, 2) := by decide +kernel
theorem dX5_planNext_6 : decode cX5_planNext 6 = .ok (.if_icmp .ge 23, 3) := by decide +kernel
theorem dX5_planNext_9 : decode cX5_planNext 9 = .ok (.aload_n 0, 1) := by decide +kernel
theorem dX5_planNext_10 : decode cX5_planNext 10 = .ok (.getfield 19, 3) := by decide +kernel
theorem dX5_planNext_13 : decode cX5_planNext 13 = .ok (.aload_n 0, 1) := by decide +kernel
theorem dX5_planNext_14 : decode cX5_planNext 14 = .ok (.getfield 22, 3) := by decide +kernel
theorem dX5_planNext_17 : decode cX5_planNext 17 = .ok (.iload_n 1, 1) := by decide +kernel
theorem dX5_planNext_18 : decode cX5_planNext 18 = .ok (.iastore, 1) := by decide +kernel
theorem dX5_planNext_19 : decode cX5_planNext 19 = .ok (.aload_n 0, 1) := by decide +kernel
theorem dX5_planNext_20 : decode cX5_planNext 20 = .ok (.dup, 1) := by decide +kernel
theorem dX5_planNext_21 : decode cX5_planNext 21 = .ok (.getfield 22, 3) := by decide +kernel
theorem dX5_planNext_24 : decode cX5_planNext 24 = .ok (.iconst 1, 1) := by decide +kernel
theorem dX5_planNext_25 : decode cX5_planNext 25 = .ok (.iadd, 1) := by decide +kernel
theorem dX5_planNext_26 : decode cX5_planNext 26 = .ok (.putfield 22, 3) := by decide +kernel
theorem dX5_planNext_29 : decode cX5_planNext 29 = .ok (.return_, 1) := by decide +kernel
theorem dX6_init_0 : decode cX6_init 0 = .ok (.aload_n 0, 1) := by decide +kernel
theorem dX6_init_1 : decode cX6_init 1 = .ok (.invokespecial 3, 3) := by decide +kernel
theorem dX6_init_4 : decode cX6_init 4 = .ok (.aload_n 0, 1) := by decide +kernel
theorem dX6_init_5 : decode cX6_init 5 = .ok (.new 9, 3) := by decide +kernel
theorem dX6_init_8 : decode cX6_init 8 = .ok (.dup, 1) := by decide +kernel
theorem dX6_init_9 : decode cX6_init 9 = .ok (.invokespecial 11, 3) := by decide +kernel
theorem dX6_init_12 : decode cX6_init 12 = .ok (.putfield 12, 3) := by decide +kernel
theorem dX6_init_15 : decode cX6_init 15 = .ok (.aload_n 0, 1) := by decide +kernel
theorem dX6_init_16 : decode cX6_init 16 = .ok (.new 9, 3) := by decide +kernel
theorem dX6_init_19 : decode cX6_init 19 = .ok (.dup, 1) := by decide +kernel
theorem dX6_init_20 : decode cX6_init 20 = .ok (.invokespecial 11, 3) := by decide +kernel
theorem dX6_init_23 : decode cX6_init 23 = .ok (.putfield 18, 3) := by decide +kernel
theorem dX6_init_26 : decode cX6_init 26 = .ok (.aload_n 0, 1) := by decide +kernel
theorem dX6_init_27 : decode cX6_init 27 = .ok (.new 9, 3) := by decide +kernel
theorem dX6_init_30 : decode cX6_init 30 = .ok (.dup, 1) := by decide +kernel
theorem dX6_init_31 : decode cX6_init 31 = .ok (.invokespecial 11, 3) := by decide +kernel
theorem dX6_init_34 : decode cX6_init 34 = .ok (.putfield 21, 3) := by decide +kernel
theorem dX6_init_37 : decode cX6_init 37 = .ok (.aload_n 0, 1) := by decide +kernel
theorem dX6_init_38 : decode cX6_init 38 = .ok (.new 24, 3) := by decide +kernel
theorem dX6_init_41 : decode cX6_init 41 = .ok (.dup, 1) := by decide +kernel
theorem dX6_init_42 : decode cX6_init 42 = .ok (.invokespecial 26, 3) := by decide +kernel
theorem dX6_init_45 : decode cX6_init 45 = .ok (.putfield 27, 3) := by decide +kernel
theorem dX6_init_48 : decode cX6_init 48 = .ok (.aload_n 0, 1) := by decide +kernel
theorem dX6_init_49 : decode cX6_init 49 = .ok (.new 31, 3) := by decide +kernel
theorem dX6_init_52 : decode cX6_init 52 = .ok (.dup, 1) := by decide +kernel
theorem dX6_init_53 : decode cX6_init 53 = .ok (.invokespecial 33, 3) := by decide +kernel
theorem dX6_init_56 : decode cX6_init 56 = .ok (.putfield 34, 3) := by decide +kernel
theorem dX6_init_59 : decode cX6_init 59 = .ok (.aload_n 0, 1) := by decide +kernel
theorem dX6_init_60 : decode cX6_init 60 = .ok (.new 38, 3) := by decide +kernel
theorem dX6_init_63 : decode cX6_init 63 = .ok (.dup, 1) := by decide +kernel
theorem dX6_init_64 : decode cX6_init 64 = .ok (.invokespecial 40, 3) := by decide +kernel
theorem dX6_init_67 : decode cX6_init 67 = .ok (.putfield 41, 3) := by decide +kernel
theorem dX6_init_70 : decode cX6_init 70 = .ok (.aload_n 0, 1) := by decide +kernel
theorem dX6_init_71 : decode cX6_init 71 = .ok (.bipush 10, 2) := by decide +kernel
theorem dX6_init_73 : decode cX6_init 73 = .ok (.newarray .int, 2) := by decide +kernel
theorem dX6_init_75 : decode cX6_init 75 = .ok (.putfield 45, 3) := by decide +kernel
theorem dX6_init_78 : decode cX6_init 78 = .ok (.aload_n 0, 1) := by decide +kernel
theorem dX6_init_79 : decode cX6_init 79 = .ok (.iconst 0, 1) := by decide +kernel
theorem dX6_init_80 : decode cX6_init 80 = .ok (.putfield 49, 3) := by decide +kernel
theorem dX6_init_83 : decode cX6_init 83 = .ok (.return_, 1) := by decide +kernel
theorem dX6_cell_0 : decode cX6_cell 0 = .ok (.iload_n 1, 1) := by decide +kernel
theorem dX6_cell_1 : decode cX6_cell 1 = .ok (.invokestatic 53, 3) := by decide +kernel
theorem dX6_cell_4 : decode cX6_cell 4 = .ok (.ifCond .eq 29, 3) := by decide +kernel
theorem dX6_cell_7 : decode cX6_cell 7 = .ok (.iload_n 2, 1) := by decide +kernel
theorem dX6_cell_8 : decode cX6_cell 8 = .ok (.invokestatic 57, 3) := by decide +kernel
theorem dX6_cell_11 : decode cX6_cell 11 = .ok (.ifCond .eq 22, 3) := by decide +kernel
theorem dX6_cell_14 : decode cX6_cell 14 = .ok (.iload_n 3, 1) := by decide +kernel
theorem dX6_cell_15 : decode cX6_cell 15 = .ok (.invokestatic 60, 3) := by decide +kernel
theorem dX6_cell_18 : decode cX6_cell 18 = .ok (.ifCond .eq 15, 3) := by decide +kernel
theorem dX6_cell_21 : decode cX6_cell 21 = .ok (.iload 4, 2) := by decide +kernel
theorem dX6_cell_23 : decode cX6_cell 23 = .ok (.invokestatic 63, 3) := by decide +kernel
theorem dX6_cell_26 : decode cX6_cell 26 = .ok (.ifCond .eq 7, 3) := by decide +kernel
theorem dX6_cell_29 : decode cX6_cell 29 = .ok (.iconst 1, 1) := by decide +kernel
theorem dX6_cell_30 : decode cX6_cell 30 = .ok (.goto 4, 3) := by decide +kernel
theorem dX6_cell_33 : decode cX6_cell 33 = .ok (.iconst 0, 1) := by decide +kernel
theorem dX6_cell_34 : decode cX6_cell 34 = .ok (.istore 5, 2) := by decide +kernel
theorem dX6_cell_36 : decode cX6_cell 36 = .ok (.iload 5, 2) := by decide +kernel
theorem dX6_cell_38 : decode cX6_cell 38 = .ok (.ifCond .eq 18, 3) := by decide +kernel
theorem dX6_cell_41 : decode cX6_cell 41 = .ok (.aload_n 0, 1) := by decide +kernel
theorem dX6_cell_42 : decode cX6_cell 42 = .ok (.getfield 12, 3) := by decide +kernel
theorem dX6_cell_45 : decode cX6_cell 45 = .ok (.iload_n 1, 1) := by decide +kernel
theorem dX6_cell_46 : decode cX6_cell 46 = .ok (.iload_n 2, 1) := by decide +kernel
theorem dX6_cell_47 : decode cX6_cell 47 = .ok (.iload_n 3, 1) := by decide +kernel
theorem dX6_cell_48 : decode cX6_cell 48 = .ok (.iload 4, 2) := by decide +kernel
theorem dX6_cell_50 : decode cX6_cell 50 = .ok (.invokevirtual 66, 3) := by decide +kernel
theorem dX6_cell_53 : decode cX6_cell 53 = .ok (.goto 5, 3) := by decide +kernel
theorem dX6_cell_56 : decode cX6_cell 56 = .ok (.bipush (-2), 2) := by decide +kernel
theorem dX6_cell_58 : decode cX6_cell 58 = .ok (.ireturn, 1) := by decide +kernel
theorem dX6_drop_0 : decode cX6_drop 0 = .ok (.aload_n 0, 1) := by decide +kernel
theorem dX6_drop_1 : decode cX6_drop 1 = .ok (.getfield 12, 3) := by decide +kernel
theorem dX6_drop_4 : decode cX6_drop 4 = .ok (.getfield 70, 3) := by decide +kernel
theorem dX6_drop_7 : decode cX6_drop 7 = .ok (.ifCond .ne 6, 3) := by decide +kernel
theorem dX6_drop_10 : decode cX6_drop 10 = .ok (.bipush (-3), 2) := by decide +kernel
theorem dX6_drop_12 : decode cX6_drop 12 = .ok (.ireturn, 1) := by decide +kernel
theorem dX6_drop_13 : decode cX6_drop 13 = .ok (.aload_n 0, 1) := by decide +kernel
theorem dX6_drop_14 : decode cX6_drop 14 = .ok (.getfield 12, 3) := by decide +kernel
theorem dX6_drop_17 : decode cX6_drop 17 = .ok (.invokevirtual 74, 3) := by decide +kernel
theorem dX6_drop_20 : decode cX6_drop 20 = .ok (.aload_n 0, 1) := by decide +kernel
theorem dX6_drop_21 : decode cX6_drop 21 = .ok (.getfield 12, 3) := by decide +kernel
theorem dX6_drop_24 : decode cX6_drop 24 = .ok (.getfield 70, 3) := by decide +kernel
theorem dX6_drop_27 : decode cX6_drop 27 = .ok (.ireturn, 1) := by decide +kernel
theorem dX6_set_0 : decode cX6_set 0 = .ok (.aload_n 0, 1) := by decide +kernel
theorem dX6_set_1 : decode cX6_set 1 = .ok (.getfield 12, 3) := by decide +kernel
theorem dX6_set_4 : decode cX6_set 4 = .ok (.iload_n 1, 1) := by decide +kernel
theorem dX6_set_5 : decode cX6_set 5 = .ok (.invokevirtual 77, 3) := by decide +kernel
theorem dX6_set_8 : decode cX6_set 8 = .ok (.ifCond .ne 7, 3) := by decide +kernel
theorem dX6_set_11 : decode cX6_set 11 = .ok (.sipush (-1000), 3) := by decide +kernel
theorem dX6_set_14 : decode cX6_set 14 = .ok (.ireturn, 1) := by decide +kernel
theorem dX6_set_15 : decode cX6_set 15 = .ok (.iload_n 2, 1) := by decide +kernel
theorem dX6_set_16 : decode cX6_set 16 = .ok (.tableswitch 124 0 3 #[32, 55, 78, 101], 32) := by decide +kernel
theorem dX6_set_48 : decode cX6_set 48 = .ok (.iload_n 3, 1) := by decide +kernel
theorem dX6_set_49 : decode cX6_set 49 = .ok (.invokestatic 57, 3) := by decide +kernel
theorem dX6_set_52 : decode cX6_set 52 = .ok (.ifCond .eq 15, 3) := by decide +kernel
theorem dX6_set_55 : decode cX6_set 55 = .ok (.aload_n 0, 1) := by decide +kernel
theorem dX6_set_56 : decode cX6_set 56 = .ok (.getfield 12, 3) := by decide +kernel
theorem dX6_set_59 : decode cX6_set 59 = .ok (.iload_n 1, 1) := by decide +kernel
theorem dX6_set_60 : decode cX6_set 60 = .ok (.iload_n 3, 1) := by decide +kernel
theorem dX6_set_61 : decode cX6_set 61 = .ok (.invokevirtual 80, 3) := by decide +kernel
theorem dX6_set_64 : decode cX6_set 64 = .ok (.goto 6, 3) := by decide +kernel
theorem dX6_set_67 : decode cX6_set 67 = .ok (.sipush (-1000), 3) := by decide +kernel
theorem dX6_set_70 : decode cX6_set 70 = .ok (.ireturn, 1) := by decide +kernel
theorem dX6_set_71 : decode cX6_set 71 = .ok (.iload_n 3, 1) := by decide +kernel
theorem dX6_set_72 : decode cX6_set 72 = .ok (.invokestatic 60, 3) := by decide +kernel
theorem dX6_set_75 : decode cX6_set 75 = .ok (.ifCond .eq 15, 3) := by decide +kernel
theorem dX6_set_78 : decode cX6_set 78 = .ok (.aload_n 0, 1) := by decide +kernel
theorem dX6_set_79 : decode cX6_set 79 = .ok (.getfield 12, 3) := by decide +kernel
theorem dX6_set_82 : decode cX6_set 82 = .ok (.iload_n 1, 1) := by decide +kernel
theorem dX6_set_83 : decode cX6_set 83 = .ok (.iload_n 3, 1) := by decide +kernel
theorem dX6_set_84 : decode cX6_set 84 = .ok (.invokevirtual 84, 3) := by decide +kernel
theorem dX6_set_87 : decode cX6_set 87 = .ok (.goto 6, 3) := by decide +kernel
theorem dX6_set_90 : decode cX6_set 90 = .ok (.sipush (-1000), 3) := by decide +kernel
theorem dX6_set_93 : decode cX6_set 93 = .ok (.ireturn, 1) := by decide +kernel
theorem dX6_set_94 : decode cX6_set 94 = .ok (.iload_n 3, 1) := by decide +kernel
theorem dX6_set_95 : decode cX6_set 95 = .ok (.invokestatic 53, 3) := by decide +kernel
theorem dX6_set_98 : decode cX6_set 98 = .ok (.ifCond .eq 15, 3) := by decide +kernel
theorem dX6_set_101 : decode cX6_set 101 = .ok (.aload_n 0, 1) := by decide +kernel
theorem dX6_set_102 : decode cX6_set 102 = .ok (.getfield 12, 3) := by decide +kernel
theorem dX6_set_105 : decode cX6_set 105 = .ok (.iload_n 1, 1) := by decide +kernel
theorem dX6_set_106 : decode cX6_set 106 = .ok (.iload_n 3, 1) := by decide +kernel
theorem dX6_set_107 : decode cX6_set 107 = .ok (.invokevirtual 87, 3) := by decide +kernel
theorem dX6_set_110 : decode cX6_set 110 = .ok (.goto 6, 3) := by decide +kernel
theorem dX6_set_113 : decode cX6_set 113 = .ok (.sipush (-1000), 3) := by decide +kernel
theorem dX6_set_116 : decode cX6_set 116 = .ok (.ireturn, 1) := by decide +kernel
theorem dX6_set_117 : decode cX6_set 117 = .ok (.iload_n 3, 1) := by decide +kernel
theorem dX6_set_118 : decode cX6_set 118 = .ok (.invokestatic 90, 3) := by decide +kernel
theorem dX6_set_121 : decode cX6_set 121 = .ok (.ifCond .eq 15, 3) := by decide +kernel
theorem dX6_set_124 : decode cX6_set 124 = .ok (.aload_n 0, 1) := by decide +kernel
theorem dX6_set_125 : decode cX6_set 125 = .ok (.getfield 12, 3) := by decide +kernel
theorem dX6_set_128 : decode cX6_set 128 = .ok (.iload_n 1, 1) := by decide +kernel
theorem dX6_set_129 : decode cX6_set 129 = .ok (.iload_n 3, 1) := by decide +kernel
theorem dX6_set_130 : decode cX6_set 130 = .ok (.invokevirtual 93, 3) := by decide +kernel
theorem dX6_set_133 : decode cX6_set 133 = .ok (.goto 6, 3) := by decide +kernel
theorem dX6_set_136 : decode cX6_set 136 = .ok (.sipush (-1000), 3) := by decide +kernel
theorem dX6_set_139 : decode cX6_set 139 = .ok (.ireturn, 1) := by decide +kernel
theorem dX6_set_140 : decode cX6_set 140 = .ok (.sipush (-1000), 3) := by decide +kernel
theorem dX6_set_143 : decode cX6_set 143 = .ok (.ireturn, 1) := by decide +kernel
theorem dX6_heat_0 : decode cX6_heat 0 = .ok (.aload_n 0, 1) := by decide +kernel
theorem dX6_heat_1 : decode cX6_heat 1 = .ok (.getfield 12, 3) := by decide +kernel
theorem dX6_heat_4 : decode cX6_heat 4 = .ok (.iload_n 1, 1) := by decide +kernel
theorem dX6_heat_5 : decode cX6_heat 5 = .ok (.invokevirtual 77, 3) := by decide +kernel
theorem dX6_heat_8 : decode cX6_heat 8 = .ok (.ifCond .eq 10, 3) := by decide +kernel
theorem dX6_heat_11 : decode cX6_heat 11 = .ok (.iload_n 2, 1) := by decide +kernel
theorem dX6_heat_12 : decode cX6_heat 12 = .ok (.invokestatic 63, 3) := by decide +kernel
theorem dX6_heat_15 : decode cX6_heat 15 = .ok (.ifCond .ne 6, 3) := by decide +kernel
theorem dX6_heat_18 : decode cX6_heat 18 = .ok (.bipush (-2), 2) := by decide +kernel
theorem dX6_heat_20 : decode cX6_heat 20 = .ok (.ireturn, 1) := by decide +kernel
theorem dX6_heat_21 : decode cX6_heat 21 = .ok (.aload_n 0, 1) := by decide +kernel
theorem dX6_heat_22 : decode cX6_heat 22 = .ok (.getfield 12, 3) := by decide +kernel
theorem dX6_heat_25 : decode cX6_heat 25 = .ok (.iload_n 1, 1) := by decide +kernel
theorem dX6_heat_26 : decode cX6_heat 26 = .ok (.iload_n 2, 1) := by decide +kernel
theorem dX6_heat_27 : decode cX6_heat 27 = .ok (.invokevirtual 96, 3) := by decide +kernel
theorem dX6_heat_30 : decode cX6_heat 30 = .ok (.iconst 1, 1) := by decide +kernel
theorem dX6_heat_31 : decode cX6_heat 31 = .ok (.ireturn, 1) := by decide +kernel
theorem dX6_of_0 : decode cX6_of 0 = .ok (.aload_n 0, 1) := by decide +kernel
theorem dX6_of_1 : decode cX6_of 1 = .ok (.getfield 12, 3) := by decide +kernel
theorem dX6_of_4 : decode cX6_of 4 = .ok (.iload_n 1, 1) := by decide +kernel
theorem dX6_of_5 : decode cX6_of 5 = .ok (.invokevirtual 77, 3) := by decide +kernel
theorem dX6_of_8 : decode cX6_of 8 = .ok (.ifCond .ne 7, 3) := by decide +kernel
theorem dX6_of_11 : decode cX6_of 11 = .ok (.sipush (-1000), 3) := by decide +kernel
theorem dX6_of_14 : decode cX6_of 14 = .ok (.ireturn, 1) := by decide +kernel
theorem dX6_of_15 : decode cX6_of 15 = .ok (.iload_n 2, 1) := by decide +kernel
theorem dX6_of_16 : decode cX6_of 16 = .ok (.tableswitch 140 0 7 #[48, 58, 68, 78, 88, 98, 108, 118], 48) := by decide +kernel
theorem dX6_of_64 : decode cX6_of 64 = .ok (.aload_n 0, 1) := by decide +kernel
theorem dX6_of_65 : decode cX6_of 65 = .ok (.getfield 12, 3) := by decide +kernel
theorem dX6_of_68 : decode cX6_of 68 = .ok (.getfield 100, 3) := by decide +kernel
theorem dX6_of_71 : decode cX6_of 71 = .ok (.iload_n 1, 1) := by decide +kernel
theorem dX6_of_72 : decode cX6_of 72 = .ok (.iaload, 1) := by decide +kernel
theorem dX6_of_73 : decode cX6_of 73 = .ok (.ireturn, 1) := by decide +kernel
theorem dX6_of_74 : decode cX6_of 74 = .ok (.aload_n 0, 1) := by decide +kernel
theorem dX6_of_75 : decode cX6_of 75 = .ok (.getfield 12, 3) := by decide +kernel
theorem dX6_of_78 : decode cX6_of 78 = .ok (.getfield 103, 3) := by decide +kernel
theorem dX6_of_81 : decode cX6_of 81 = .ok (.iload_n 1, 1) := by decide +kernel
theorem dX6_of_82 : decode cX6_of 82 = .ok (.iaload, 1) := by decide +kernel
theorem dX6_of_83 : decode cX6_of 83 = .ok (.ireturn, 1) := by decide +kernel
theorem dX6_of_84 : decode cX6_of 84 = .ok (.aload_n 0, 1) := by decide +kernel
theorem dX6_of_85 : decode cX6_of 85 = .ok (.getfield 12, 3) := by decide +kernel
theorem dX6_of_88 : decode cX6_of 88 = .ok (.getfield 106, 3) := by decide +kernel
theorem dX6_of_91 : decode cX6_of 91 = .ok (.iload_n 1, 1) := by decide +kernel
theorem dX6_of_92 : decode cX6_of 92 = .ok (.iaload, 1) := by decide +kernel
theorem dX6_of_93 : decode cX6_of 93 = .ok (.ireturn, 1) := by decide +kernel
theorem dX6_of_94 : decode cX6_of 94 = .ok (.aload_n 0, 1) := by decide +kernel
theorem dX6_of_95 : decode cX6_of 95 = .ok (.getfield 12, 3) := by decide +kernel
theorem dX6_of_98 : decode cX6_of 98 = .ok (.getfield 109, 3) := by decide +kernel
theorem dX6_of_101 : decode cX6_of 101 = .ok (.iload_n 1, 1) := by decide +kernel
theorem dX6_of_102 : decode cX6_of 102 = .ok (.iaload, 1) := by decide +kernel
theorem dX6_of_103 : decode cX6_of 103 = .ok (.ireturn, 1) := by decide +kernel
theorem dX6_of_104 : decode cX6_of 104 = .ok (.aload_n 0, 1) := by decide +kernel
theorem dX6_of_105 : decode cX6_of 105 = .ok (.getfield 12, 3) := by decide +kernel
theorem dX6_of_108 : decode cX6_of 108 = .ok (.getfield 112, 3) := by decide +kernel
theorem dX6_of_111 : decode cX6_of 111 = .ok (.iload_n 1, 1) := by decide +kernel
theorem dX6_of_112 : decode cX6_of 112 = .ok (.iaload, 1) := by decide +kernel
theorem dX6_of_113 : decode cX6_of 113 = .ok (.ireturn, 1) := by decide +kernel
theorem dX6_of_114 : decode cX6_of 114 = .ok (.aload_n 0, 1) := by decide +kernel
theorem dX6_of_115 : decode cX6_of 115 = .ok (.getfield 12, 3) := by decide +kernel
theorem dX6_of_118 : decode cX6_of 118 = .ok (.getfield 115, 3) := by decide +kernel
theorem dX6_of_121 : decode cX6_of 121 = .ok (.iload_n 1, 1) := by decide +kernel
theorem dX6_of_122 : decode cX6_of 122 = .ok (.iaload, 1) := by decide +kernel
theorem dX6_of_123 : decode cX6_of 123 = .ok (.ireturn, 1) := by decide +kernel
theorem dX6_of_124 : decode cX6_of 124 = .ok (.aload_n 0, 1) := by decide +kernel
theorem dX6_of_125 : decode cX6_of 125 = .ok (.getfield 12, 3) := by decide +kernel
theorem dX6_of_128 : decode cX6_of 128 = .ok (.getfield 118, 3) := by decide +kernel
theorem dX6_of_131 : decode cX6_of 131 = .ok (.iload_n 1, 1) := by decide +kernel
theorem dX6_of_132 : decode cX6_of 132 = .ok (.iaload, 1) := by decide +kernel
theorem dX6_of_133 : decode cX6_of 133 = .ok (.ireturn, 1) := by decide +kernel
theorem dX6_of_134 : decode cX6_of 134 = .ok (.aload_n 0, 1) := by decide +kernel
theorem dX6_of_135 : decode cX6_of 135 = .ok (.getfield 12, 3) := by decide +kernel
theorem dX6_of_138 : decode cX6_of 138 = .ok (.getfield 100, 3) := by decide +kernel
theorem dX6_of_141 : decode cX6_of 141 = .ok (.iload_n 1, 1) := by decide +kernel
theorem dX6_of_142 : decode cX6_of 142 = .ok (.iaload, 1) := by decide +kernel
theorem dX6_of_143 : decode cX6_of 143 = .ok (.aload_n 0, 1) := by decide +kernel
theorem dX6_of_144 : decode cX6_of 144 = .ok (.getfield 12, 3) := by decide +kernel
theorem dX6_of_147 : decode cX6_of 147 = .ok (.getfield 106, 3) := by decide +kernel
theorem dX6_of_150 : decode cX6_of 150 = .ok (.iload_n 1, 1) := by decide +kernel
theorem dX6_of_151 : decode cX6_of 151 = .ok (.iaload, 1) := by decide +kernel
theorem dX6_of_152 : decode cX6_of 152 = .ok (.invokestatic 121, 3) := by decide +kernel
theorem dX6_of_155 : decode cX6_of 155 = .ok (.ireturn, 1) := by decide +kernel
theorem dX6_of_156 : decode cX6_of 156 = .ok (.sipush (-1000), 3) := by decide +kernel
theorem dX6_of_159 : decode cX6_of 159 = .ok (.ireturn, 1) := by decide +kernel
theorem dX6_taken_0 : decode cX6_taken 0 = .ok (.aload_n 0, 1) := by decide +kernel
theorem dX6_taken_1 : decode cX6_taken 1 = .ok (.getfield 12, 3) := by decide +kernel
theorem dX6_taken_4 : decode cX6_taken 4 = .ok (.iload_n 1, 1) := by decide +kernel
theorem dX6_taken_5 : decode cX6_taken 5 = .ok (.invokevirtual 77, 3) := by decide +kernel
theorem dX6_taken_8 : decode cX6_taken 8 = .ok (.ifCond .eq 10, 3) := by decide +kernel
theorem dX6_taken_11 : decode cX6_taken 11 = .ok (.iload_n 2, 1) := by decide +kernel
theorem dX6_taken_12 : decode cX6_taken 12 = .ok (.invokestatic 53, 3) := by decide +kernel
theorem dX6_taken_15 : decode cX6_taken 15 = .ok (.ifCond .ne 6, 3) := by decide +kernel
theorem dX6_taken_18 : decode cX6_taken 18 = .ok (.bipush (-2), 2) := by decide +kernel
theorem dX6_taken_20 : decode cX6_taken 20 = .ok (.ireturn, 1) := by decide +kernel
theorem dX6_taken_21 : decode cX6_taken 21 = .ok (.aload_n 0, 1) := by decide +kernel
theorem dX6_taken_22 : decode cX6_taken 22 = .ok (.getfield 12, 3) := by decide +kernel
theorem dX6_taken_25 : decode cX6_taken 25 = .ok (.getfield 100, 3) := by decide +kernel
theorem dX6_taken_28 : decode cX6_taken 28 = .ok (.iload_n 1, 1) := by decide +kernel
theorem dX6_taken_29 : decode cX6_taken 29 = .ok (.iaload, 1) := by decide +kernel
theorem dX6_taken_30 : decode cX6_taken 30 = .ok (.iload_n 2, 1) := by decide +kernel
theorem dX6_taken_31 : decode cX6_taken 31 = .ok (.invokestatic 126, 3) := by decide +kernel
theorem dX6_taken_34 : decode cX6_taken 34 = .ok (.ifCond .eq 15, 3) := by decide +kernel
theorem dX6_taken_37 : decode cX6_taken 37 = .ok (.aload_n 0, 1) := by decide +kernel
theorem dX6_taken_38 : decode cX6_taken 38 = .ok (.getfield 12, 3) := by decide +kernel
theorem dX6_taken_41 : decode cX6_taken 41 = .ok (.getfield 103, 3) := by decide +kernel
theorem dX6_taken_44 : decode cX6_taken 44 = .ok (.iload_n 1, 1) := by decide +kernel
theorem dX6_taken_45 : decode cX6_taken 45 = .ok (.iaload, 1) := by decide +kernel
theorem dX6_taken_46 : decode cX6_taken 46 = .ok (.goto 5, 3) := by decide +kernel
theorem dX6_taken_49 : decode cX6_taken 49 = .ok (.bipush (-13), 2) := by decide +kernel
theorem dX6_taken_51 : decode cX6_taken 51 = .ok (.ireturn, 1) := by decide +kernel
theorem dX6_kin_0 : decode cX6_kin 0 = .ok (.iload_n 1, 1) := by decide +kernel
theorem dX6_kin_1 : decode cX6_kin 1 = .ok (.invokestatic 53, 3) := by decide +kernel
theorem dX6_kin_4 : decode cX6_kin 4 = .ok (.ifCond .eq 10, 3) := by decide +kernel
theorem dX6_kin_7 : decode cX6_kin 7 = .ok (.iload_n 1, 1) := by decide +kernel
theorem dX6_kin_8 : decode cX6_kin 8 = .ok (.invokestatic 130, 3) := by decide +kernel
theorem dX6_kin_11 : decode cX6_kin 11 = .ok (.goto 5, 3) := by decide +kernel
theorem dX6_kin_14 : decode cX6_kin 14 = .ok (.bipush (-2), 2) := by decide +kernel
theorem dX6_kin_16 : decode cX6_kin 16 = .ok (.ireturn, 1) := by decide +kernel
theorem dX6_end_0 : decode cX6_end 0 = .ok (.iload_n 1, 1) := by decide +kernel
theorem dX6_end_1 : decode cX6_end 1 = .ok (.invokestatic 134, 3) := by decide +kernel
theorem dX6_end_4 : decode cX6_end 4 = .ok (.ifCond .eq 14, 3) := by decide +kernel
theorem dX6_end_7 : decode cX6_end 7 = .ok (.iload_n 2, 1) := by decide +kernel
theorem dX6_end_8 : decode cX6_end 8 = .ok (.iconst (-1), 1) := by decide +kernel
theorem dX6_end_9 : decode cX6_end 9 = .ok (.sipush 999, 3) := by decide +kernel
theorem dX6_end_12 : decode cX6_end 12 = .ok (.invokestatic 137, 3) := by decide +kernel
theorem dX6_end_15 : decode cX6_end 15 = .ok (.ifCond .ne 7, 3) := by decide +kernel
theorem dX6_end_18 : decode cX6_end 18 = .ok (.sipush (-1000), 3) := by decide +kernel
theorem dX6_end_21 : decode cX6_end 21 = .ok (.ireturn, 1) := by decide +kernel
theorem dX6_end_22 : decode cX6_end 22 = .ok (.aload_n 0, 1) := by decide +kernel
theorem dX6_end_23 : decode cX6_end 23 = .ok (.getfield 12, 3) := by decide +kernel
theorem dX6_end_26 : decode cX6_end 26 = .ok (.getfield 141, 3) := by decide +kernel
theorem dX6_end_29 : decode cX6_end 29 = .ok (.iload_n 1, 1) := by decide +kernel
theorem dX6_end_30 : decode cX6_end 30 = .ok (.iaload, 1) := by decide +kernel
theorem dX6_end_31 : decode cX6_end 31 = .ok (.istore_n 3, 1) := by decide +kernel
theorem dX6_end_32 : decode cX6_end 32 = .ok (.aload_n 0, 1) := by decide +kernel
theorem dX6_end_33 : decode cX6_end 33 = .ok (.getfield 12, 3) := by decide +kernel
theorem dX6_end_36 : decode cX6_end 36 = .ok (.getfield 141, 3) := by decide +kernel
theorem dX6_end_39 : decode cX6_end 39 = .ok (.iload_n 1, 1) := by decide +kernel
theorem dX6_end_40 : decode cX6_end 40 = .ok (.iload_n 2, 1) := by decide +kernel
theorem dX6_end_41 : decode cX6_end 41 = .ok (.iastore, 1) := by decide +kernel
theorem dX6_end_42 : decode cX6_end 42 = .ok (.iload_n 3, 1) := by decide +kernel
theorem dX6_end_43 : decode cX6_end 43 = .ok (.ireturn, 1) := by decide +kernel
theorem dX6_rule_0 : decode cX6_rule 0 = .ok (.sipush (-1000), 3) := by decide +kernel
theorem dX6_rule_3 : decode cX6_rule 3 = .ok (.istore_n 3, 1) := by decide +kernel
theorem dX6_rule_4 : decode cX6_rule 4 = .ok (.iload_n 1, 1) := by decide +kernel
theorem dX6_rule_5 : decode cX6_rule 5 = .ok (.ifCond .ne 32, 3) := by decide +kernel
theorem dX6_rule_8 : decode cX6_rule 8 = .ok (.iload_n 2, 1) := by decide +kernel
theorem dX6_rule_9 : decode cX6_rule 9 = .ok (.iconst 1, 1) := by decide +kernel
theorem dX6_rule_10 : decode cX6_rule 10 = .ok (.bipush 20, 2) := by decide +kernel
theorem dX6_rule_12 : decode cX6_rule 12 = .ok (.invokestatic 137, 3) := by decide +kernel
theorem dX6_rule_15 : decode cX6_rule 15 = .ok (.ifCond .eq 22, 3) := by decide +kernel
theorem dX6_rule_18 : decode cX6_rule 18 = .ok (.aload_n 0, 1) := by decide +kernel
theorem dX6_rule_19 : decode cX6_rule 19 = .ok (.getfield 12, 3) := by decide +kernel
theorem dX6_rule_22 : decode cX6_rule 22 = .ok (.getfield 144, 3) := by decide +kernel
theorem dX6_rule_25 : decode cX6_rule 25 = .ok (.istore_n 3, 1) := by decide +kernel
theorem dX6_rule_26 : decode cX6_rule 26 = .ok (.aload_n 0, 1) := by decide +kernel
theorem dX6_rule_27 : decode cX6_rule 27 = .ok (.getfield 12, 3) := by decide +kernel
theorem dX6_rule_30 : decode cX6_rule 30 = .ok (.iload_n 2, 1) := by decide +kernel
theorem dX6_rule_31 : decode cX6_rule 31 = .ok (.putfield 144, 3) := by decide +kernel
theorem dX6_rule_34 : decode cX6_rule 34 = .ok (.goto 31, 3) := by decide +kernel
theorem dX6_rule_37 : decode cX6_rule 37 = .ok (.iload_n 1, 1) := by decide +kernel
theorem dX6_rule_38 : decode cX6_rule 38 = .ok (.iconst 1, 1) := by decide +kernel
theorem dX6_rule_39 : decode cX6_rule 39 = .ok (.if_icmp .ne 26, 3) := by decide +kernel
theorem dX6_rule_42 : decode cX6_rule 42 = .ok (.iload_n 2, 1) := by decide +kernel
theorem dX6_rule_43 : decode cX6_rule 43 = .ok (.invokestatic 63, 3) := by decide +kernel
theorem dX6_rule_46 : decode cX6_rule 46 = .ok (.ifCond .eq 19, 3) := by decide +kernel
theorem dX6_rule_49 : decode cX6_rule 49 = .ok (.aload_n 0, 1) := by decide +kernel
theorem dX6_rule_50 : decode cX6_rule 50 = .ok (.getfield 12, 3) := by decide +kernel
theorem dX6_rule_53 : decode cX6_rule 53 = .ok (.getfield 147, 3) := by decide +kernel
theorem dX6_rule_56 : decode cX6_rule 56 = .ok (.istore_n 3, 1) := by decide +kernel
theorem dX6_rule_57 : decode cX6_rule 57 = .ok (.aload_n 0, 1) := by decide +kernel
theorem dX6_rule_58 : decode cX6_rule 58 = .ok (.getfield 12, 3) := by decide +kernel
theorem dX6_rule_61 : decode cX6_rule 61 = .ok (.iload_n 2, 1) := by decide +kernel
theorem dX6_rule_62 : decode cX6_rule 62 = .ok (.putfield 147, 3) := by decide +kernel
theorem dX6_rule_65 : decode cX6_rule 65 = .ok (.iload_n 3, 1) := by decide +kernel
theorem dX6_rule_66 : decode cX6_rule 66 = .ok (.ireturn, 1) := by decide +kernel
theorem dX6_t_0 : decode cX6_t 0 = .ok (.aload_n 0, 1) := by decide +kernel
theorem dX6_t_1 : decode cX6_t 1 = .ok (.getfield 12, 3) := by decide +kernel
theorem dX6_t_4 : decode cX6_t 4 = .ok (.iload_n 1, 1) := by decide +kernel
theorem dX6_t_5 : decode cX6_t 5 = .ok (.invokevirtual 77, 3) := by decide +kernel
theorem dX6_t_8 : decode cX6_t 8 = .ok (.ifCond .eq 10, 3) := by decide +kernel
theorem dX6_t_11 : decode cX6_t 11 = .ok (.iload_n 2, 1) := by decide +kernel
theorem dX6_t_12 : decode cX6_t 12 = .ok (.invokestatic 134, 3) := by decide +kernel
theorem dX6_t_15 : decode cX6_t 15 = .ok (.ifCond .ne 7, 3) := by decide +kernel
theorem dX6_t_18 : decode cX6_t 18 = .ok (.ldc2_w 150, 3) := by decide +kernel
theorem dX6_t_21 : decode cX6_t 21 = .ok (.lreturn, 1) := by decide +kernel
theorem dX6_t_22 : decode cX6_t 22 = .ok (.aload_n 0, 1) := by decide +kernel
theorem dX6_t_23 : decode cX6_t 23 = .ok (.getfield 12, 3) := by decide +kernel
theorem dX6_t_26 : decode cX6_t 26 = .ok (.getfield 152, 3) := by decide +kernel
theorem dX6_t_29 : decode cX6_t 29 = .ok (.iload_n 1, 1) := by decide +kernel
theorem dX6_t_30 : decode cX6_t 30 = .ok (.laload, 1) := by decide +kernel
theorem dX6_t_31 : decode cX6_t 31 = .ok (.aload_n 0, 1) := by decide +kernel
theorem dX6_t_32 : decode cX6_t 32 = .ok (.getfield 12, 3) := by decide +kernel
theorem dX6_t_35 : decode cX6_t 35 = .ok (.getfield 156, 3) := by decide +kernel
theorem dX6_t_38 : decode cX6_t 38 = .ok (.iload_n 2, 1) := by decide +kernel
theorem dX6_t_39 : decode cX6_t 39 = .ok (.invokestatic 160, 3) := by decide +kernel
theorem dX6_t_42 : decode cX6_t 42 = .ok (.lreturn, 1) := by decide +kernel
theorem dX6_line_0 : decode cX6_line 0 = .ok (.aload_n 0, 1) := by decide +kernel
theorem dX6_line_1 : decode cX6_line 1 = .ok (.getfield 12, 3) := by decide +kernel
theorem dX6_line_4 : decode cX6_line 4 = .ok (.getfield 156, 3) := by decide +kernel
theorem dX6_line_7 : decode cX6_line 7 = .ok (.lreturn, 1) := by decide +kernel
theorem dX6_joint_0 : decode cX6_joint 0 = .ok (.aload_n 0, 1) := by decide +kernel
theorem dX6_joint_1 : decode cX6_joint 1 = .ok (.getfield 12, 3) := by decide +kernel
theorem dX6_joint_4 : decode cX6_joint 4 = .ok (.iload_n 1, 1) := by decide +kernel
theorem dX6_joint_5 : decode cX6_joint 5 = .ok (.invokevirtual 164, 3) := by decide +kernel
theorem dX6_joint_8 : decode cX6_joint 8 = .ok (.ireturn, 1) := by decide +kernel
theorem dX6_flow_0 : decode cX6_flow 0 = .ok (.aload_n 0, 1) := by decide +kernel
theorem dX6_flow_1 : decode cX6_flow 1 = .ok (.getfield 12, 3) := by decide +kernel
theorem dX6_flow_4 : decode cX6_flow 4 = .ok (.iload_n 1, 1) := by decide +kernel
theorem dX6_flow_5 : decode cX6_flow 5 = .ok (.invokevirtual 167, 3) := by decide +kernel
theorem dX6_flow_8 : decode cX6_flow 8 = .ok (.ifCond .eq 10, 3) := by decide +kernel
theorem dX6_flow_11 : decode cX6_flow 11 = .ok (.iload_n 2, 1) := by decide +kernel
theorem dX6_flow_12 : decode cX6_flow 12 = .ok (.invokestatic 134, 3) := by decide +kernel
theorem dX6_flow_15 : decode cX6_flow 15 = .ok (.ifCond .ne 7, 3) := by decide +kernel
theorem dX6_flow_18 : decode cX6_flow 18 = .ok (.ldc2_w 150, 3) := by decide +kernel
theorem dX6_flow_21 : decode cX6_flow 21 = .ok (.lreturn, 1) := by decide +kernel
theorem dX6_flow_22 : decode cX6_flow 22 = .ok (.aload_n 0, 1) := by decide +kernel
theorem dX6_flow_23 : decode cX6_flow 23 = .ok (.getfield 12, 3) := by decide +kernel
theorem dX6_flow_26 : decode cX6_flow 26 = .ok (.iload_n 1, 1) := by decide +kernel
theorem dX6_flow_27 : decode cX6_flow 27 = .ok (.aload_n 0, 1) := by decide +kernel
theorem dX6_flow_28 : decode cX6_flow 28 = .ok (.getfield 12, 3) := by decide +kernel
theorem dX6_flow_31 : decode cX6_flow 31 = .ok (.getfield 152, 3) := by decide +kernel
theorem dX6_flow_34 : decode cX6_flow 34 = .ok (.aload_n 0, 1) := by decide +kernel
theorem dX6_flow_35 : decode cX6_flow 35 = .ok (.getfield 12, 3) := by decide +kernel
theorem dX6_flow_38 : decode cX6_flow 38 = .ok (.getfield 156, 3) := by decide +kernel
theorem dX6_flow_41 : decode cX6_flow 41 = .ok (.invokevirtual 170, 3) := by decide +kernel
theorem dX6_flow_44 : decode cX6_flow 44 = .ok (.aload_n 0, 1) := by decide +kernel
theorem dX6_flow_45 : decode cX6_flow 45 = .ok (.getfield 12, 3) := by decide +kernel
theorem dX6_flow_48 : decode cX6_flow 48 = .ok (.getfield 156, 3) := by decide +kernel
theorem dX6_flow_51 : decode cX6_flow 51 = .ok (.iload_n 2, 1) := by decide +kernel
theorem dX6_flow_52 : decode cX6_flow 52 = .ok (.invokestatic 160, 3) := by decide +kernel
theorem dX6_flow_55 : decode cX6_flow 55 = .ok (.lreturn, 1) := by decide +kernel
theorem dX6_stable_0 : decode cX6_stable 0 = .ok (.iload_n 1, 1) := by decide +kernel
theorem dX6_stable_1 : decode cX6_stable 1 = .ok (.iconst (-1), 1) := by decide +kernel
theorem dX6_stable_2 : decode cX6_stable 2 = .ok (.if_icmp .eq 17, 3) := by decide +kernel
theorem dX6_stable_5 : decode cX6_stable 5 = .ok (.aload_n 0, 1) := by decide +kernel
theorem dX6_stable_6 : decode cX6_stable 6 = .ok (.getfield 12, 3) := by decide +kernel
theorem dX6_stable_9 : decode cX6_stable 9 = .ok (.iload_n 1, 1) := by decide +kernel
theorem dX6_stable_10 : decode cX6_stable 10 = .ok (.invokevirtual 77, 3) := by decide +kernel
theorem dX6_stable_13 : decode cX6_stable 13 = .ok (.ifCond .ne 6, 3) := by decide +kernel
theorem dX6_stable_16 : decode cX6_stable 16 = .ok (.bipush (-2), 2) := by decide +kernel
theorem dX6_stable_18 : decode cX6_stable 18 = .ok (.ireturn, 1) := by decide +kernel
theorem dX6_stable_19 : decode cX6_stable 19 = .ok (.iload_n 1, 1) := by decide +kernel
theorem dX6_stable_20 : decode cX6_stable 20 = .ok (.iconst (-1), 1) := by decide +kernel
theorem dX6_stable_21 : decode cX6_stable 21 = .ok (.if_icmp .ne 7, 3) := by decide +kernel
theorem dX6_stable_24 : decode cX6_stable 24 = .ok (.iconst 0, 1) := by decide +kernel
theorem dX6_stable_25 : decode cX6_stable 25 = .ok (.goto 4, 3) := by decide +kernel
theorem dX6_stable_28 : decode cX6_stable 28 = .ok (.iload_n 1, 1) := by decide +kernel
theorem dX6_stable_29 : decode cX6_stable 29 = .ok (.istore_n 2, 1) := by decide +kernel
theorem dX6_stable_30 : decode cX6_stable 30 = .ok (.iload_n 1, 1) := by decide +kernel
theorem dX6_stable_31 : decode cX6_stable 31 = .ok (.iconst (-1), 1) := by decide +kernel
theorem dX6_stable_32 : decode cX6_stable 32 = .ok (.if_icmp .ne 15, 3) := by decide +kernel
theorem dX6_stable_35 : decode cX6_stable 35 = .ok (.aload_n 0, 1) := by decide +kernel
theorem dX6_stable_36 : decode cX6_stable 36 = .ok (.getfield 12, 3) := by decide +kernel
theorem dX6_stable_39 : decode cX6_stable 39 = .ok (.getfield 70, 3) := by decide +kernel
theorem dX6_stable_42 : decode cX6_stable 42 = .ok (.iconst 1, 1) := by decide +kernel
theorem dX6_stable_43 : decode cX6_stable 43 = .ok (.isub, 1) := by decide +kernel
theorem dX6_stable_44 : decode cX6_stable 44 = .ok (.goto 4, 3) := by decide +kernel
theorem dX6_stable_47 : decode cX6_stable 47 = .ok (.iload_n 1, 1) := by decide +kernel
theorem dX6_stable_48 : decode cX6_stable 48 = .ok (.istore_n 3, 1) := by decide +kernel
theorem dX6_stable_49 : decode cX6_stable 49 = .ok (.iload_n 2, 1) := by decide +kernel
theorem dX6_stable_50 : decode cX6_stable 50 = .ok (.istore 4, 2) := by decide +kernel
theorem dX6_stable_52 : decode cX6_stable 52 = .ok (.iload 4, 2) := by decide +kernel
theorem dX6_stable_54 : decode cX6_stable 54 = .ok (.iload_n 3, 1) := by decide +kernel
theorem dX6_stable_55 : decode cX6_stable 55 = .ok (.if_icmp .gt 41, 3) := by decide +kernel
theorem dX6_stable_58 : decode cX6_stable 58 = .ok (.aload_n 0, 1) := by decide +kernel
theorem dX6_stable_59 : decode cX6_stable 59 = .ok (.getfield 12, 3) := by decide +kernel
theorem dX6_stable_62 : decode cX6_stable 62 = .ok (.iload 4, 2) := by decide +kernel
theorem dX6_stable_64 : decode cX6_stable 64 = .ok (.invokevirtual 174, 3) := by decide +kernel
theorem dX6_stable_67 : decode cX6_stable 67 = .ok (.aload_n 0, 1) := by decide +kernel
theorem dX6_stable_68 : decode cX6_stable 68 = .ok (.getfield 12, 3) := by decide +kernel
theorem dX6_stable_71 : decode cX6_stable 71 = .ok (.getfield 115, 3) := by decide +kernel
theorem dX6_stable_74 : decode cX6_stable 74 = .ok (.iload 4, 2) := by decide +kernel
theorem dX6_stable_76 : decode cX6_stable 76 = .ok (.iaload, 1) := by decide +kernel
theorem dX6_stable_77 : decode cX6_stable 77 = .ok (.aload_n 0, 1) := by decide +kernel
theorem dX6_stable_78 : decode cX6_stable 78 = .ok (.getfield 12, 3) := by decide +kernel
theorem dX6_stable_81 : decode cX6_stable 81 = .ok (.getfield 144, 3) := by decide +kernel
theorem dX6_stable_84 : decode cX6_stable 84 = .ok (.imul, 1) := by decide +kernel
theorem dX6_stable_85 : decode cX6_stable 85 = .ok (.if_icmp .le 5, 3) := by decide +kernel
theorem dX6_stable_88 : decode cX6_stable 88 = .ok (.iconst 0, 1) := by decide +kernel
theorem dX6_stable_89 : decode cX6_stable 89 = .ok (.ireturn, 1) := by decide +kernel
theorem dX6_stable_90 : decode cX6_stable 90 = .ok (.iinc 4 1, 3) := by decide +kernel
theorem dX6_stable_93 : decode cX6_stable 93 = .ok (.goto (-41), 3) := by decide +kernel
theorem dX6_stable_96 : decode cX6_stable 96 = .ok (.iconst 1, 1) := by decide +kernel
theorem dX6_stable_97 : decode cX6_stable 97 = .ok (.ireturn, 1) := by decide +kernel
theorem dX6_need_0 : decode cX6_need 0 = .ok (.iconst 1, 1) := by decide +kernel
theorem dX6_need_1 : decode cX6_need 1 = .ok (.istore_n 1, 1) := by decide +kernel
theorem dX6_need_2 : decode cX6_need 2 = .ok (.iconst 0, 1) := by decide +kernel
theorem dX6_need_3 : decode cX6_need 3 = .ok (.istore_n 2, 1) := by decide +kernel
theorem dX6_need_4 : decode cX6_need 4 = .ok (.iload_n 2, 1) := by decide +kernel
theorem dX6_need_5 : decode cX6_need 5 = .ok (.aload_n 0, 1) := by decide +kernel
theorem dX6_need_6 : decode cX6_need 6 = .ok (.getfield 12, 3) := by decide +kernel
theorem dX6_need_9 : decode cX6_need 9 = .ok (.getfield 70, 3) := by decide +kernel
theorem dX6_need_12 : decode cX6_need 12 = .ok (.if_icmp .ge 47, 3) := by decide +kernel
theorem dX6_need_15 : decode cX6_need 15 = .ok (.aload_n 0, 1) := by decide +kernel
theorem dX6_need_16 : decode cX6_need 16 = .ok (.getfield 12, 3) := by decide +kernel
theorem dX6_need_19 : decode cX6_need 19 = .ok (.getfield 115, 3) := by decide +kernel
theorem dX6_need_22 : decode cX6_need 22 = .ok (.iload_n 2, 1) := by decide +kernel
theorem dX6_need_23 : decode cX6_need 23 = .ok (.iaload, 1) := by decide +kernel
theorem dX6_need_24 : decode cX6_need 24 = .ok (.istore_n 3, 1) := by decide +kernel
theorem dX6_need_25 : decode cX6_need 25 = .ok (.aload_n 0, 1) := by decide +kernel
theorem dX6_need_26 : decode cX6_need 26 = .ok (.getfield 12, 3) := by decide +kernel
theorem dX6_need_29 : decode cX6_need 29 = .ok (.iload_n 2, 1) := by decide +kernel
theorem dX6_need_30 : decode cX6_need 30 = .ok (.invokevirtual 174, 3) := by decide +kernel
theorem dX6_need_33 : decode cX6_need 33 = .ok (.iload_n 3, 1) := by decide +kernel
theorem dX6_need_34 : decode cX6_need 34 = .ok (.iadd, 1) := by decide +kernel
theorem dX6_need_35 : decode cX6_need 35 = .ok (.iconst 1, 1) := by decide +kernel
theorem dX6_need_36 : decode cX6_need 36 = .ok (.isub, 1) := by decide +kernel
theorem dX6_need_37 : decode cX6_need 37 = .ok (.i2l, 1) := by decide +kernel
theorem dX6_need_38 : decode cX6_need 38 = .ok (.iload_n 3, 1) := by decide +kernel
theorem dX6_need_39 : decode cX6_need 39 = .ok (.i2l, 1) := by decide +kernel
theorem dX6_need_40 : decode cX6_need 40 = .ok (.invokestatic 177, 3) := by decide +kernel
theorem dX6_need_43 : decode cX6_need 43 = .ok (.l2i, 1) := by decide +kernel
theorem dX6_need_44 : decode cX6_need 44 = .ok (.istore 4, 2) := by decide +kernel
theorem dX6_need_46 : decode cX6_need 46 = .ok (.iload_n 1, 1) := by decide +kernel
theorem dX6_need_47 : decode cX6_need 47 = .ok (.iload 4, 2) := by decide +kernel
theorem dX6_need_49 : decode cX6_need 49 = .ok (.invokestatic 181, 3) := by decide +kernel
theorem dX6_need_52 : decode cX6_need 52 = .ok (.istore_n 1, 1) := by decide +kernel
theorem dX6_need_53 : decode cX6_need 53 = .ok (.iinc 2 1, 3) := by decide +kernel
theorem dX6_need_56 : decode cX6_need 56 = .ok (.goto (-52), 3) := by decide +kernel
theorem dX6_need_59 : decode cX6_need 59 = .ok (.iload_n 1, 1) := by decide +kernel
theorem dX6_need_60 : decode cX6_need 60 = .ok (.ireturn, 1) := by decide +kernel
theorem dX6_sum_0 : decode cX6_sum 0 = .ok (.iload_n 1, 1) := by decide +kernel
theorem dX6_sum_1 : decode cX6_sum 1 = .ok (.invokestatic 134, 3) := by decide +kernel
theorem dX6_sum_4 : decode cX6_sum 4 = .ok (.ifCond .ne 7, 3) := by decide +kernel
theorem dX6_sum_7 : decode cX6_sum 7 = .ok (.ldc2_w 150, 3) := by decide +kernel
theorem dX6_sum_10 : decode cX6_sum 10 = .ok (.lreturn, 1) := by decide +kernel
theorem dX6_sum_11 : decode cX6_sum 11 = .ok (.lconst 0, 1) := by decide +kernel
theorem dX6_sum_12 : decode cX6_sum 12 = .ok (.lstore_n 2, 1) := by decide +kernel
theorem dX6_sum_13 : decode cX6_sum 13 = .ok (.iconst 0, 1) := by decide +kernel
theorem dX6_sum_14 : decode cX6_sum 14 = .ok (.istore 4, 2) := by decide +kernel
theorem dX6_sum_16 : decode cX6_sum 16 = .ok (.iload 4, 2) := by decide +kernel
theorem dX6_sum_18 : decode cX6_sum 18 = .ok (.aload_n 0, 1) := by decide +kernel
theorem dX6_sum_19 : decode cX6_sum 19 = .ok (.getfield 12, 3) := by decide +kernel
theorem dX6_sum_22 : decode cX6_sum 22 = .ok (.getfield 70, 3) := by decide +kernel
theorem dX6_sum_25 : decode cX6_sum 25 = .ok (.if_icmp .ge 34, 3) := by decide +kernel
theorem dX6_sum_28 : decode cX6_sum 28 = .ok (.lload_n 2, 1) := by decide +kernel
theorem dX6_sum_29 : decode cX6_sum 29 = .ok (.aload_n 0, 1) := by decide +kernel
theorem dX6_sum_30 : decode cX6_sum 30 = .ok (.getfield 12, 3) := by decide +kernel
theorem dX6_sum_33 : decode cX6_sum 33 = .ok (.getfield 115, 3) := by decide +kernel
theorem dX6_sum_36 : decode cX6_sum 36 = .ok (.iload 4, 2) := by decide +kernel
theorem dX6_sum_38 : decode cX6_sum 38 = .ok (.iaload, 1) := by decide +kernel
theorem dX6_sum_39 : decode cX6_sum 39 = .ok (.i2l, 1) := by decide +kernel
theorem dX6_sum_40 : decode cX6_sum 40 = .ok (.aload_n 0, 1) := by decide +kernel
theorem dX6_sum_41 : decode cX6_sum 41 = .ok (.getfield 12, 3) := by decide +kernel
theorem dX6_sum_44 : decode cX6_sum 44 = .ok (.getfield 152, 3) := by decide +kernel
theorem dX6_sum_47 : decode cX6_sum 47 = .ok (.iload 4, 2) := by decide +kernel
theorem dX6_sum_49 : decode cX6_sum 49 = .ok (.laload, 1) := by decide +kernel
theorem dX6_sum_50 : decode cX6_sum 50 = .ok (.lmul, 1) := by decide +kernel
theorem dX6_sum_51 : decode cX6_sum 51 = .ok (.ladd, 1) := by decide +kernel
theorem dX6_sum_52 : decode cX6_sum 52 = .ok (.lstore_n 2, 1) := by decide +kernel
theorem dX6_sum_53 : decode cX6_sum 53 = .ok (.iinc 4 1, 3) := by decide +kernel
theorem dX6_sum_56 : decode cX6_sum 56 = .ok (.goto (-40), 3) := by decide +kernel
theorem dX6_sum_59 : decode cX6_sum 59 = .ok (.lload_n 2, 1) := by decide +kernel
theorem dX6_sum_60 : decode cX6_sum 60 = .ok (.aload_n 0, 1) := by decide +kernel
theorem dX6_sum_61 : decode cX6_sum 61 = .ok (.getfield 12, 3) := by decide +kernel
theorem dX6_sum_64 : decode cX6_sum 64 = .ok (.getfield 156, 3) := by decide +kernel
theorem dX6_sum_67 : decode cX6_sum 67 = .ok (.iload_n 1, 1) := by decide +kernel
theorem dX6_sum_68 : decode cX6_sum 68 = .ok (.invokestatic 160, 3) := by decide +kernel
theorem dX6_sum_71 : decode cX6_sum 71 = .ok (.lreturn, 1) := by decide +kernel
theorem dX6_most_0 : decode cX6_most 0 = .ok (.iload_n 1, 1) := by decide +kernel
theorem dX6_most_1 : decode cX6_most 1 = .ok (.invokestatic 134, 3) := by decide +kernel
theorem dX6_most_4 : decode cX6_most 4 = .ok (.ifCond .ne 6, 3) := by decide +kernel
theorem dX6_most_7 : decode cX6_most 7 = .ok (.bipush (-2), 2) := by decide +kernel
theorem dX6_most_9 : decode cX6_most 9 = .ok (.ireturn, 1) := by decide +kernel
theorem dX6_most_10 : decode cX6_most 10 = .ok (.iload_n 1, 1) := by decide +kernel
theorem dX6_most_11 : decode cX6_most 11 = .ok (.ifCond .ne 13, 3) := by decide +kernel
theorem dX6_most_14 : decode cX6_most 14 = .ok (.aload_n 0, 1) := by decide +kernel
theorem dX6_most_15 : decode cX6_most 15 = .ok (.getfield 12, 3) := by decide +kernel
theorem dX6_most_18 : decode cX6_most 18 = .ok (.invokevirtual 186, 3) := by decide +kernel
theorem dX6_most_21 : decode cX6_most 21 = .ok (.goto 10, 3) := by decide +kernel
theorem dX6_most_24 : decode cX6_most 24 = .ok (.aload_n 0, 1) := by decide +kernel
theorem dX6_most_25 : decode cX6_most 25 = .ok (.getfield 12, 3) := by decide +kernel
theorem dX6_most_28 : decode cX6_most 28 = .ok (.invokevirtual 190, 3) := by decide +kernel
theorem dX6_most_31 : decode cX6_most 31 = .ok (.ireturn, 1) := by decide +kernel
theorem dX6_step_0 : decode cX6_step 0 = .ok (.iload_n 1, 1) := by decide +kernel
theorem dX6_step_1 : decode cX6_step 1 = .ok (.iconst 1, 1) := by decide +kernel
theorem dX6_step_2 : decode cX6_step 2 = .ok (.bipush 40, 2) := by decide +kernel
theorem dX6_step_4 : decode cX6_step 4 = .ok (.invokestatic 137, 3) := by decide +kernel
theorem dX6_step_7 : decode cX6_step 7 = .ok (.ifCond .ne 6, 3) := by decide +kernel
theorem dX6_step_10 : decode cX6_step 10 = .ok (.bipush (-2), 2) := by decide +kernel
theorem dX6_step_12 : decode cX6_step 12 = .ok (.ireturn, 1) := by decide +kernel
theorem dX6_step_13 : decode cX6_step 13 = .ok (.aload_n 0, 1) := by decide +kernel
theorem dX6_step_14 : decode cX6_step 14 = .ok (.getfield 12, 3) := by decide +kernel
theorem dX6_step_17 : decode cX6_step 17 = .ok (.getfield 70, 3) := by decide +kernel
theorem dX6_step_20 : decode cX6_step 20 = .ok (.ifCond .ne 6, 3) := by decide +kernel
theorem dX6_step_23 : decode cX6_step 23 = .ok (.bipush (-3), 2) := by decide +kernel
theorem dX6_step_25 : decode cX6_step 25 = .ok (.ireturn, 1) := by decide +kernel
theorem dX6_step_26 : decode cX6_step 26 = .ok (.aload_n 0, 1) := by decide +kernel
theorem dX6_step_27 : decode cX6_step 27 = .ok (.getfield 12, 3) := by decide +kernel
theorem dX6_step_30 : decode cX6_step 30 = .ok (.iload_n 1, 1) := by decide +kernel
theorem dX6_step_31 : decode cX6_step 31 = .ok (.invokestatic 193, 3) := by decide +kernel
theorem dX6_step_34 : decode cX6_step 34 = .ok (.ireturn, 1) := by decide +kernel
theorem dX6_then_0 : decode cX6_then 0 = .ok (.iload_n 1, 1) := by decide +kernel
theorem dX6_then_1 : decode cX6_then 1 = .ok (.iconst 0, 1) := by decide +kernel
theorem dX6_then_2 : decode cX6_then 2 = .ok (.bipush 40, 2) := by decide +kernel
theorem dX6_then_4 : decode cX6_then 4 = .ok (.invokestatic 137, 3) := by decide +kernel
theorem dX6_then_7 : decode cX6_then 7 = .ok (.ifCond .eq 21, 3) := by decide +kernel
theorem dX6_then_10 : decode cX6_then 10 = .ok (.aload_n 0, 1) := by decide +kernel
theorem dX6_then_11 : decode cX6_then 11 = .ok (.getfield 12, 3) := by decide +kernel
theorem dX6_then_14 : decode cX6_then 14 = .ok (.iload_n 2, 1) := by decide +kernel
theorem dX6_then_15 : decode cX6_then 15 = .ok (.invokevirtual 77, 3) := by decide +kernel
theorem dX6_then_18 : decode cX6_then 18 = .ok (.ifCond .eq 10, 3) := by decide +kernel
theorem dX6_then_21 : decode cX6_then 21 = .ok (.iload_n 3, 1) := by decide +kernel
theorem dX6_then_22 : decode cX6_then 22 = .ok (.invokestatic 134, 3) := by decide +kernel
theorem dX6_then_25 : decode cX6_then 25 = .ok (.ifCond .ne 7, 3) := by decide +kernel
theorem dX6_then_28 : decode cX6_then 28 = .ok (.ldc2_w 150, 3) := by decide +kernel
theorem dX6_then_31 : decode cX6_then 31 = .ok (.lreturn, 1) := by decide +kernel
theorem dX6_then_32 : decode cX6_then 32 = .ok (.aload_n 0, 1) := by decide +kernel
theorem dX6_then_33 : decode cX6_then 33 = .ok (.getfield 18, 3) := by decide +kernel
theorem dX6_then_36 : decode cX6_then 36 = .ok (.aload_n 0, 1) := by decide +kernel
theorem dX6_then_37 : decode cX6_then 37 = .ok (.getfield 12, 3) := by decide +kernel
theorem dX6_then_40 : decode cX6_then 40 = .ok (.invokevirtual 197, 3) := by decide +kernel
theorem dX6_then_43 : decode cX6_then 43 = .ok (.aload_n 0, 1) := by decide +kernel
theorem dX6_then_44 : decode cX6_then 44 = .ok (.getfield 18, 3) := by decide +kernel
theorem dX6_then_47 : decode cX6_then 47 = .ok (.iload_n 1, 1) := by decide +kernel
theorem dX6_then_48 : decode cX6_then 48 = .ok (.invokestatic 193, 3) := by decide +kernel
theorem dX6_then_51 : decode cX6_then 51 = .ok (.iload_n 1, 1) := by decide +kernel
theorem dX6_then_52 : decode cX6_then 52 = .ok (.if_icmp .ge 7, 3) := by decide +kernel
theorem dX6_then_55 : decode cX6_then 55 = .ok (.ldc2_w 150, 3) := by decide +kernel
theorem dX6_then_58 : decode cX6_then 58 = .ok (.lreturn, 1) := by decide +kernel
theorem dX6_then_59 : decode cX6_then 59 = .ok (.aload_n 0, 1) := by decide +kernel
theorem dX6_then_60 : decode cX6_then 60 = .ok (.getfield 18, 3) := by decide +kernel
theorem dX6_then_63 : decode cX6_then 63 = .ok (.getfield 152, 3) := by decide +kernel
theorem dX6_then_66 : decode cX6_then 66 = .ok (.iload_n 2, 1) := by decide +kernel
theorem dX6_then_67 : decode cX6_then 67 = .ok (.laload, 1) := by decide +kernel
theorem dX6_then_68 : decode cX6_then 68 = .ok (.aload_n 0, 1) := by decide +kernel
theorem dX6_then_69 : decode cX6_then 69 = .ok (.getfield 18, 3) := by decide +kernel
theorem dX6_then_72 : decode cX6_then 72 = .ok (.getfield 156, 3) := by decide +kernel
theorem dX6_then_75 : decode cX6_then 75 = .ok (.iload_n 3, 1) := by decide +kernel
theorem dX6_then_76 : decode cX6_then 76 = .ok (.invokestatic 160, 3) := by decide +kernel
theorem dX6_then_79 : decode cX6_then 79 = .ok (.lreturn, 1) := by decide +kernel
theorem dX6_spent_0 : decode cX6_spent 0 = .ok (.iload_n 1, 1) := by decide +kernel
theorem dX6_spent_1 : decode cX6_spent 1 = .ok (.invokestatic 134, 3) := by decide +kernel
theorem dX6_spent_4 : decode cX6_spent 4 = .ok (.ifCond .ne 6, 3) := by decide +kernel
theorem dX6_spent_7 : decode cX6_spent 7 = .ok (.bipush (-2), 2) := by decide +kernel
theorem dX6_spent_9 : decode cX6_spent 9 = .ok (.ireturn, 1) := by decide +kernel
theorem dX6_spent_10 : decode cX6_spent 10 = .ok (.aload_n 0, 1) := by decide +kernel
theorem dX6_spent_11 : decode cX6_spent 11 = .ok (.getfield 18, 3) := by decide +kernel
theorem dX6_spent_14 : decode cX6_spent 14 = .ok (.aload_n 0, 1) := by decide +kernel
theorem dX6_spent_15 : decode cX6_spent 15 = .ok (.getfield 12, 3) := by decide +kernel
theorem dX6_spent_18 : decode cX6_spent 18 = .ok (.invokevirtual 197, 3) := by decide +kernel
theorem dX6_spent_21 : decode cX6_spent 21 = .ok (.iconst 1, 1) := by decide +kernel
theorem dX6_spent_22 : decode cX6_spent 22 = .ok (.istore_n 2, 1) := by decide +kernel
theorem dX6_spent_23 : decode cX6_spent 23 = .ok (.iload_n 2, 1) := by decide +kernel
theorem dX6_spent_24 : decode cX6_spent 24 = .ok (.bipush 40, 2) := by decide +kernel
theorem dX6_spent_26 : decode cX6_spent 26 = .ok (.if_icmp .gt 33, 3) := by decide +kernel
theorem dX6_spent_29 : decode cX6_spent 29 = .ok (.aload_n 0, 1) := by decide +kernel
theorem dX6_spent_30 : decode cX6_spent 30 = .ok (.getfield 18, 3) := by decide +kernel
theorem dX6_spent_33 : decode cX6_spent 33 = .ok (.invokevirtual 201, 3) := by decide +kernel
theorem dX6_spent_36 : decode cX6_spent 36 = .ok (.istore_n 3, 1) := by decide +kernel
theorem dX6_spent_37 : decode cX6_spent 37 = .ok (.iload_n 3, 1) := by decide +kernel
theorem dX6_spent_38 : decode cX6_spent 38 = .ok (.bipush (-2), 2) := by decide +kernel
theorem dX6_spent_40 : decode cX6_spent 40 = .ok (.if_icmp .eq 13, 3) := by decide +kernel
theorem dX6_spent_43 : decode cX6_spent 43 = .ok (.iload_n 1, 1) := by decide +kernel
theorem dX6_spent_44 : decode cX6_spent 44 = .ok (.ifCond .ne 7, 3) := by decide +kernel
theorem dX6_spent_47 : decode cX6_spent 47 = .ok (.iload_n 2, 1) := by decide +kernel
theorem dX6_spent_48 : decode cX6_spent 48 = .ok (.goto 4, 3) := by decide +kernel
theorem dX6_spent_51 : decode cX6_spent 51 = .ok (.iload_n 3, 1) := by decide +kernel
theorem dX6_spent_52 : decode cX6_spent 52 = .ok (.ireturn, 1) := by decide +kernel
theorem dX6_spent_53 : decode cX6_spent 53 = .ok (.iinc 2 1, 3) := by decide +kernel
theorem dX6_spent_56 : decode cX6_spent 56 = .ok (.goto (-33), 3) := by decide +kernel
theorem dX6_spent_59 : decode cX6_spent 59 = .ok (.iconst (-1), 1) := by decide +kernel
theorem dX6_spent_60 : decode cX6_spent 60 = .ok (.ireturn, 1) := by decide +kernel
theorem dX6_rises_0 : decode cX6_rises 0 = .ok (.iload_n 1, 1) := by decide +kernel
theorem dX6_rises_1 : decode cX6_rises 1 = .ok (.iconst 1, 1) := by decide +kernel
theorem dX6_rises_2 : decode cX6_rises 2 = .ok (.bipush 40, 2) := by decide +kernel
theorem dX6_rises_4 : decode cX6_rises 4 = .ok (.invokestatic 137, 3) := by decide +kernel
theorem dX6_rises_7 : decode cX6_rises 7 = .ok (.ifCond .ne 6, 3) := by decide +kernel
theorem dX6_rises_10 : decode cX6_rises 10 = .ok (.bipush (-2), 2) := by decide +kernel
theorem dX6_rises_12 : decode cX6_rises 12 = .ok (.ireturn, 1) := by decide +kernel
theorem dX6_rises_13 : decode cX6_rises 13 = .ok (.aload_n 0, 1) := by decide +kernel
theorem dX6_rises_14 : decode cX6_rises 14 = .ok (.getfield 12, 3) := by decide +kernel
theorem dX6_rises_17 : decode cX6_rises 17 = .ok (.getfield 70, 3) := by decide +kernel
theorem dX6_rises_20 : decode cX6_rises 20 = .ok (.ifCond .ne 6, 3) := by decide +kernel
theorem dX6_rises_23 : decode cX6_rises 23 = .ok (.bipush (-3), 2) := by decide +kernel
theorem dX6_rises_25 : decode cX6_rises 25 = .ok (.ireturn, 1) := by decide +kernel
theorem dX6_rises_26 : decode cX6_rises 26 = .ok (.aload_n 0, 1) := by decide +kernel
theorem dX6_rises_27 : decode cX6_rises 27 = .ok (.getfield 18, 3) := by decide +kernel
theorem dX6_rises_30 : decode cX6_rises 30 = .ok (.aload_n 0, 1) := by decide +kernel
theorem dX6_rises_31 : decode cX6_rises 31 = .ok (.getfield 12, 3) := by decide +kernel
theorem dX6_rises_34 : decode cX6_rises 34 = .ok (.invokevirtual 197, 3) := by decide +kernel
theorem dX6_rises_37 : decode cX6_rises 37 = .ok (.iconst 1, 1) := by decide +kernel
theorem dX6_rises_38 : decode cX6_rises 38 = .ok (.istore_n 2, 1) := by decide +kernel
theorem dX6_rises_39 : decode cX6_rises 39 = .ok (.iload_n 2, 1) := by decide +kernel
theorem dX6_rises_40 : decode cX6_rises 40 = .ok (.iload_n 1, 1) := by decide +kernel
theorem dX6_rises_41 : decode cX6_rises 41 = .ok (.if_icmp .gt 55, 3) := by decide +kernel
theorem dX6_rises_44 : decode cX6_rises 44 = .ok (.aload_n 0, 1) := by decide +kernel
theorem dX6_rises_45 : decode cX6_rises 45 = .ok (.getfield 18, 3) := by decide +kernel
theorem dX6_rises_48 : decode cX6_rises 48 = .ok (.invokevirtual 204, 3) := by decide +kernel
theorem dX6_rises_51 : decode cX6_rises 51 = .ok (.lstore_n 3, 1) := by decide +kernel
theorem dX6_rises_52 : decode cX6_rises 52 = .ok (.aload_n 0, 1) := by decide +kernel
theorem dX6_rises_53 : decode cX6_rises 53 = .ok (.getfield 18, 3) := by decide +kernel
theorem dX6_rises_56 : decode cX6_rises 56 = .ok (.getfield 156, 3) := by decide +kernel
theorem dX6_rises_59 : decode cX6_rises 59 = .ok (.lstore 5, 2) := by decide +kernel
theorem dX6_rises_61 : decode cX6_rises 61 = .ok (.aload_n 0, 1) := by decide +kernel
theorem dX6_rises_62 : decode cX6_rises 62 = .ok (.getfield 18, 3) := by decide +kernel
theorem dX6_rises_65 : decode cX6_rises 65 = .ok (.invokevirtual 201, 3) := by decide +kernel
theorem dX6_rises_68 : decode cX6_rises 68 = .ok (.bipush (-2), 2) := by decide +kernel
theorem dX6_rises_70 : decode cX6_rises 70 = .ok (.if_icmp .eq 5, 3) := by decide +kernel
theorem dX6_rises_73 : decode cX6_rises 73 = .ok (.iconst (-1), 1) := by decide +kernel
theorem dX6_rises_74 : decode cX6_rises 74 = .ok (.ireturn, 1) := by decide +kernel
theorem dX6_rises_75 : decode cX6_rises 75 = .ok (.aload_n 0, 1) := by decide +kernel
theorem dX6_rises_76 : decode cX6_rises 76 = .ok (.getfield 18, 3) := by decide +kernel
theorem dX6_rises_79 : decode cX6_rises 79 = .ok (.lload_n 3, 1) := by decide +kernel
theorem dX6_rises_80 : decode cX6_rises 80 = .ok (.lload 5, 2) := by decide +kernel
theorem dX6_rises_82 : decode cX6_rises 82 = .ok (.invokevirtual 208, 3) := by decide +kernel
theorem dX6_rises_85 : decode cX6_rises 85 = .ok (.ifCond .eq 5, 3) := by decide +kernel
theorem dX6_rises_88 : decode cX6_rises 88 = .ok (.iload_n 2, 1) := by decide +kernel
theorem dX6_rises_89 : decode cX6_rises 89 = .ok (.ireturn, 1) := by decide +kernel
theorem dX6_rises_90 : decode cX6_rises 90 = .ok (.iinc 2 1, 3) := by decide +kernel
theorem dX6_rises_93 : decode cX6_rises 93 = .ok (.goto (-54), 3) := by decide +kernel
theorem dX6_rises_96 : decode cX6_rises 96 = .ok (.iconst (-1), 1) := by decide +kernel
theorem dX6_rises_97 : decode cX6_rises 97 = .ok (.ireturn, 1) := by decide +kernel
theorem dX6_calm_0 : decode cX6_calm 0 = .ok (.iload_n 1, 1) := by decide +kernel
theorem dX6_calm_1 : decode cX6_calm 1 = .ok (.invokestatic 63, 3) := by decide +kernel
theorem dX6_calm_4 : decode cX6_calm 4 = .ok (.ifCond .ne 6, 3) := by decide +kernel
theorem dX6_calm_7 : decode cX6_calm 7 = .ok (.bipush (-2), 2) := by decide +kernel
theorem dX6_calm_9 : decode cX6_calm 9 = .ok (.ireturn, 1) := by decide +kernel
theorem dX6_calm_10 : decode cX6_calm 10 = .ok (.aload_n 0, 1) := by decide +kernel
theorem dX6_calm_11 : decode cX6_calm 11 = .ok (.getfield 12, 3) := by decide +kernel
theorem dX6_calm_14 : decode cX6_calm 14 = .ok (.getfield 70, 3) := by decide +kernel
theorem dX6_calm_17 : decode cX6_calm 17 = .ok (.ifCond .ne 6, 3) := by decide +kernel
theorem dX6_calm_20 : decode cX6_calm 20 = .ok (.bipush (-3), 2) := by decide +kernel
theorem dX6_calm_22 : decode cX6_calm 22 = .ok (.ireturn, 1) := by decide +kernel
theorem dX6_calm_23 : decode cX6_calm 23 = .ok (.aload_n 0, 1) := by decide +kernel
theorem dX6_calm_24 : decode cX6_calm 24 = .ok (.getfield 18, 3) := by decide +kernel
theorem dX6_calm_27 : decode cX6_calm 27 = .ok (.aload_n 0, 1) := by decide +kernel
theorem dX6_calm_28 : decode cX6_calm 28 = .ok (.getfield 12, 3) := by decide +kernel
theorem dX6_calm_31 : decode cX6_calm 31 = .ok (.invokevirtual 197, 3) := by decide +kernel
theorem dX6_calm_34 : decode cX6_calm 34 = .ok (.iconst 0, 1) := by decide +kernel
theorem dX6_calm_35 : decode cX6_calm 35 = .ok (.istore_n 2, 1) := by decide +kernel
theorem dX6_calm_36 : decode cX6_calm 36 = .ok (.iload_n 2, 1) := by decide +kernel
theorem dX6_calm_37 : decode cX6_calm 37 = .ok (.bipush 40, 2) := by decide +kernel
theorem dX6_calm_39 : decode cX6_calm 39 = .ok (.if_icmp .gt 54, 3) := by decide +kernel
theorem dX6_calm_42 : decode cX6_calm 42 = .ok (.aload_n 0, 1) := by decide +kernel
theorem dX6_calm_43 : decode cX6_calm 43 = .ok (.getfield 18, 3) := by decide +kernel
theorem dX6_calm_46 : decode cX6_calm 46 = .ok (.invokevirtual 204, 3) := by decide +kernel
theorem dX6_calm_49 : decode cX6_calm 49 = .ok (.aload_n 0, 1) := by decide +kernel
theorem dX6_calm_50 : decode cX6_calm 50 = .ok (.getfield 18, 3) := by decide +kernel
theorem dX6_calm_53 : decode cX6_calm 53 = .ok (.invokevirtual 212, 3) := by decide +kernel
theorem dX6_calm_56 : decode cX6_calm 56 = .ok (.lsub, 1) := by decide +kernel
theorem dX6_calm_57 : decode cX6_calm 57 = .ok (.iload_n 1, 1) := by decide +kernel
theorem dX6_calm_58 : decode cX6_calm 58 = .ok (.i2l, 1) := by decide +kernel
theorem dX6_calm_59 : decode cX6_calm 59 = .ok (.aload_n 0, 1) := by decide +kernel
theorem dX6_calm_60 : decode cX6_calm 60 = .ok (.getfield 18, 3) := by decide +kernel
theorem dX6_calm_63 : decode cX6_calm 63 = .ok (.getfield 156, 3) := by decide +kernel
theorem dX6_calm_66 : decode cX6_calm 66 = .ok (.lmul, 1) := by decide +kernel
theorem dX6_calm_67 : decode cX6_calm 67 = .ok (.lcmp, 1) := by decide +kernel
theorem dX6_calm_68 : decode cX6_calm 68 = .ok (.ifCond .gt 5, 3) := by decide +kernel
theorem dX6_calm_71 : decode cX6_calm 71 = .ok (.iload_n 2, 1) := by decide +kernel
theorem dX6_calm_72 : decode cX6_calm 72 = .ok (.ireturn, 1) := by decide +kernel
theorem dX6_calm_73 : decode cX6_calm 73 = .ok (.aload_n 0, 1) := by decide +kernel
theorem dX6_calm_74 : decode cX6_calm 74 = .ok (.getfield 18, 3) := by decide +kernel
theorem dX6_calm_77 : decode cX6_calm 77 = .ok (.invokevirtual 201, 3) := by decide +kernel
theorem dX6_calm_80 : decode cX6_calm 80 = .ok (.bipush (-2), 2) := by decide +kernel
theorem dX6_calm_82 : decode cX6_calm 82 = .ok (.if_icmp .eq 5, 3) := by decide +kernel
theorem dX6_calm_85 : decode cX6_calm 85 = .ok (.iconst (-1), 1) := by decide +kernel
theorem dX6_calm_86 : decode cX6_calm 86 = .ok (.ireturn, 1) := by decide +kernel
theorem dX6_calm_87 : decode cX6_calm 87 = .ok (.iinc 2 1, 3) := by decide +kernel
theorem dX6_calm_90 : decode cX6_calm 90 = .ok (.goto (-54), 3) := by decide +kernel
theorem dX6_calm_93 : decode cX6_calm 93 = .ok (.iconst (-1), 1) := by decide +kernel
theorem dX6_calm_94 : decode cX6_calm 94 = .ok (.ireturn, 1) := by decide +kernel
theorem dX6_pulse_0 : decode cX6_pulse 0 = .ok (.aload_n 0, 1) := by decide +kernel
theorem dX6_pulse_1 : decode cX6_pulse 1 = .ok (.getfield 12, 3) := by decide +kernel
theorem dX6_pulse_4 : decode cX6_pulse 4 = .ok (.iload_n 1, 1) := by decide +kernel
theorem dX6_pulse_5 : decode cX6_pulse 5 = .ok (.invokevirtual 77, 3) := by decide +kernel
theorem dX6_pulse_8 : decode cX6_pulse 8 = .ok (.ifCond .eq 28, 3) := by decide +kernel
theorem dX6_pulse_11 : decode cX6_pulse 11 = .ok (.iload_n 2, 1) := by decide +kernel
theorem dX6_pulse_12 : decode cX6_pulse 12 = .ok (.iconst 1, 1) := by decide +kernel
theorem dX6_pulse_13 : decode cX6_pulse 13 = .ok (.bipush 20, 2) := by decide +kernel
theorem dX6_pulse_15 : decode cX6_pulse 15 = .ok (.invokestatic 137, 3) := by decide +kernel
theorem dX6_pulse_18 : decode cX6_pulse 18 = .ok (.ifCond .eq 18, 3) := by decide +kernel
theorem dX6_pulse_21 : decode cX6_pulse 21 = .ok (.iload_n 3, 1) := by decide +kernel
theorem dX6_pulse_22 : decode cX6_pulse 22 = .ok (.bipush (-99), 2) := by decide +kernel
theorem dX6_pulse_24 : decode cX6_pulse 24 = .ok (.bipush 99, 2) := by decide +kernel
theorem dX6_pulse_26 : decode cX6_pulse 26 = .ok (.invokestatic 137, 3) := by decide +kernel
theorem dX6_pulse_29 : decode cX6_pulse 29 = .ok (.ifCond .eq 7, 3) := by decide +kernel
theorem dX6_pulse_32 : decode cX6_pulse 32 = .ok (.iconst 1, 1) := by decide +kernel
theorem dX6_pulse_33 : decode cX6_pulse 33 = .ok (.goto 4, 3) := by decide +kernel
theorem dX6_pulse_36 : decode cX6_pulse 36 = .ok (.iconst 0, 1) := by decide +kernel
theorem dX6_pulse_37 : decode cX6_pulse 37 = .ok (.istore 4, 2) := by decide +kernel
theorem dX6_pulse_39 : decode cX6_pulse 39 = .ok (.iload 4, 2) := by decide +kernel
theorem dX6_pulse_41 : decode cX6_pulse 41 = .ok (.ifCond .eq 19, 3) := by decide +kernel
theorem dX6_pulse_44 : decode cX6_pulse 44 = .ok (.aload_n 0, 1) := by decide +kernel
theorem dX6_pulse_45 : decode cX6_pulse 45 = .ok (.getfield 12, 3) := by decide +kernel
theorem dX6_pulse_48 : decode cX6_pulse 48 = .ok (.getfield 215, 3) := by decide +kernel
theorem dX6_pulse_51 : decode cX6_pulse 51 = .ok (.iload_n 1, 1) := by decide +kernel
theorem dX6_pulse_52 : decode cX6_pulse 52 = .ok (.iload_n 2, 1) := by decide +kernel
theorem dX6_pulse_53 : decode cX6_pulse 53 = .ok (.iload_n 3, 1) := by decide +kernel
theorem dX6_pulse_54 : decode cX6_pulse 54 = .ok (.invokevirtual 219, 3) := by decide +kernel
theorem dX6_pulse_57 : decode cX6_pulse 57 = .ok (.goto 5, 3) := by decide +kernel
theorem dX6_pulse_60 : decode cX6_pulse 60 = .ok (.bipush (-2), 2) := by decide +kernel
theorem dX6_pulse_62 : decode cX6_pulse 62 = .ok (.ireturn, 1) := by decide +kernel
theorem dX6_pulseOf_0 : decode cX6_pulseOf 0 = .ok (.iload_n 1, 1) := by decide +kernel
theorem dX6_pulseOf_1 : decode cX6_pulseOf 1 = .ok (.ifCond .lt 17, 3) := by decide +kernel
theorem dX6_pulseOf_4 : decode cX6_pulseOf 4 = .ok (.iload_n 1, 1) := by decide +kernel
theorem dX6_pulseOf_5 : decode cX6_pulseOf 5 = .ok (.aload_n 0, 1) := by decide +kernel
theorem dX6_pulseOf_6 : decode cX6_pulseOf 6 = .ok (.getfield 12, 3) := by decide +kernel
theorem dX6_pulseOf_9 : decode cX6_pulseOf 9 = .ok (.getfield 215, 3) := by decide +kernel
theorem dX6_pulseOf_12 : decode cX6_pulseOf 12 = .ok (.getfield 224, 3) := by decide +kernel
theorem dX6_pulseOf_15 : decode cX6_pulseOf 15 = .ok (.if_icmp .lt 7, 3) := by decide +kernel
theorem dX6_pulseOf_18 : decode cX6_pulseOf 18 = .ok (.sipush (-1000), 3) := by decide +kernel
theorem dX6_pulseOf_21 : decode cX6_pulseOf 21 = .ok (.ireturn, 1) := by decide +kernel
theorem dX6_pulseOf_22 : decode cX6_pulseOf 22 = .ok (.iload_n 2, 1) := by decide +kernel
theorem dX6_pulseOf_23 : decode cX6_pulseOf 23 = .ok (.tableswitch 64 0 2 #[25, 38, 51], 25) := by decide +kernel
theorem dX6_pulseOf_48 : decode cX6_pulseOf 48 = .ok (.aload_n 0, 1) := by decide +kernel
theorem dX6_pulseOf_49 : decode cX6_pulseOf 49 = .ok (.getfield 12, 3) := by decide +kernel
theorem dX6_pulseOf_52 : decode cX6_pulseOf 52 = .ok (.getfield 215, 3) := by decide +kernel
theorem dX6_pulseOf_55 : decode cX6_pulseOf 55 = .ok (.getfield 227, 3) := by decide +kernel
theorem dX6_pulseOf_58 : decode cX6_pulseOf 58 = .ok (.iload_n 1, 1) := by decide +kernel
theorem dX6_pulseOf_59 : decode cX6_pulseOf 59 = .ok (.iaload, 1) := by decide +kernel
theorem dX6_pulseOf_60 : decode cX6_pulseOf 60 = .ok (.ireturn, 1) := by decide +kernel
theorem dX6_pulseOf_61 : decode cX6_pulseOf 61 = .ok (.aload_n 0, 1) := by decide +kernel
theorem dX6_pulseOf_62 : decode cX6_pulseOf 62 = .ok (.getfield 12, 3) := by decide +kernel
theorem dX6_pulseOf_65 : decode cX6_pulseOf 65 = .ok (.getfield 215, 3) := by decide +kernel
theorem dX6_pulseOf_68 : decode cX6_pulseOf 68 = .ok (.getfield 230, 3) := by decide +kernel
theorem dX6_pulseOf_71 : decode cX6_pulseOf 71 = .ok (.iload_n 1, 1) := by decide +kernel
theorem dX6_pulseOf_72 : decode cX6_pulseOf 72 = .ok (.iaload, 1) := by decide +kernel
theorem dX6_pulseOf_73 : decode cX6_pulseOf 73 = .ok (.ireturn, 1) := by decide +kernel
theorem dX6_pulseOf_74 : decode cX6_pulseOf 74 = .ok (.aload_n 0, 1) := by decide +kernel
theorem dX6_pulseOf_75 : decode cX6_pulseOf 75 = .ok (.getfield 12, 3) := by decide +kernel
theorem dX6_pulseOf_78 : decode cX6_pulseOf 78 = .ok (.getfield 215, 3) := by decide +kernel
theorem dX6_pulseOf_81 : decode cX6_pulseOf 81 = .ok (.getfield 233, 3) := by decide +kernel
theorem dX6_pulseOf_84 : decode cX6_pulseOf 84 = .ok (.iload_n 1, 1) := by decide +kernel
theorem dX6_pulseOf_85 : decode cX6_pulseOf 85 = .ok (.iaload, 1) := by decide +kernel
theorem dX6_pulseOf_86 : decode cX6_pulseOf 86 = .ok (.ireturn, 1) := by decide +kernel
theorem dX6_pulseOf_87 : decode cX6_pulseOf 87 = .ok (.sipush (-1000), 3) := by decide +kernel
theorem dX6_pulseOf_90 : decode cX6_pulseOf 90 = .ok (.ireturn, 1) := by decide +kernel
theorem dX6_hush_0 : decode cX6_hush 0 = .ok (.aload_n 0, 1) := by decide +kernel
theorem dX6_hush_1 : decode cX6_hush 1 = .ok (.getfield 12, 3) := by decide +kernel
theorem dX6_hush_4 : decode cX6_hush 4 = .ok (.iload_n 1, 1) := by decide +kernel
theorem dX6_hush_5 : decode cX6_hush 5 = .ok (.invokevirtual 77, 3) := by decide +kernel
theorem dX6_hush_8 : decode cX6_hush 8 = .ok (.ifCond .eq 17, 3) := by decide +kernel
theorem dX6_hush_11 : decode cX6_hush 11 = .ok (.aload_n 0, 1) := by decide +kernel
theorem dX6_hush_12 : decode cX6_hush 12 = .ok (.getfield 12, 3) := by decide +kernel
theorem dX6_hush_15 : decode cX6_hush 15 = .ok (.getfield 215, 3) := by decide +kernel
theorem dX6_hush_18 : decode cX6_hush 18 = .ok (.iload_n 1, 1) := by decide +kernel
theorem dX6_hush_19 : decode cX6_hush 19 = .ok (.invokevirtual 236, 3) := by decide +kernel
theorem dX6_hush_22 : decode cX6_hush 22 = .ok (.goto 5, 3) := by decide +kernel
theorem dX6_hush_25 : decode cX6_hush 25 = .ok (.bipush (-2), 2) := by decide +kernel
theorem dX6_hush_27 : decode cX6_hush 27 = .ok (.ireturn, 1) := by decide +kernel
