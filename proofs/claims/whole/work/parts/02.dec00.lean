theorem dX0_init_0 : decode cX0_init 0 = .ok (.aload_n 0, 1) := by decide +kernel
theorem dX0_init_1 : decode cX0_init 1 = .ok (.invokespecial 3, 3) := by decide +kernel
theorem dX0_init_4 : decode cX0_init 4 = .ok (.aload_n 0, 1) := by decide +kernel
theorem dX0_init_5 : decode cX0_init 5 = .ok (.iconst 0, 1) := by decide +kernel
theorem dX0_init_6 : decode cX0_init 6 = .ok (.putfield 9, 3) := by decide +kernel
theorem dX0_init_9 : decode cX0_init 9 = .ok (.aload_n 0, 1) := by decide +kernel
theorem dX0_init_10 : decode cX0_init 10 = .ok (.bipush 8, 2) := by decide +kernel
theorem dX0_init_12 : decode cX0_init 12 = .ok (.newarray .int, 2) := by decide +kernel
theorem dX0_init_14 : decode cX0_init 14 = .ok (.putfield 15, 3) := by decide +kernel
theorem dX0_init_17 : decode cX0_init 17 = .ok (.aload_n 0, 1) := by decide +kernel
theorem dX0_init_18 : decode cX0_init 18 = .ok (.bipush 8, 2) := by decide +kernel
theorem dX0_init_20 : decode cX0_init 20 = .ok (.newarray .int, 2) := by decide +kernel
theorem dX0_init_22 : decode cX0_init 22 = .ok (.putfield 19, 3) := by decide +kernel
theorem dX0_init_25 : decode cX0_init 25 = .ok (.aload_n 0, 1) := by decide +kernel
theorem dX0_init_26 : decode cX0_init 26 = .ok (.bipush 8, 2) := by decide +kernel
theorem dX0_init_28 : decode cX0_init 28 = .ok (.newarray .int, 2) := by decide +kernel
theorem dX0_init_30 : decode cX0_init 30 = .ok (.putfield 22, 3) := by decide +kernel
theorem dX0_init_33 : decode cX0_init 33 = .ok (.aload_n 0, 1) := by decide +kernel
theorem dX0_init_34 : decode cX0_init 34 = .ok (.bipush 8, 2) := by decide +kernel
theorem dX0_init_36 : decode cX0_init 36 = .ok (.newarray .int, 2) := by decide +kernel
theorem dX0_init_38 : decode cX0_init 38 = .ok (.putfield 25, 3) := by decide +kernel
theorem dX0_init_41 : decode cX0_init 41 = .ok (.aload_n 0, 1) := by decide +kernel
theorem dX0_init_42 : decode cX0_init 42 = .ok (.bipush 8, 2) := by decide +kernel
theorem dX0_init_44 : decode cX0_init 44 = .ok (.newarray .int, 2) := by decide +kernel
theorem dX0_init_46 : decode cX0_init 46 = .ok (.putfield 28, 3) := by decide +kernel
theorem dX0_init_49 : decode cX0_init 49 = .ok (.aload_n 0, 1) := by decide +kernel
theorem dX0_init_50 : decode cX0_init 50 = .ok (.bipush 8, 2) := by decide +kernel
theorem dX0_init_52 : decode cX0_init 52 = .ok (.newarray .int, 2) := by decide +kernel
theorem dX0_init_54 : decode cX0_init 54 = .ok (.putfield 31, 3) := by decide +kernel
theorem dX0_init_57 : decode cX0_init 57 = .ok (.aload_n 0, 1) := by decide +kernel
theorem dX0_init_58 : decode cX0_init 58 = .ok (.bipush 8, 2) := by decide +kernel
theorem dX0_init_60 : decode cX0_init 60 = .ok (.newarray .int, 2) := by decide +kernel
theorem dX0_init_62 : decode cX0_init 62 = .ok (.putfield 34, 3) := by decide +kernel
theorem dX0_init_65 : decode cX0_init 65 = .ok (.aload_n 0, 1) := by decide +kernel
theorem dX0_init_66 : decode cX0_init 66 = .ok (.bipush 8, 2) := by decide +kernel
theorem dX0_init_68 : decode cX0_init 68 = .ok (.newarray .long, 2) := by decide +kernel
theorem dX0_init_70 : decode cX0_init 70 = .ok (.putfield 37, 3) := by decide +kernel
theorem dX0_init_73 : decode cX0_init 73 = .ok (.aload_n 0, 1) := by decide +kernel
theorem dX0_init_74 : decode cX0_init 74 = .ok (.lconst 1, 1) := by decide +kernel
theorem dX0_init_75 : decode cX0_init 75 = .ok (.putfield 41, 3) := by decide +kernel
theorem dX0_init_78 : decode cX0_init 78 = .ok (.aload_n 0, 1) := by decide +kernel
theorem dX0_init_79 : decode cX0_init 79 = .ok (.iconst 2, 1) := by decide +kernel
theorem dX0_init_80 : decode cX0_init 80 = .ok (.newarray .int, 2) := by decide +kernel
theorem dX0_init_82 : decode cX0_init 82 = .ok (.dup, 1) := by decide +kernel
theorem dX0_init_83 : decode cX0_init 83 = .ok (.iconst 0, 1) := by decide +kernel
theorem dX0_init_84 : decode cX0_init 84 = .ok (.iconst (-1), 1) := by decide +kernel
theorem dX0_init_85 : decode cX0_init 85 = .ok (.iastore, 1) := by decide +kernel
theorem dX0_init_86 : decode cX0_init 86 = .ok (.dup, 1) := by decide +kernel
theorem dX0_init_87 : decode cX0_init 87 = .ok (.iconst 1, 1) := by decide +kernel
theorem dX0_init_88 : decode cX0_init 88 = .ok (.iconst (-1), 1) := by decide +kernel
theorem dX0_init_89 : decode cX0_init 89 = .ok (.iastore, 1) := by decide +kernel
theorem dX0_init_90 : decode cX0_init 90 = .ok (.putfield 45, 3) := by decide +kernel
theorem dX0_init_93 : decode cX0_init 93 = .ok (.aload_n 0, 1) := by decide +kernel
theorem dX0_init_94 : decode cX0_init 94 = .ok (.iconst 4, 1) := by decide +kernel
theorem dX0_init_95 : decode cX0_init 95 = .ok (.putfield 48, 3) := by decide +kernel
theorem dX0_init_98 : decode cX0_init 98 = .ok (.aload_n 0, 1) := by decide +kernel
theorem dX0_init_99 : decode cX0_init 99 = .ok (.iconst 0, 1) := by decide +kernel
theorem dX0_init_100 : decode cX0_init 100 = .ok (.putfield 51, 3) := by decide +kernel
theorem dX0_init_103 : decode cX0_init 103 = .ok (.aload_n 0, 1) := by decide +kernel
theorem dX0_init_104 : decode cX0_init 104 = .ok (.new 54, 3) := by decide +kernel
theorem dX0_init_107 : decode cX0_init 107 = .ok (.dup, 1) := by decide +kernel
theorem dX0_init_108 : decode cX0_init 108 = .ok (.invokespecial 56, 3) := by decide +kernel
theorem dX0_init_111 : decode cX0_init 111 = .ok (.putfield 57, 3) := by decide +kernel
theorem dX0_init_114 : decode cX0_init 114 = .ok (.aload_n 0, 1) := by decide +kernel
theorem dX0_init_115 : decode cX0_init 115 = .ok (.bipush 8, 2) := by decide +kernel
theorem dX0_init_117 : decode cX0_init 117 = .ok (.newarray .long, 2) := by decide +kernel
theorem dX0_init_119 : decode cX0_init 119 = .ok (.putfield 61, 3) := by decide +kernel
theorem dX0_init_122 : decode cX0_init 122 = .ok (.return_, 1) := by decide +kernel
theorem dX0_become_0 : decode cX0_become 0 = .ok (.aload_n 0, 1) := by decide +kernel
theorem dX0_become_1 : decode cX0_become 1 = .ok (.aload_n 1, 1) := by decide +kernel
theorem dX0_become_2 : decode cX0_become 2 = .ok (.getfield 9, 3) := by decide +kernel
theorem dX0_become_5 : decode cX0_become 5 = .ok (.putfield 9, 3) := by decide +kernel
theorem dX0_become_8 : decode cX0_become 8 = .ok (.aload_n 1, 1) := by decide +kernel
theorem dX0_become_9 : decode cX0_become 9 = .ok (.getfield 15, 3) := by decide +kernel
theorem dX0_become_12 : decode cX0_become 12 = .ok (.iconst 0, 1) := by decide +kernel
theorem dX0_become_13 : decode cX0_become 13 = .ok (.aload_n 0, 1) := by decide +kernel
theorem dX0_become_14 : decode cX0_become 14 = .ok (.getfield 15, 3) := by decide +kernel
theorem dX0_become_17 : decode cX0_become 17 = .ok (.iconst 0, 1) := by decide +kernel
theorem dX0_become_18 : decode cX0_become 18 = .ok (.bipush 8, 2) := by decide +kernel
theorem dX0_become_20 : decode cX0_become 20 = .ok (.invokestatic 64, 3) := by decide +kernel
theorem dX0_become_23 : decode cX0_become 23 = .ok (.aload_n 1, 1) := by decide +kernel
theorem dX0_become_24 : decode cX0_become 24 = .ok (.getfield 19, 3) := by decide +kernel
theorem dX0_become_27 : decode cX0_become 27 = .ok (.iconst 0, 1) := by decide +kernel
theorem dX0_become_28 : decode cX0_become 28 = .ok (.aload_n 0, 1) := by decide +kernel
theorem dX0_become_29 : decode cX0_become 29 = .ok (.getfield 19, 3) := by decide +kernel
theorem dX0_become_32 : decode cX0_become 32 = .ok (.iconst 0, 1) := by decide +kernel
theorem dX0_become_33 : decode cX0_become 33 = .ok (.bipush 8, 2) := by decide +kernel
theorem dX0_become_35 : decode cX0_become 35 = .ok (.invokestatic 64, 3) := by decide +kernel
theorem dX0_become_38 : decode cX0_become 38 = .ok (.aload_n 1, 1) := by decide +kernel
theorem dX0_become_39 : decode cX0_become 39 = .ok (.getfield 22, 3) := by decide +kernel
theorem dX0_become_42 : decode cX0_become 42 = .ok (.iconst 0, 1) := by decide +kernel
theorem dX0_become_43 : decode cX0_become 43 = .ok (.aload_n 0, 1) := by decide +kernel
theorem dX0_become_44 : decode cX0_become 44 = .ok (.getfield 22, 3) := by decide +kernel
theorem dX0_become_47 : decode cX0_become 47 = .ok (.iconst 0, 1) := by decide +kernel
theorem dX0_become_48 : decode cX0_become 48 = .ok (.bipush 8, 2) := by decide +kernel
theorem dX0_become_50 : decode cX0_become 50 = .ok (.invokestatic 64, 3) := by decide +kernel
theorem dX0_become_53 : decode cX0_become 53 = .ok (.aload_n 1, 1) := by decide +kernel
theorem dX0_become_54 : decode cX0_become 54 = .ok (.getfield 25, 3) := by decide +kernel
theorem dX0_become_57 : decode cX0_become 57 = .ok (.iconst 0, 1) := by decide +kernel
theorem dX0_become_58 : decode cX0_become 58 = .ok (.aload_n 0, 1) := by decide +kernel
theorem dX0_become_59 : decode cX0_become 59 = .ok (.getfield 25, 3) := by decide +kernel
theorem dX0_become_62 : decode cX0_become 62 = .ok (.iconst 0, 1) := by decide +kernel
theorem dX0_become_63 : decode cX0_become 63 = .ok (.bipush 8, 2) := by decide +kernel
theorem dX0_become_65 : decode cX0_become 65 = .ok (.invokestatic 64, 3) := by decide +kernel
theorem dX0_become_68 : decode cX0_become 68 = .ok (.aload_n 1, 1) := by decide +kernel
theorem dX0_become_69 : decode cX0_become 69 = .ok (.getfield 28, 3) := by decide +kernel
theorem dX0_become_72 : decode cX0_become 72 = .ok (.iconst 0, 1) := by decide +kernel
theorem dX0_become_73 : decode cX0_become 73 = .ok (.aload_n 0, 1) := by decide +kernel
theorem dX0_become_74 : decode cX0_become 74 = .ok (.getfield 28, 3) := by decide +kernel
theorem dX0_become_77 : decode cX0_become 77 = .ok (.iconst 0, 1) := by decide +kernel
theorem dX0_become_78 : decode cX0_become 78 = .ok (.bipush 8, 2) := by decide +kernel
theorem dX0_become_80 : decode cX0_become 80 = .ok (.invokestatic 64, 3) := by decide +kernel
theorem dX0_become_83 : decode cX0_become 83 = .ok (.aload_n 1, 1) := by decide +kernel
theorem dX0_become_84 : decode cX0_become 84 = .ok (.getfield 31, 3) := by decide +kernel
theorem dX0_become_87 : decode cX0_become 87 = .ok (.iconst 0, 1) := by decide +kernel
theorem dX0_become_88 : decode cX0_become 88 = .ok (.aload_n 0, 1) := by decide +kernel
theorem dX0_become_89 : decode cX0_become 89 = .ok (.getfield 31, 3) := by decide +kernel
theorem dX0_become_92 : decode cX0_become 92 = .ok (.iconst 0, 1) := by decide +kernel
theorem dX0_become_93 : decode cX0_become 93 = .ok (.bipush 8, 2) := by decide +kernel
theorem dX0_become_95 : decode cX0_become 95 = .ok (.invokestatic 64, 3) := by decide +kernel
theorem dX0_become_98 : decode cX0_become 98 = .ok (.aload_n 1, 1) := by decide +kernel
theorem dX0_become_99 : decode cX0_become 99 = .ok (.getfield 34, 3) := by decide +kernel
theorem dX0_become_102 : decode cX0_become 102 = .ok (.iconst 0, 1) := by decide +kernel
theorem dX0_become_103 : decode cX0_become 103 = .ok (.aload_n 0, 1) := by decide +kernel
theorem dX0_become_104 : decode cX0_become 104 = .ok (.getfield 34, 3) := by decide +kernel
theorem dX0_become_107 : decode cX0_become 107 = .ok (.iconst 0, 1) := by decide +kernel
theorem dX0_become_108 : decode cX0_become 108 = .ok (.bipush 8, 2) := by decide +kernel
theorem dX0_become_110 : decode cX0_become 110 = .ok (.invokestatic 64, 3) := by decide +kernel
theorem dX0_become_113 : decode cX0_become 113 = .ok (.aload_n 1, 1) := by decide +kernel
theorem dX0_become_114 : decode cX0_become 114 = .ok (.getfield 37, 3) := by decide +kernel
theorem dX0_become_117 : decode cX0_become 117 = .ok (.iconst 0, 1) := by decide +kernel
theorem dX0_become_118 : decode cX0_become 118 = .ok (.aload_n 0, 1) := by decide +kernel
theorem dX0_become_119 : decode cX0_become 119 = .ok (.getfield 37, 3) := by decide +kernel
theorem dX0_become_122 : decode cX0_become 122 = .ok (.iconst 0, 1) := by decide +kernel
theorem dX0_become_123 : decode cX0_become 123 = .ok (.bipush 8, 2) := by decide +kernel
theorem dX0_become_125 : decode cX0_become 125 = .ok (.invokestatic 64, 3) := by decide +kernel
theorem dX0_become_128 : decode cX0_become 128 = .ok (.aload_n 0, 1) := by decide +kernel
theorem dX0_become_129 : decode cX0_become 129 = .ok (.aload_n 1, 1) := by decide +kernel
theorem dX0_become_130 : decode cX0_become 130 = .ok (.getfield 41, 3) := by decide +kernel
theorem dX0_become_133 : decode cX0_become 133 = .ok (.putfield 41, 3) := by decide +kernel
theorem dX0_become_136 : decode cX0_become 136 = .ok (.aload_n 1, 1) := by decide +kernel
theorem dX0_become_137 : decode cX0_become 137 = .ok (.getfield 45, 3) := by decide +kernel
theorem dX0_become_140 : decode cX0_become 140 = .ok (.iconst 0, 1) := by decide +kernel
theorem dX0_become_141 : decode cX0_become 141 = .ok (.aload_n 0, 1) := by decide +kernel
theorem dX0_become_142 : decode cX0_become 142 = .ok (.getfield 45, 3) := by decide +kernel
theorem dX0_become_145 : decode cX0_become 145 = .ok (.iconst 0, 1) := by decide +kernel
theorem dX0_become_146 : decode cX0_become 146 = .ok (.aload_n 0, 1) := by decide +kernel
theorem dX0_become_147 : decode cX0_become 147 = .ok (.getfield 45, 3) := by decide +kernel
theorem dX0_become_150 : decode cX0_become 150 = .ok (.arraylength, 1) := by decide +kernel
theorem dX0_become_151 : decode cX0_become 151 = .ok (.invokestatic 64, 3) := by decide +kernel
theorem dX0_become_154 : decode cX0_become 154 = .ok (.aload_n 0, 1) := by decide +kernel
theorem dX0_become_155 : decode cX0_become 155 = .ok (.aload_n 1, 1) := by decide +kernel
theorem dX0_become_156 : decode cX0_become 156 = .ok (.getfield 48, 3) := by decide +kernel
theorem dX0_become_159 : decode cX0_become 159 = .ok (.putfield 48, 3) := by decide +kernel
theorem dX0_become_162 : decode cX0_become 162 = .ok (.aload_n 0, 1) := by decide +kernel
theorem dX0_become_163 : decode cX0_become 163 = .ok (.aload_n 1, 1) := by decide +kernel
theorem dX0_become_164 : decode cX0_become 164 = .ok (.getfield 51, 3) := by decide +kernel
theorem dX0_become_167 : decode cX0_become 167 = .ok (.putfield 51, 3) := by decide +kernel
theorem dX0_become_170 : decode cX0_become 170 = .ok (.aload_n 0, 1) := by decide +kernel
theorem dX0_become_171 : decode cX0_become 171 = .ok (.getfield 57, 3) := by decide +kernel
theorem dX0_become_174 : decode cX0_become 174 = .ok (.aload_n 1, 1) := by decide +kernel
theorem dX0_become_175 : decode cX0_become 175 = .ok (.getfield 57, 3) := by decide +kernel
theorem dX0_become_178 : decode cX0_become 178 = .ok (.invokevirtual 70, 3) := by decide +kernel
theorem dX0_become_181 : decode cX0_become 181 = .ok (.return_, 1) := by decide +kernel
theorem dX0_has_0 : decode cX0_has 0 = .ok (.iload_n 1, 1) := by decide +kernel
theorem dX0_has_1 : decode cX0_has 1 = .ok (.ifCond .lt 15, 3) := by decide +kernel
theorem dX0_has_4 : decode cX0_has 4 = .ok (.iload_n 1, 1) := by decide +kernel
theorem dX0_has_5 : decode cX0_has 5 = .ok (.aload_n 0, 1) := by decide +kernel
theorem dX0_has_6 : decode cX0_has 6 = .ok (.getfield 9, 3) := by decide +kernel
theorem dX0_has_9 : decode cX0_has 9 = .ok (.if_icmp .ge 7, 3) := by decide +kernel
theorem dX0_has_12 : decode cX0_has 12 = .ok (.iconst 1, 1) := by decide +kernel
theorem dX0_has_13 : decode cX0_has 13 = .ok (.goto 4, 3) := by decide +kernel
theorem dX0_has_16 : decode cX0_has 16 = .ok (.iconst 0, 1) := by decide +kernel
theorem dX0_has_17 : decode cX0_has 17 = .ok (.ireturn, 1) := by decide +kernel
theorem dX0_append_0 : decode cX0_append 0 = .ok (.aload_n 0, 1) := by decide +kernel
theorem dX0_append_1 : decode cX0_append 1 = .ok (.getfield 9, 3) := by decide +kernel
theorem dX0_append_4 : decode cX0_append 4 = .ok (.bipush 8, 2) := by decide +kernel
theorem dX0_append_6 : decode cX0_append 6 = .ok (.if_icmp .lt 6, 3) := by decide +kernel
theorem dX0_append_9 : decode cX0_append 9 = .ok (.bipush (-4), 2) := by decide +kernel
theorem dX0_append_11 : decode cX0_append 11 = .ok (.ireturn, 1) := by decide +kernel
theorem dX0_append_12 : decode cX0_append 12 = .ok (.aload_n 0, 1) := by decide +kernel
theorem dX0_append_13 : decode cX0_append 13 = .ok (.getfield 9, 3) := by decide +kernel
theorem dX0_append_16 : decode cX0_append 16 = .ok (.istore 5, 2) := by decide +kernel
theorem dX0_append_18 : decode cX0_append 18 = .ok (.aload_n 0, 1) := by decide +kernel
theorem dX0_append_19 : decode cX0_append 19 = .ok (.dup, 1) := by decide +kernel
theorem dX0_append_20 : decode cX0_append 20 = .ok (.getfield 9, 3) := by decide +kernel
theorem dX0_append_23 : decode cX0_append 23 = .ok (.iconst 1, 1) := by decide +kernel
theorem dX0_append_24 : decode cX0_append 24 = .ok (.iadd, 1) := by decide +kernel
theorem dX0_append_25 : decode cX0_append 25 = .ok (.putfield 9, 3) := by decide +kernel
theorem dX0_append_28 : decode cX0_append 28 = .ok (.aload_n 0, 1) := by decide +kernel
theorem dX0_append_29 : decode cX0_append 29 = .ok (.getfield 15, 3) := by decide +kernel
theorem dX0_append_32 : decode cX0_append 32 = .ok (.iload 5, 2) := by decide +kernel
theorem dX0_append_34 : decode cX0_append 34 = .ok (.iload_n 1, 1) := by decide +kernel
theorem dX0_append_35 : decode cX0_append 35 = .ok (.iastore, 1) := by decide +kernel
theorem dX0_append_36 : decode cX0_append 36 = .ok (.aload_n 0, 1) := by decide +kernel
theorem dX0_append_37 : decode cX0_append 37 = .ok (.getfield 19, 3) := by decide +kernel
theorem dX0_append_40 : decode cX0_append 40 = .ok (.iload 5, 2) := by decide +kernel
theorem dX0_append_42 : decode cX0_append 42 = .ok (.iload_n 2, 1) := by decide +kernel
theorem dX0_append_43 : decode cX0_append 43 = .ok (.iastore, 1) := by decide +kernel
theorem dX0_append_44 : decode cX0_append 44 = .ok (.aload_n 0, 1) := by decide +kernel
theorem dX0_append_45 : decode cX0_append 45 = .ok (.getfield 22, 3) := by decide +kernel
theorem dX0_append_48 : decode cX0_append 48 = .ok (.iload 5, 2) := by decide +kernel
theorem dX0_append_50 : decode cX0_append 50 = .ok (.iload_n 3, 1) := by decide +kernel
theorem dX0_append_51 : decode cX0_append 51 = .ok (.iastore, 1) := by decide +kernel
theorem dX0_append_52 : decode cX0_append 52 = .ok (.aload_n 0, 1) := by decide +kernel
theorem dX0_append_53 : decode cX0_append 53 = .ok (.getfield 25, 3) := by decide +kernel
theorem dX0_append_56 : decode cX0_append 56 = .ok (.iload 5, 2) := by decide +kernel
theorem dX0_append_58 : decode cX0_append 58 = .ok (.iconst 0, 1) := by decide +kernel
theorem dX0_append_59 : decode cX0_append 59 = .ok (.iastore, 1) := by decide +kernel
theorem dX0_append_60 : decode cX0_append 60 = .ok (.aload_n 0, 1) := by decide +kernel
theorem dX0_append_61 : decode cX0_append 61 = .ok (.getfield 37, 3) := by decide +kernel
theorem dX0_append_64 : decode cX0_append 64 = .ok (.iload 5, 2) := by decide +kernel
theorem dX0_append_66 : decode cX0_append 66 = .ok (.iload 4, 2) := by decide +kernel
theorem dX0_append_68 : decode cX0_append 68 = .ok (.i2l, 1) := by decide +kernel
theorem dX0_append_69 : decode cX0_append 69 = .ok (.aload_n 0, 1) := by decide +kernel
theorem dX0_append_70 : decode cX0_append 70 = .ok (.getfield 41, 3) := by decide +kernel
theorem dX0_append_73 : decode cX0_append 73 = .ok (.lmul, 1) := by decide +kernel
theorem dX0_append_74 : decode cX0_append 74 = .ok (.lastore, 1) := by decide +kernel
theorem dX0_append_75 : decode cX0_append 75 = .ok (.aload_n 0, 1) := by decide +kernel
theorem dX0_append_76 : decode cX0_append 76 = .ok (.iload 5, 2) := by decide +kernel
theorem dX0_append_78 : decode cX0_append 78 = .ok (.invokevirtual 74, 3) := by decide +kernel
theorem dX0_append_81 : decode cX0_append 81 = .ok (.iload 5, 2) := by decide +kernel
theorem dX0_append_83 : decode cX0_append 83 = .ok (.ireturn, 1) := by decide +kernel
theorem dX0_make_0 : decode cX0_make 0 = .ok (.aload_n 0, 1) := by decide +kernel
theorem dX0_make_1 : decode cX0_make 1 = .ok (.getfield 28, 3) := by decide +kernel
theorem dX0_make_4 : decode cX0_make 4 = .ok (.iload_n 1, 1) := by decide +kernel
theorem dX0_make_5 : decode cX0_make 5 = .ok (.aload_n 0, 1) := by decide +kernel
theorem dX0_make_6 : decode cX0_make 6 = .ok (.getfield 15, 3) := by decide +kernel
theorem dX0_make_9 : decode cX0_make 9 = .ok (.iload_n 1, 1) := by decide +kernel
theorem dX0_make_10 : decode cX0_make 10 = .ok (.iaload, 1) := by decide +kernel
theorem dX0_make_11 : decode cX0_make 11 = .ok (.aload_n 0, 1) := by decide +kernel
theorem dX0_make_12 : decode cX0_make 12 = .ok (.getfield 19, 3) := by decide +kernel
theorem dX0_make_15 : decode cX0_make 15 = .ok (.iload_n 1, 1) := by decide +kernel
theorem dX0_make_16 : decode cX0_make 16 = .ok (.iaload, 1) := by decide +kernel
theorem dX0_make_17 : decode cX0_make 17 = .ok (.invokestatic 78, 3) := by decide +kernel
theorem dX0_make_20 : decode cX0_make 20 = .ok (.iastore, 1) := by decide +kernel
theorem dX0_make_21 : decode cX0_make 21 = .ok (.aload_n 0, 1) := by decide +kernel
theorem dX0_make_22 : decode cX0_make 22 = .ok (.getfield 31, 3) := by decide +kernel
theorem dX0_make_25 : decode cX0_make 25 = .ok (.iload_n 1, 1) := by decide +kernel
theorem dX0_make_26 : decode cX0_make 26 = .ok (.aload_n 0, 1) := by decide +kernel
theorem dX0_make_27 : decode cX0_make 27 = .ok (.getfield 15, 3) := by decide +kernel
theorem dX0_make_30 : decode cX0_make 30 = .ok (.iload_n 1, 1) := by decide +kernel
theorem dX0_make_31 : decode cX0_make 31 = .ok (.iaload, 1) := by decide +kernel
theorem dX0_make_32 : decode cX0_make 32 = .ok (.aload_n 0, 1) := by decide +kernel
theorem dX0_make_33 : decode cX0_make 33 = .ok (.getfield 22, 3) := by decide +kernel
theorem dX0_make_36 : decode cX0_make 36 = .ok (.iload_n 1, 1) := by decide +kernel
theorem dX0_make_37 : decode cX0_make 37 = .ok (.iaload, 1) := by decide +kernel
theorem dX0_make_38 : decode cX0_make 38 = .ok (.invokestatic 84, 3) := by decide +kernel
theorem dX0_make_41 : decode cX0_make 41 = .ok (.iastore, 1) := by decide +kernel
theorem dX0_make_42 : decode cX0_make 42 = .ok (.aload_n 0, 1) := by decide +kernel
theorem dX0_make_43 : decode cX0_make 43 = .ok (.getfield 34, 3) := by decide +kernel
theorem dX0_make_46 : decode cX0_make 46 = .ok (.iload_n 1, 1) := by decide +kernel
theorem dX0_make_47 : decode cX0_make 47 = .ok (.aload_n 0, 1) := by decide +kernel
theorem dX0_make_48 : decode cX0_make 48 = .ok (.getfield 15, 3) := by decide +kernel
theorem dX0_make_51 : decode cX0_make 51 = .ok (.iload_n 1, 1) := by decide +kernel
theorem dX0_make_52 : decode cX0_make 52 = .ok (.iaload, 1) := by decide +kernel
theorem dX0_make_53 : decode cX0_make 53 = .ok (.invokestatic 87, 3) := by decide +kernel
theorem dX0_make_56 : decode cX0_make 56 = .ok (.iastore, 1) := by decide +kernel
theorem dX0_make_57 : decode cX0_make 57 = .ok (.return_, 1) := by decide +kernel
theorem dX0_removeLatest_0 : decode cX0_removeLatest 0 = .ok (.aload_n 0, 1) := by decide +kernel
theorem dX0_removeLatest_1 : decode cX0_removeLatest 1 = .ok (.getfield 9, 3) := by decide +kernel
theorem dX0_removeLatest_4 : decode cX0_removeLatest 4 = .ok (.ifCond .le 41, 3) := by decide +kernel
theorem dX0_removeLatest_7 : decode cX0_removeLatest 7 = .ok (.aload_n 0, 1) := by decide +kernel
theorem dX0_removeLatest_8 : decode cX0_removeLatest 8 = .ok (.dup, 1) := by decide +kernel
theorem dX0_removeLatest_9 : decode cX0_removeLatest 9 = .ok (.getfield 9, 3) := by decide +kernel
theorem dX0_removeLatest_12 : decode cX0_removeLatest 12 = .ok (.iconst 1, 1) := by decide +kernel
theorem dX0_removeLatest_13 : decode cX0_removeLatest 13 = .ok (.isub, 1) := by decide +kernel
theorem dX0_removeLatest_14 : decode cX0_removeLatest 14 = .ok (.putfield 9, 3) := by decide +kernel
theorem dX0_removeLatest_17 : decode cX0_removeLatest 17 = .ok (.aload_n 0, 1) := by decide +kernel
theorem dX0_removeLatest_18 : decode cX0_removeLatest 18 = .ok (.getfield 57, 3) := by decide +kernel
theorem dX0_removeLatest_21 : decode cX0_removeLatest 21 = .ok (.aload_n 0, 1) := by decide +kernel
theorem dX0_removeLatest_22 : decode cX0_removeLatest 22 = .ok (.getfield 9, 3) := by decide +kernel
theorem dX0_removeLatest_25 : decode cX0_removeLatest 25 = .ok (.invokevirtual 91, 3) := by decide +kernel
theorem dX0_removeLatest_28 : decode cX0_removeLatest 28 = .ok (.pop, 1) := by decide +kernel
theorem dX0_removeLatest_29 : decode cX0_removeLatest 29 = .ok (.aload_n 0, 1) := by decide +kernel
theorem dX0_removeLatest_30 : decode cX0_removeLatest 30 = .ok (.aload_n 0, 1) := by decide +kernel
theorem dX0_removeLatest_31 : decode cX0_removeLatest 31 = .ok (.aload_n 0, 1) := by decide +kernel
theorem dX0_removeLatest_32 : decode cX0_removeLatest 32 = .ok (.getfield 37, 3) := by decide +kernel
theorem dX0_removeLatest_35 : decode cX0_removeLatest 35 = .ok (.aload_n 0, 1) := by decide +kernel
theorem dX0_removeLatest_36 : decode cX0_removeLatest 36 = .ok (.getfield 41, 3) := by decide +kernel
theorem dX0_removeLatest_39 : decode cX0_removeLatest 39 = .ok (.invokevirtual 94, 3) := by decide +kernel
theorem dX0_removeLatest_42 : decode cX0_removeLatest 42 = .ok (.putfield 41, 3) := by decide +kernel
theorem dX0_removeLatest_45 : decode cX0_removeLatest 45 = .ok (.return_, 1) := by decide +kernel
theorem dX0_changeKind_0 : decode cX0_changeKind 0 = .ok (.aload_n 0, 1) := by decide +kernel
theorem dX0_changeKind_1 : decode cX0_changeKind 1 = .ok (.getfield 15, 3) := by decide +kernel
theorem dX0_changeKind_4 : decode cX0_changeKind 4 = .ok (.iload_n 1, 1) := by decide +kernel
theorem dX0_changeKind_5 : decode cX0_changeKind 5 = .ok (.iaload, 1) := by decide +kernel
theorem dX0_changeKind_6 : decode cX0_changeKind 6 = .ok (.istore_n 3, 1) := by decide +kernel
theorem dX0_changeKind_7 : decode cX0_changeKind 7 = .ok (.aload_n 0, 1) := by decide +kernel
theorem dX0_changeKind_8 : decode cX0_changeKind 8 = .ok (.getfield 15, 3) := by decide +kernel
theorem dX0_changeKind_11 : decode cX0_changeKind 11 = .ok (.iload_n 1, 1) := by decide +kernel
theorem dX0_changeKind_12 : decode cX0_changeKind 12 = .ok (.iload_n 2, 1) := by decide +kernel
theorem dX0_changeKind_13 : decode cX0_changeKind 13 = .ok (.iastore, 1) := by decide +kernel
theorem dX0_changeKind_14 : decode cX0_changeKind 14 = .ok (.aload_n 0, 1) := by decide +kernel
theorem dX0_changeKind_15 : decode cX0_changeKind 15 = .ok (.iload_n 1, 1) := by decide +kernel
theorem dX0_changeKind_16 : decode cX0_changeKind 16 = .ok (.invokevirtual 74, 3) := by decide +kernel
theorem dX0_changeKind_19 : decode cX0_changeKind 19 = .ok (.iload_n 3, 1) := by decide +kernel
theorem dX0_changeKind_20 : decode cX0_changeKind 20 = .ok (.ireturn, 1) := by decide +kernel
theorem dX0_changeK_0 : decode cX0_changeK 0 = .ok (.aload_n 0, 1) := by decide +kernel
theorem dX0_changeK_1 : decode cX0_changeK 1 = .ok (.getfield 19, 3) := by decide +kernel
theorem dX0_changeK_4 : decode cX0_changeK 4 = .ok (.iload_n 1, 1) := by decide +kernel
theorem dX0_changeK_5 : decode cX0_changeK 5 = .ok (.iaload, 1) := by decide +kernel
theorem dX0_changeK_6 : decode cX0_changeK 6 = .ok (.istore_n 3, 1) := by decide +kernel
theorem dX0_changeK_7 : decode cX0_changeK 7 = .ok (.aload_n 0, 1) := by decide +kernel
theorem dX0_changeK_8 : decode cX0_changeK 8 = .ok (.getfield 19, 3) := by decide +kernel
theorem dX0_changeK_11 : decode cX0_changeK 11 = .ok (.iload_n 1, 1) := by decide +kernel
theorem dX0_changeK_12 : decode cX0_changeK 12 = .ok (.iload_n 2, 1) := by decide +kernel
theorem dX0_changeK_13 : decode cX0_changeK 13 = .ok (.iastore, 1) := by decide +kernel
theorem dX0_changeK_14 : decode cX0_changeK 14 = .ok (.aload_n 0, 1) := by decide +kernel
theorem dX0_changeK_15 : decode cX0_changeK 15 = .ok (.iload_n 1, 1) := by decide +kernel
theorem dX0_changeK_16 : decode cX0_changeK 16 = .ok (.invokevirtual 74, 3) := by decide +kernel
theorem dX0_changeK_19 : decode cX0_changeK 19 = .ok (.iload_n 3, 1) := by decide +kernel
theorem dX0_changeK_20 : decode cX0_changeK 20 = .ok (.ireturn, 1) := by decide +kernel
theorem dX0_changeC_0 : decode cX0_changeC 0 = .ok (.aload_n 0, 1) := by decide +kernel
theorem dX0_changeC_1 : decode cX0_changeC 1 = .ok (.getfield 22, 3) := by decide +kernel
theorem dX0_changeC_4 : decode cX0_changeC 4 = .ok (.iload_n 1, 1) := by decide +kernel
theorem dX0_changeC_5 : decode cX0_changeC 5 = .ok (.iaload, 1) := by decide +kernel
theorem dX0_changeC_6 : decode cX0_changeC 6 = .ok (.istore_n 3, 1) := by decide +kernel
theorem dX0_changeC_7 : decode cX0_changeC 7 = .ok (.aload_n 0, 1) := by decide +kernel
theorem dX0_changeC_8 : decode cX0_changeC 8 = .ok (.getfield 22, 3) := by decide +kernel
theorem dX0_changeC_11 : decode cX0_changeC 11 = .ok (.iload_n 1, 1) := by decide +kernel
theorem dX0_changeC_12 : decode cX0_changeC 12 = .ok (.iload_n 2, 1) := by decide +kernel
theorem dX0_changeC_13 : decode cX0_changeC 13 = .ok (.iastore, 1) := by decide +kernel
theorem dX0_changeC_14 : decode cX0_changeC 14 = .ok (.aload_n 0, 1) := by decide +kernel
theorem dX0_changeC_15 : decode cX0_changeC 15 = .ok (.iload_n 1, 1) := by decide +kernel
theorem dX0_changeC_16 : decode cX0_changeC 16 = .ok (.invokevirtual 74, 3) := by decide +kernel
theorem dX0_changeC_19 : decode cX0_changeC 19 = .ok (.iload_n 3, 1) := by decide +kernel
theorem dX0_changeC_20 : decode cX0_changeC 20 = .ok (.ireturn, 1) := by decide +kernel
theorem dX0_changeSource_0 : decode cX0_changeSource 0 = .ok (.aload_n 0, 1) := by decide +kernel
theorem dX0_changeSource_1 : decode cX0_changeSource 1 = .ok (.getfield 25, 3) := by decide +kernel
theorem dX0_changeSource_4 : decode cX0_changeSource 4 = .ok (.iload_n 1, 1) := by decide +kernel
theorem dX0_changeSource_5 : decode cX0_changeSource 5 = .ok (.iaload, 1) := by decide +kernel
theorem dX0_changeSource_6 : decode cX0_changeSource 6 = .ok (.istore_n 3, 1) := by decide +kernel
theorem dX0_changeSource_7 : decode cX0_changeSource 7 = .ok (.aload_n 0, 1) := by decide +kernel
theorem dX0_changeSource_8 : decode cX0_changeSource 8 = .ok (.getfield 25, 3) := by decide +kernel
theorem dX0_changeSource_11 : decode cX0_changeSource 11 = .ok (.iload_n 1, 1) := by decide +kernel
theorem dX0_changeSource_12 : decode cX0_changeSource 12 = .ok (.iload_n 2, 1) := by decide +kernel
theorem dX0_changeSource_13 : decode cX0_changeSource 13 = .ok (.iastore, 1) := by decide +kernel
theorem dX0_changeSource_14 : decode cX0_changeSource 14 = .ok (.iload_n 3, 1) := by decide +kernel
theorem dX0_changeSource_15 : decode cX0_changeSource 15 = .ok (.ireturn, 1) := by decide +kernel
theorem dX0_changeHeat_0 : decode cX0_changeHeat 0 = .ok (.aload_n 0, 1) := by decide +kernel
theorem dX0_changeHeat_1 : decode cX0_changeHeat 1 = .ok (.getfield 37, 3) := by decide +kernel
theorem dX0_changeHeat_4 : decode cX0_changeHeat 4 = .ok (.iload_n 1, 1) := by decide +kernel
theorem dX0_changeHeat_5 : decode cX0_changeHeat 5 = .ok (.iload_n 2, 1) := by decide +kernel
theorem dX0_changeHeat_6 : decode cX0_changeHeat 6 = .ok (.i2l, 1) := by decide +kernel
theorem dX0_changeHeat_7 : decode cX0_changeHeat 7 = .ok (.aload_n 0, 1) := by decide +kernel
theorem dX0_changeHeat_8 : decode cX0_changeHeat 8 = .ok (.getfield 41, 3) := by decide +kernel
theorem dX0_changeHeat_11 : decode cX0_changeHeat 11 = .ok (.lmul, 1) := by decide +kernel
theorem dX0_changeHeat_12 : decode cX0_changeHeat 12 = .ok (.lastore, 1) := by decide +kernel
theorem dX0_changeHeat_13 : decode cX0_changeHeat 13 = .ok (.aload_n 0, 1) := by decide +kernel
theorem dX0_changeHeat_14 : decode cX0_changeHeat 14 = .ok (.aload_n 0, 1) := by decide +kernel
theorem dX0_changeHeat_15 : decode cX0_changeHeat 15 = .ok (.aload_n 0, 1) := by decide +kernel
theorem dX0_changeHeat_16 : decode cX0_changeHeat 16 = .ok (.getfield 37, 3) := by decide +kernel
theorem dX0_changeHeat_19 : decode cX0_changeHeat 19 = .ok (.aload_n 0, 1) := by decide +kernel
theorem dX0_changeHeat_20 : decode cX0_changeHeat 20 = .ok (.getfield 41, 3) := by decide +kernel
theorem dX0_changeHeat_23 : decode cX0_changeHeat 23 = .ok (.invokevirtual 94, 3) := by decide +kernel
theorem dX0_changeHeat_26 : decode cX0_changeHeat 26 = .ok (.putfield 41, 3) := by decide +kernel
theorem dX0_changeHeat_29 : decode cX0_changeHeat 29 = .ok (.return_, 1) := by decide +kernel
theorem dX0_warm_0 : decode cX0_warm 0 = .ok (.aload_n 0, 1) := by decide +kernel
theorem dX0_warm_1 : decode cX0_warm 1 = .ok (.getfield 37, 3) := by decide +kernel
theorem dX0_warm_4 : decode cX0_warm 4 = .ok (.iload_n 1, 1) := by decide +kernel
theorem dX0_warm_5 : decode cX0_warm 5 = .ok (.dup2, 1) := by decide +kernel
theorem dX0_warm_6 : decode cX0_warm 6 = .ok (.laload, 1) := by decide +kernel
theorem dX0_warm_7 : decode cX0_warm 7 = .ok (.iload_n 2, 1) := by decide +kernel
theorem dX0_warm_8 : decode cX0_warm 8 = .ok (.i2l, 1) := by decide +kernel
theorem dX0_warm_9 : decode cX0_warm 9 = .ok (.aload_n 0, 1) := by decide +kernel
theorem dX0_warm_10 : decode cX0_warm 10 = .ok (.getfield 41, 3) := by decide +kernel
theorem dX0_warm_13 : decode cX0_warm 13 = .ok (.lmul, 1) := by decide +kernel
theorem dX0_warm_14 : decode cX0_warm 14 = .ok (.ladd, 1) := by decide +kernel
theorem dX0_warm_15 : decode cX0_warm 15 = .ok (.lastore, 1) := by decide +kernel
theorem dX0_warm_16 : decode cX0_warm 16 = .ok (.return_, 1) := by decide +kernel
theorem dX0_hottestCell_0 : decode cX0_hottestCell 0 = .ok (.aload_n 0, 1) := by decide +kernel
theorem dX0_hottestCell_1 : decode cX0_hottestCell 1 = .ok (.getfield 37, 3) := by decide +kernel
theorem dX0_hottestCell_4 : decode cX0_hottestCell 4 = .ok (.aload_n 0, 1) := by decide +kernel
theorem dX0_hottestCell_5 : decode cX0_hottestCell 5 = .ok (.getfield 9, 3) := by decide +kernel
theorem dX0_hottestCell_8 : decode cX0_hottestCell 8 = .ok (.invokestatic 98, 3) := by decide +kernel
theorem dX0_hottestCell_11 : decode cX0_hottestCell 11 = .ok (.ireturn, 1) := by decide +kernel
theorem dX0_coldestCell_0 : decode cX0_coldestCell 0 = .ok (.iconst (-1), 1) := by decide +kernel
theorem dX0_coldestCell_1 : decode cX0_coldestCell 1 = .ok (.istore_n 1, 1) := by decide +kernel
theorem dX0_coldestCell_2 : decode cX0_coldestCell 2 = .ok (.iconst 0, 1) := by decide +kernel
theorem dX0_coldestCell_3 : decode cX0_coldestCell 3 = .ok (.istore_n 2, 1) := by decide +kernel
theorem dX0_coldestCell_4 : decode cX0_coldestCell 4 = .ok (.iload_n 2, 1) := by decide +kernel
theorem dX0_coldestCell_5 : decode cX0_coldestCell 5 = .ok (.aload_n 0, 1) := by decide +kernel
theorem dX0_coldestCell_6 : decode cX0_coldestCell 6 = .ok (.getfield 9, 3) := by decide +kernel
theorem dX0_coldestCell_9 : decode cX0_coldestCell 9 = .ok (.if_icmp .ge 32, 3) := by decide +kernel
theorem dX0_coldestCell_12 : decode cX0_coldestCell 12 = .ok (.iload_n 1, 1) := by decide +kernel
theorem dX0_coldestCell_13 : decode cX0_coldestCell 13 = .ok (.iconst (-1), 1) := by decide +kernel
theorem dX0_coldestCell_14 : decode cX0_coldestCell 14 = .ok (.if_icmp .eq 19, 3) := by decide +kernel
theorem dX0_coldestCell_17 : decode cX0_coldestCell 17 = .ok (.aload_n 0, 1) := by decide +kernel
theorem dX0_coldestCell_18 : decode cX0_coldestCell 18 = .ok (.getfield 37, 3) := by decide +kernel
theorem dX0_coldestCell_21 : decode cX0_coldestCell 21 = .ok (.iload_n 2, 1) := by decide +kernel
theorem dX0_coldestCell_22 : decode cX0_coldestCell 22 = .ok (.laload, 1) := by decide +kernel
theorem dX0_coldestCell_23 : decode cX0_coldestCell 23 = .ok (.aload_n 0, 1) := by decide +kernel
theorem dX0_coldestCell_24 : decode cX0_coldestCell 24 = .ok (.getfield 37, 3) := by decide +kernel
theorem dX0_coldestCell_27 : decode cX0_coldestCell 27 = .ok (.iload_n 1, 1) := by decide +kernel
theorem dX0_coldestCell_28 : decode cX0_coldestCell 28 = .ok (.laload, 1) := by decide +kernel
theorem dX0_coldestCell_29 : decode cX0_coldestCell 29 = .ok (.lcmp, 1) := by decide +kernel
theorem dX0_coldestCell_30 : decode cX0_coldestCell 30 = .ok (.ifCond .ge 5, 3) := by decide +kernel
theorem dX0_coldestCell_33 : decode cX0_coldestCell 33 = .ok (.iload_n 2, 1) := by decide +kernel
theorem dX0_coldestCell_34 : decode cX0_coldestCell 34 = .ok (.istore_n 1, 1) := by decide +kernel
theorem dX0_coldestCell_35 : decode cX0_coldestCell 35 = .ok (.iinc 2 1, 3) := by decide +kernel
theorem dX0_coldestCell_38 : decode cX0_coldestCell 38 = .ok (.goto (-34), 3) := by decide +kernel
theorem dX0_coldestCell_41 : decode cX0_coldestCell 41 = .ok (.iload_n 1, 1) := by decide +kernel
theorem dX0_coldestCell_42 : decode cX0_coldestCell 42 = .ok (.ireturn, 1) := by decide +kernel
theorem dX0_greatest_0 : decode cX0_greatest 0 = .ok (.aload_n 0, 1) := by decide +kernel
theorem dX0_greatest_1 : decode cX0_greatest 1 = .ok (.invokevirtual 102, 3) := by decide +kernel
theorem dX0_greatest_4 : decode cX0_greatest 4 = .ok (.istore_n 1, 1) := by decide +kernel
theorem dX0_greatest_5 : decode cX0_greatest 5 = .ok (.iload_n 1, 1) := by decide +kernel
theorem dX0_greatest_6 : decode cX0_greatest 6 = .ok (.iconst (-1), 1) := by decide +kernel
theorem dX0_greatest_7 : decode cX0_greatest 7 = .ok (.if_icmp .ne 7, 3) := by decide +kernel
theorem dX0_greatest_10 : decode cX0_greatest 10 = .ok (.lconst 0, 1) := by decide +kernel
theorem dX0_greatest_11 : decode cX0_greatest 11 = .ok (.goto 9, 3) := by decide +kernel
theorem dX0_greatest_14 : decode cX0_greatest 14 = .ok (.aload_n 0, 1) := by decide +kernel
theorem dX0_greatest_15 : decode cX0_greatest 15 = .ok (.getfield 37, 3) := by decide +kernel
theorem dX0_greatest_18 : decode cX0_greatest 18 = .ok (.iload_n 1, 1) := by decide +kernel
theorem dX0_greatest_19 : decode cX0_greatest 19 = .ok (.laload, 1) := by decide +kernel
theorem dX0_greatest_20 : decode cX0_greatest 20 = .ok (.lreturn, 1) := by decide +kernel
theorem dX0_least_0 : decode cX0_least 0 = .ok (.aload_n 0, 1) := by decide +kernel
theorem dX0_least_1 : decode cX0_least 1 = .ok (.invokevirtual 106, 3) := by decide +kernel
theorem dX0_least_4 : decode cX0_least 4 = .ok (.istore_n 1, 1) := by decide +kernel
theorem dX0_least_5 : decode cX0_least 5 = .ok (.iload_n 1, 1) := by decide +kernel
theorem dX0_least_6 : decode cX0_least 6 = .ok (.iconst (-1), 1) := by decide +kernel
theorem dX0_least_7 : decode cX0_least 7 = .ok (.if_icmp .ne 7, 3) := by decide +kernel
theorem dX0_least_10 : decode cX0_least 10 = .ok (.lconst 0, 1) := by decide +kernel
theorem dX0_least_11 : decode cX0_least 11 = .ok (.goto 9, 3) := by decide +kernel
theorem dX0_least_14 : decode cX0_least 14 = .ok (.aload_n 0, 1) := by decide +kernel
theorem dX0_least_15 : decode cX0_least 15 = .ok (.getfield 37, 3) := by decide +kernel
theorem dX0_least_18 : decode cX0_least 18 = .ok (.iload_n 1, 1) := by decide +kernel
theorem dX0_least_19 : decode cX0_least 19 = .ok (.laload, 1) := by decide +kernel
theorem dX0_least_20 : decode cX0_least 20 = .ok (.lreturn, 1) := by decide +kernel
theorem dX0_hasJoint_0 : decode cX0_hasJoint 0 = .ok (.aload_n 0, 1) := by decide +kernel
theorem dX0_hasJoint_1 : decode cX0_hasJoint 1 = .ok (.getfield 9, 3) := by decide +kernel
theorem dX0_hasJoint_4 : decode cX0_hasJoint 4 = .ok (.ifCond .le 20, 3) := by decide +kernel
theorem dX0_hasJoint_7 : decode cX0_hasJoint 7 = .ok (.iload_n 1, 1) := by decide +kernel
theorem dX0_hasJoint_8 : decode cX0_hasJoint 8 = .ok (.iconst (-1), 1) := by decide +kernel
theorem dX0_hasJoint_9 : decode cX0_hasJoint 9 = .ok (.if_icmp .lt 15, 3) := by decide +kernel
theorem dX0_hasJoint_12 : decode cX0_hasJoint 12 = .ok (.iload_n 1, 1) := by decide +kernel
theorem dX0_hasJoint_13 : decode cX0_hasJoint 13 = .ok (.aload_n 0, 1) := by decide +kernel
theorem dX0_hasJoint_14 : decode cX0_hasJoint 14 = .ok (.getfield 9, 3) := by decide +kernel
theorem dX0_hasJoint_17 : decode cX0_hasJoint 17 = .ok (.if_icmp .ge 7, 3) := by decide +kernel
theorem dX0_hasJoint_20 : decode cX0_hasJoint 20 = .ok (.iconst 1, 1) := by decide +kernel
theorem dX0_hasJoint_21 : decode cX0_hasJoint 21 = .ok (.goto 4, 3) := by decide +kernel
theorem dX0_hasJoint_24 : decode cX0_hasJoint 24 = .ok (.iconst 0, 1) := by decide +kernel
theorem dX0_hasJoint_25 : decode cX0_hasJoint 25 = .ok (.ireturn, 1) := by decide +kernel
theorem dX0_leads_0 : decode cX0_leads 0 = .ok (.aload_n 0, 1) := by decide +kernel
theorem dX0_leads_1 : decode cX0_leads 1 = .ok (.iload_n 1, 1) := by decide +kernel
theorem dX0_leads_2 : decode cX0_leads 2 = .ok (.invokevirtual 109, 3) := by decide +kernel
theorem dX0_leads_5 : decode cX0_leads 5 = .ok (.ifCond .ne 6, 3) := by decide +kernel
theorem dX0_leads_8 : decode cX0_leads 8 = .ok (.bipush (-2), 2) := by decide +kernel
theorem dX0_leads_10 : decode cX0_leads 10 = .ok (.ireturn, 1) := by decide +kernel
theorem dX0_leads_11 : decode cX0_leads 11 = .ok (.iload_n 1, 1) := by decide +kernel
theorem dX0_leads_12 : decode cX0_leads 12 = .ok (.ifCond .ge 24, 3) := by decide +kernel
theorem dX0_leads_15 : decode cX0_leads 15 = .ok (.aload_n 0, 1) := by decide +kernel
theorem dX0_leads_16 : decode cX0_leads 16 = .ok (.getfield 45, 3) := by decide +kernel
theorem dX0_leads_19 : decode cX0_leads 19 = .ok (.iconst 0, 1) := by decide +kernel
theorem dX0_leads_20 : decode cX0_leads 20 = .ok (.iaload, 1) := by decide +kernel
theorem dX0_leads_21 : decode cX0_leads 21 = .ok (.iconst (-1), 1) := by decide +kernel
theorem dX0_leads_22 : decode cX0_leads 22 = .ok (.if_icmp .ne 7, 3) := by decide +kernel
theorem dX0_leads_25 : decode cX0_leads 25 = .ok (.iconst 0, 1) := by decide +kernel
theorem dX0_leads_26 : decode cX0_leads 26 = .ok (.goto 9, 3) := by decide +kernel
theorem dX0_leads_29 : decode cX0_leads 29 = .ok (.aload_n 0, 1) := by decide +kernel
theorem dX0_leads_30 : decode cX0_leads 30 = .ok (.getfield 28, 3) := by decide +kernel
theorem dX0_leads_33 : decode cX0_leads 33 = .ok (.iconst 0, 1) := by decide +kernel
theorem dX0_leads_34 : decode cX0_leads 34 = .ok (.iaload, 1) := by decide +kernel
theorem dX0_leads_35 : decode cX0_leads 35 = .ok (.ireturn, 1) := by decide +kernel
theorem dX0_leads_36 : decode cX0_leads 36 = .ok (.iload_n 1, 1) := by decide +kernel
theorem dX0_leads_37 : decode cX0_leads 37 = .ok (.aload_n 0, 1) := by decide +kernel
theorem dX0_leads_38 : decode cX0_leads 38 = .ok (.getfield 9, 3) := by decide +kernel
theorem dX0_leads_41 : decode cX0_leads 41 = .ok (.iconst 1, 1) := by decide +kernel
theorem dX0_leads_42 : decode cX0_leads 42 = .ok (.isub, 1) := by decide +kernel
theorem dX0_leads_43 : decode cX0_leads 43 = .ok (.if_icmp .ne 24, 3) := by decide +kernel
theorem dX0_leads_46 : decode cX0_leads 46 = .ok (.aload_n 0, 1) := by decide +kernel
theorem dX0_leads_47 : decode cX0_leads 47 = .ok (.getfield 45, 3) := by decide +kernel
theorem dX0_leads_50 : decode cX0_leads 50 = .ok (.iconst 1, 1) := by decide +kernel
theorem dX0_leads_51 : decode cX0_leads 51 = .ok (.iaload, 1) := by decide +kernel
theorem dX0_leads_52 : decode cX0_leads 52 = .ok (.iconst (-1), 1) := by decide +kernel
theorem dX0_leads_53 : decode cX0_leads 53 = .ok (.if_icmp .ne 7, 3) := by decide +kernel
theorem dX0_leads_56 : decode cX0_leads 56 = .ok (.iconst 0, 1) := by decide +kernel
theorem dX0_leads_57 : decode cX0_leads 57 = .ok (.goto 9, 3) := by decide +kernel
theorem dX0_leads_60 : decode cX0_leads 60 = .ok (.aload_n 0, 1) := by decide +kernel
theorem dX0_leads_61 : decode cX0_leads 61 = .ok (.getfield 28, 3) := by decide +kernel
theorem dX0_leads_64 : decode cX0_leads 64 = .ok (.iload_n 1, 1) := by decide +kernel
theorem dX0_leads_65 : decode cX0_leads 65 = .ok (.iaload, 1) := by decide +kernel
theorem dX0_leads_66 : decode cX0_leads 66 = .ok (.ireturn, 1) := by decide +kernel
theorem dX0_leads_67 : decode cX0_leads 67 = .ok (.aload_n 0, 1) := by decide +kernel
theorem dX0_leads_68 : decode cX0_leads 68 = .ok (.getfield 28, 3) := by decide +kernel
theorem dX0_leads_71 : decode cX0_leads 71 = .ok (.iload_n 1, 1) := by decide +kernel
theorem dX0_leads_72 : decode cX0_leads 72 = .ok (.iaload, 1) := by decide +kernel
theorem dX0_leads_73 : decode cX0_leads 73 = .ok (.aload_n 0, 1) := by decide +kernel
theorem dX0_leads_74 : decode cX0_leads 74 = .ok (.getfield 28, 3) := by decide +kernel
theorem dX0_leads_77 : decode cX0_leads 77 = .ok (.iload_n 1, 1) := by decide +kernel
theorem dX0_leads_78 : decode cX0_leads 78 = .ok (.iconst 1, 1) := by decide +kernel
theorem dX0_leads_79 : decode cX0_leads 79 = .ok (.iadd, 1) := by decide +kernel
theorem dX0_leads_80 : decode cX0_leads 80 = .ok (.iaload, 1) := by decide +kernel
theorem dX0_leads_81 : decode cX0_leads 81 = .ok (.invokestatic 113, 3) := by decide +kernel
theorem dX0_leads_84 : decode cX0_leads 84 = .ok (.ireturn, 1) := by decide +kernel
theorem dX0_flowAbove_0 : decode cX0_flowAbove 0 = .ok (.iload_n 1, 1) := by decide +kernel
theorem dX0_flowAbove_1 : decode cX0_flowAbove 1 = .ok (.ifCond .ge 15, 3) := by decide +kernel
theorem dX0_flowAbove_4 : decode cX0_flowAbove 4 = .ok (.aload_n 0, 1) := by decide +kernel
theorem dX0_flowAbove_5 : decode cX0_flowAbove 5 = .ok (.getfield 45, 3) := by decide +kernel
theorem dX0_flowAbove_8 : decode cX0_flowAbove 8 = .ok (.iconst 0, 1) := by decide +kernel
theorem dX0_flowAbove_9 : decode cX0_flowAbove 9 = .ok (.iaload, 1) := by decide +kernel
theorem dX0_flowAbove_10 : decode cX0_flowAbove 10 = .ok (.i2l, 1) := by decide +kernel
theorem dX0_flowAbove_11 : decode cX0_flowAbove 11 = .ok (.lload_n 3, 1) := by decide +kernel
theorem dX0_flowAbove_12 : decode cX0_flowAbove 12 = .ok (.lmul, 1) := by decide +kernel
theorem dX0_flowAbove_13 : decode cX0_flowAbove 13 = .ok (.goto 6, 3) := by decide +kernel
theorem dX0_flowAbove_16 : decode cX0_flowAbove 16 = .ok (.aload_n 2, 1) := by decide +kernel
theorem dX0_flowAbove_17 : decode cX0_flowAbove 17 = .ok (.iload_n 1, 1) := by decide +kernel
theorem dX0_flowAbove_18 : decode cX0_flowAbove 18 = .ok (.laload, 1) := by decide +kernel
theorem dX0_flowAbove_19 : decode cX0_flowAbove 19 = .ok (.lstore 5, 2) := by decide +kernel
theorem dX0_flowAbove_21 : decode cX0_flowAbove 21 = .ok (.iload_n 1, 1) := by decide +kernel
theorem dX0_flowAbove_22 : decode cX0_flowAbove 22 = .ok (.aload_n 0, 1) := by decide +kernel
theorem dX0_flowAbove_23 : decode cX0_flowAbove 23 = .ok (.getfield 9, 3) := by decide +kernel
theorem dX0_flowAbove_26 : decode cX0_flowAbove 26 = .ok (.iconst 1, 1) := by decide +kernel
theorem dX0_flowAbove_27 : decode cX0_flowAbove 27 = .ok (.isub, 1) := by decide +kernel
theorem dX0_flowAbove_28 : decode cX0_flowAbove 28 = .ok (.if_icmp .lt 15, 3) := by decide +kernel
theorem dX0_flowAbove_31 : decode cX0_flowAbove 31 = .ok (.aload_n 0, 1) := by decide +kernel
theorem dX0_flowAbove_32 : decode cX0_flowAbove 32 = .ok (.getfield 45, 3) := by decide +kernel
theorem dX0_flowAbove_35 : decode cX0_flowAbove 35 = .ok (.iconst 1, 1) := by decide +kernel
theorem dX0_flowAbove_36 : decode cX0_flowAbove 36 = .ok (.iaload, 1) := by decide +kernel
theorem dX0_flowAbove_37 : decode cX0_flowAbove 37 = .ok (.i2l, 1) := by decide +kernel
theorem dX0_flowAbove_38 : decode cX0_flowAbove 38 = .ok (.lload_n 3, 1) := by decide +kernel
theorem dX0_flowAbove_39 : decode cX0_flowAbove 39 = .ok (.lmul, 1) := by decide +kernel
theorem dX0_flowAbove_40 : decode cX0_flowAbove 40 = .ok (.goto 8, 3) := by decide +kernel
theorem dX0_flowAbove_43 : decode cX0_flowAbove 43 = .ok (.aload_n 2, 1) := by decide +kernel
theorem dX0_flowAbove_44 : decode cX0_flowAbove 44 = .ok (.iload_n 1, 1) := by decide +kernel
theorem dX0_flowAbove_45 : decode cX0_flowAbove 45 = .ok (.iconst 1, 1) := by decide +kernel
theorem dX0_flowAbove_46 : decode cX0_flowAbove 46 = .ok (.iadd, 1) := by decide +kernel
theorem dX0_flowAbove_47 : decode cX0_flowAbove 47 = .ok (.laload, 1) := by decide +kernel
theorem dX0_flowAbove_48 : decode cX0_flowAbove 48 = .ok (.lstore 7, 2) := by decide +kernel
theorem dX0_flowAbove_50 : decode cX0_flowAbove 50 = .ok (.aload_n 0, 1) := by decide +kernel
theorem dX0_flowAbove_51 : decode cX0_flowAbove 51 = .ok (.iload_n 1, 1) := by decide +kernel
theorem dX0_flowAbove_52 : decode cX0_flowAbove 52 = .ok (.invokevirtual 118, 3) := by decide +kernel
theorem dX0_flowAbove_55 : decode cX0_flowAbove 55 = .ok (.i2l, 1) := by decide +kernel
theorem dX0_flowAbove_56 : decode cX0_flowAbove 56 = .ok (.lload 5, 2) := by decide +kernel
theorem dX0_flowAbove_58 : decode cX0_flowAbove 58 = .ok (.lload 7, 2) := by decide +kernel
theorem dX0_flowAbove_60 : decode cX0_flowAbove 60 = .ok (.lsub, 1) := by decide +kernel
theorem dX0_flowAbove_61 : decode cX0_flowAbove 61 = .ok (.lmul, 1) := by decide +kernel
theorem dX0_flowAbove_62 : decode cX0_flowAbove 62 = .ok (.lreturn, 1) := by decide +kernel
theorem dX0_loss_0 : decode cX0_loss 0 = .ok (.aload_n 0, 1) := by decide +kernel
theorem dX0_loss_1 : decode cX0_loss 1 = .ok (.iload_n 1, 1) := by decide +kernel
theorem dX0_loss_2 : decode cX0_loss 2 = .ok (.iconst 1, 1) := by decide +kernel
theorem dX0_loss_3 : decode cX0_loss 3 = .ok (.isub, 1) := by decide +kernel
theorem dX0_loss_4 : decode cX0_loss 4 = .ok (.invokevirtual 118, 3) := by decide +kernel
theorem dX0_loss_7 : decode cX0_loss 7 = .ok (.aload_n 0, 1) := by decide +kernel
theorem dX0_loss_8 : decode cX0_loss 8 = .ok (.iload_n 1, 1) := by decide +kernel
theorem dX0_loss_9 : decode cX0_loss 9 = .ok (.invokevirtual 118, 3) := by decide +kernel
theorem dX0_loss_12 : decode cX0_loss 12 = .ok (.iadd, 1) := by decide +kernel
theorem dX0_loss_13 : decode cX0_loss 13 = .ok (.aload_n 0, 1) := by decide +kernel
theorem dX0_loss_14 : decode cX0_loss 14 = .ok (.getfield 34, 3) := by decide +kernel
theorem dX0_loss_17 : decode cX0_loss 17 = .ok (.iload_n 1, 1) := by decide +kernel
theorem dX0_loss_18 : decode cX0_loss 18 = .ok (.iaload, 1) := by decide +kernel
theorem dX0_loss_19 : decode cX0_loss 19 = .ok (.iadd, 1) := by decide +kernel
theorem dX0_loss_20 : decode cX0_loss 20 = .ok (.ireturn, 1) := by decide +kernel
theorem dX0_supply_0 : decode cX0_supply 0 = .ok (.iload_n 1, 1) := by decide +kernel
theorem dX0_supply_1 : decode cX0_supply 1 = .ok (.ifCond .ne 18, 3) := by decide +kernel
theorem dX0_supply_4 : decode cX0_supply 4 = .ok (.aload_n 0, 1) := by decide +kernel
theorem dX0_supply_5 : decode cX0_supply 5 = .ok (.iconst (-1), 1) := by decide +kernel
theorem dX0_supply_6 : decode cX0_supply 6 = .ok (.invokevirtual 118, 3) := by decide +kernel
theorem dX0_supply_9 : decode cX0_supply 9 = .ok (.aload_n 0, 1) := by decide +kernel
theorem dX0_supply_10 : decode cX0_supply 10 = .ok (.getfield 45, 3) := by decide +kernel
theorem dX0_supply_13 : decode cX0_supply 13 = .ok (.iconst 0, 1) := by decide +kernel
theorem dX0_supply_14 : decode cX0_supply 14 = .ok (.iaload, 1) := by decide +kernel
theorem dX0_supply_15 : decode cX0_supply 15 = .ok (.imul, 1) := by decide +kernel
theorem dX0_supply_16 : decode cX0_supply 16 = .ok (.goto 4, 3) := by decide +kernel
theorem dX0_supply_19 : decode cX0_supply 19 = .ok (.iconst 0, 1) := by decide +kernel
theorem dX0_supply_20 : decode cX0_supply 20 = .ok (.istore_n 2, 1) := by decide +kernel
theorem dX0_supply_21 : decode cX0_supply 21 = .ok (.iload_n 1, 1) := by decide +kernel
theorem dX0_supply_22 : decode cX0_supply 22 = .ok (.aload_n 0, 1) := by decide +kernel
theorem dX0_supply_23 : decode cX0_supply 23 = .ok (.getfield 9, 3) := by decide +kernel
theorem dX0_supply_26 : decode cX0_supply 26 = .ok (.iconst 1, 1) := by decide +kernel
theorem dX0_supply_27 : decode cX0_supply 27 = .ok (.isub, 1) := by decide +kernel
theorem dX0_supply_28 : decode cX0_supply 28 = .ok (.if_icmp .ne 18, 3) := by decide +kernel
theorem dX0_supply_31 : decode cX0_supply 31 = .ok (.aload_n 0, 1) := by decide +kernel
theorem dX0_supply_32 : decode cX0_supply 32 = .ok (.iload_n 1, 1) := by decide +kernel
theorem dX0_supply_33 : decode cX0_supply 33 = .ok (.invokevirtual 118, 3) := by decide +kernel
theorem dX0_supply_36 : decode cX0_supply 36 = .ok (.aload_n 0, 1) := by decide +kernel
theorem dX0_supply_37 : decode cX0_supply 37 = .ok (.getfield 45, 3) := by decide +kernel
theorem dX0_supply_40 : decode cX0_supply 40 = .ok (.iconst 1, 1) := by decide +kernel
theorem dX0_supply_41 : decode cX0_supply 41 = .ok (.iaload, 1) := by decide +kernel
theorem dX0_supply_42 : decode cX0_supply 42 = .ok (.imul, 1) := by decide +kernel
theorem dX0_supply_43 : decode cX0_supply 43 = .ok (.goto 4, 3) := by decide +kernel
theorem dX0_supply_46 : decode cX0_supply 46 = .ok (.iconst 0, 1) := by decide +kernel
theorem dX0_supply_47 : decode cX0_supply 47 = .ok (.istore_n 3, 1) := by decide +kernel
theorem dX0_supply_48 : decode cX0_supply 48 = .ok (.aload_n 0, 1) := by decide +kernel
theorem dX0_supply_49 : decode cX0_supply 49 = .ok (.getfield 25, 3) := by decide +kernel
theorem dX0_supply_52 : decode cX0_supply 52 = .ok (.iload_n 1, 1) := by decide +kernel
theorem dX0_supply_53 : decode cX0_supply 53 = .ok (.iaload, 1) := by decide +kernel
theorem dX0_supply_54 : decode cX0_supply 54 = .ok (.aload_n 0, 1) := by decide +kernel
theorem dX0_supply_55 : decode cX0_supply 55 = .ok (.getfield 34, 3) := by decide +kernel
theorem dX0_supply_58 : decode cX0_supply 58 = .ok (.iload_n 1, 1) := by decide +kernel
theorem dX0_supply_59 : decode cX0_supply 59 = .ok (.iaload, 1) := by decide +kernel
theorem dX0_supply_60 : decode cX0_supply 60 = .ok (.aload_n 0, 1) := by decide +kernel
theorem dX0_supply_61 : decode cX0_supply 61 = .ok (.getfield 51, 3) := by decide +kernel
theorem dX0_supply_64 : decode cX0_supply 64 = .ok (.imul, 1) := by decide +kernel
theorem dX0_supply_65 : decode cX0_supply 65 = .ok (.iadd, 1) := by decide +kernel
theorem dX0_supply_66 : decode cX0_supply 66 = .ok (.iload_n 2, 1) := by decide +kernel
theorem dX0_supply_67 : decode cX0_supply 67 = .ok (.iadd, 1) := by decide +kernel
theorem dX0_supply_68 : decode cX0_supply 68 = .ok (.iload_n 3, 1) := by decide +kernel
theorem dX0_supply_69 : decode cX0_supply 69 = .ok (.iadd, 1) := by decide +kernel
theorem dX0_supply_70 : decode cX0_supply 70 = .ok (.ireturn, 1) := by decide +kernel
theorem dX0_gain_0 : decode cX0_gain 0 = .ok (.aload_n 0, 1) := by decide +kernel
theorem dX0_gain_1 : decode cX0_gain 1 = .ok (.iload_n 1, 1) := by decide +kernel
theorem dX0_gain_2 : decode cX0_gain 2 = .ok (.iconst 1, 1) := by decide +kernel
theorem dX0_gain_3 : decode cX0_gain 3 = .ok (.isub, 1) := by decide +kernel
theorem dX0_gain_4 : decode cX0_gain 4 = .ok (.aload_n 0, 1) := by decide +kernel
theorem dX0_gain_5 : decode cX0_gain 5 = .ok (.getfield 37, 3) := by decide +kernel
theorem dX0_gain_8 : decode cX0_gain 8 = .ok (.aload_n 0, 1) := by decide +kernel
theorem dX0_gain_9 : decode cX0_gain 9 = .ok (.getfield 41, 3) := by decide +kernel
theorem dX0_gain_12 : decode cX0_gain 12 = .ok (.invokevirtual 121, 3) := by decide +kernel
theorem dX0_gain_15 : decode cX0_gain 15 = .ok (.aload_n 0, 1) := by decide +kernel
theorem dX0_gain_16 : decode cX0_gain 16 = .ok (.iload_n 1, 1) := by decide +kernel
theorem dX0_gain_17 : decode cX0_gain 17 = .ok (.aload_n 0, 1) := by decide +kernel
theorem dX0_gain_18 : decode cX0_gain 18 = .ok (.getfield 37, 3) := by decide +kernel
theorem dX0_gain_21 : decode cX0_gain 21 = .ok (.aload_n 0, 1) := by decide +kernel
theorem dX0_gain_22 : decode cX0_gain 22 = .ok (.getfield 41, 3) := by decide +kernel
theorem dX0_gain_25 : decode cX0_gain 25 = .ok (.invokevirtual 121, 3) := by decide +kernel
theorem dX0_gain_28 : decode cX0_gain 28 = .ok (.lsub, 1) := by decide +kernel
theorem dX0_gain_29 : decode cX0_gain 29 = .ok (.lstore_n 2, 1) := by decide +kernel
theorem dX0_gain_30 : decode cX0_gain 30 = .ok (.lload_n 2, 1) := by decide +kernel
theorem dX0_gain_31 : decode cX0_gain 31 = .ok (.aload_n 0, 1) := by decide +kernel
theorem dX0_gain_32 : decode cX0_gain 32 = .ok (.getfield 34, 3) := by decide +kernel
theorem dX0_gain_35 : decode cX0_gain 35 = .ok (.iload_n 1, 1) := by decide +kernel
theorem dX0_gain_36 : decode cX0_gain 36 = .ok (.iaload, 1) := by decide +kernel
theorem dX0_gain_37 : decode cX0_gain 37 = .ok (.i2l, 1) := by decide +kernel
theorem dX0_gain_38 : decode cX0_gain 38 = .ok (.aload_n 0, 1) := by decide +kernel
theorem dX0_gain_39 : decode cX0_gain 39 = .ok (.getfield 51, 3) := by decide +kernel
theorem dX0_gain_42 : decode cX0_gain 42 = .ok (.i2l, 1) := by decide +kernel
theorem dX0_gain_43 : decode cX0_gain 43 = .ok (.aload_n 0, 1) := by decide +kernel
theorem dX0_gain_44 : decode cX0_gain 44 = .ok (.getfield 41, 3) := by decide +kernel
theorem dX0_gain_47 : decode cX0_gain 47 = .ok (.lmul, 1) := by decide +kernel
theorem dX0_gain_48 : decode cX0_gain 48 = .ok (.aload_n 0, 1) := by decide +kernel
theorem dX0_gain_49 : decode cX0_gain 49 = .ok (.getfield 37, 3) := by decide +kernel
theorem dX0_gain_52 : decode cX0_gain 52 = .ok (.iload_n 1, 1) := by decide +kernel
theorem dX0_gain_53 : decode cX0_gain 53 = .ok (.laload, 1) := by decide +kernel
theorem dX0_gain_54 : decode cX0_gain 54 = .ok (.lsub, 1) := by decide +kernel
theorem dX0_gain_55 : decode cX0_gain 55 = .ok (.lmul, 1) := by decide +kernel
theorem dX0_gain_56 : decode cX0_gain 56 = .ok (.ladd, 1) := by decide +kernel
theorem dX0_gain_57 : decode cX0_gain 57 = .ok (.aload_n 0, 1) := by decide +kernel
theorem dX0_gain_58 : decode cX0_gain 58 = .ok (.getfield 25, 3) := by decide +kernel
theorem dX0_gain_61 : decode cX0_gain 61 = .ok (.iload_n 1, 1) := by decide +kernel
theorem dX0_gain_62 : decode cX0_gain 62 = .ok (.iaload, 1) := by decide +kernel
theorem dX0_gain_63 : decode cX0_gain 63 = .ok (.i2l, 1) := by decide +kernel
theorem dX0_gain_64 : decode cX0_gain 64 = .ok (.aload_n 0, 1) := by decide +kernel
theorem dX0_gain_65 : decode cX0_gain 65 = .ok (.getfield 41, 3) := by decide +kernel
theorem dX0_gain_68 : decode cX0_gain 68 = .ok (.lmul, 1) := by decide +kernel
theorem dX0_gain_69 : decode cX0_gain 69 = .ok (.ladd, 1) := by decide +kernel
theorem dX0_gain_70 : decode cX0_gain 70 = .ok (.lreturn, 1) := by decide +kernel
theorem dX0_advance_0 : decode cX0_advance 0 = .ok (.bipush 24, 2) := by decide +kernel
theorem dX0_advance_2 : decode cX0_advance 2 = .ok (.aload_n 0, 1) := by decide +kernel
theorem dX0_advance_3 : decode cX0_advance 3 = .ok (.getfield 48, 3) := by decide +kernel
theorem dX0_advance_6 : decode cX0_advance 6 = .ok (.imul, 1) := by decide +kernel
theorem dX0_advance_7 : decode cX0_advance 7 = .ok (.i2l, 1) := by decide +kernel
theorem dX0_advance_8 : decode cX0_advance 8 = .ok (.lstore_n 1, 1) := by decide +kernel
theorem dX0_advance_9 : decode cX0_advance 9 = .ok (.iconst 0, 1) := by decide +kernel
theorem dX0_advance_10 : decode cX0_advance 10 = .ok (.istore_n 3, 1) := by decide +kernel
theorem dX0_advance_11 : decode cX0_advance 11 = .ok (.iload_n 3, 1) := by decide +kernel
theorem dX0_advance_12 : decode cX0_advance 12 = .ok (.aload_n 0, 1) := by decide +kernel
theorem dX0_advance_13 : decode cX0_advance 13 = .ok (.getfield 9, 3) := by decide +kernel
theorem dX0_advance_16 : decode cX0_advance 16 = .ok (.if_icmp .ge 43, 3) := by decide +kernel
theorem dX0_advance_19 : decode cX0_advance 19 = .ok (.aload_n 0, 1) := by decide +kernel
theorem dX0_advance_20 : decode cX0_advance 20 = .ok (.getfield 61, 3) := by decide +kernel
theorem dX0_advance_23 : decode cX0_advance 23 = .ok (.iload_n 3, 1) := by decide +kernel
theorem dX0_advance_24 : decode cX0_advance 24 = .ok (.aload_n 0, 1) := by decide +kernel
theorem dX0_advance_25 : decode cX0_advance 25 = .ok (.getfield 37, 3) := by decide +kernel
theorem dX0_advance_28 : decode cX0_advance 28 = .ok (.iload_n 3, 1) := by decide +kernel
theorem dX0_advance_29 : decode cX0_advance 29 = .ok (.laload, 1) := by decide +kernel
theorem dX0_advance_30 : decode cX0_advance 30 = .ok (.lload_n 1, 1) := by decide +kernel
theorem dX0_advance_31 : decode cX0_advance 31 = .ok (.lmul, 1) := by decide +kernel
theorem dX0_advance_32 : decode cX0_advance 32 = .ok (.aload_n 0, 1) := by decide +kernel
theorem dX0_advance_33 : decode cX0_advance 33 = .ok (.iload_n 3, 1) := by decide +kernel
theorem dX0_advance_34 : decode cX0_advance 34 = .ok (.invokevirtual 125, 3) := by decide +kernel
theorem dX0_advance_37 : decode cX0_advance 37 = .ok (.ldc2_w 129, 3) := by decide +kernel
theorem dX0_advance_40 : decode cX0_advance 40 = .ok (.aload_n 0, 1) := by decide +kernel
theorem dX0_advance_41 : decode cX0_advance 41 = .ok (.getfield 31, 3) := by decide +kernel
theorem dX0_advance_44 : decode cX0_advance 44 = .ok (.iload_n 3, 1) := by decide +kernel
theorem dX0_advance_45 : decode cX0_advance 45 = .ok (.iaload, 1) := by decide +kernel
theorem dX0_advance_46 : decode cX0_advance 46 = .ok (.i2l, 1) := by decide +kernel
theorem dX0_advance_47 : decode cX0_advance 47 = .ok (.invokestatic 131, 3) := by decide +kernel
theorem dX0_advance_50 : decode cX0_advance 50 = .ok (.lmul, 1) := by decide +kernel
theorem dX0_advance_51 : decode cX0_advance 51 = .ok (.ladd, 1) := by decide +kernel
theorem dX0_advance_52 : decode cX0_advance 52 = .ok (.lastore, 1) := by decide +kernel
theorem dX0_advance_53 : decode cX0_advance 53 = .ok (.iinc 3 1, 3) := by decide +kernel
theorem dX0_advance_56 : decode cX0_advance 56 = .ok (.goto (-45), 3) := by decide +kernel
theorem dX0_advance_59 : decode cX0_advance 59 = .ok (.aload_n 0, 1) := by decide +kernel
theorem dX0_advance_60 : decode cX0_advance 60 = .ok (.getfield 57, 3) := by decide +kernel
theorem dX0_advance_63 : decode cX0_advance 63 = .ok (.aload_n 0, 1) := by decide +kernel
theorem dX0_advance_64 : decode cX0_advance 64 = .ok (.getfield 61, 3) := by decide +kernel
theorem dX0_advance_67 : decode cX0_advance 67 = .ok (.aload_n 0, 1) := by decide +kernel
theorem dX0_advance_68 : decode cX0_advance 68 = .ok (.getfield 41, 3) := by decide +kernel
theorem dX0_advance_71 : decode cX0_advance 71 = .ok (.lload_n 1, 1) := by decide +kernel
theorem dX0_advance_72 : decode cX0_advance 72 = .ok (.lmul, 1) := by decide +kernel
theorem dX0_advance_73 : decode cX0_advance 73 = .ok (.invokevirtual 135, 3) := by decide +kernel
theorem dX0_advance_76 : decode cX0_advance 76 = .ok (.aload_n 0, 1) := by decide +kernel
theorem dX0_advance_77 : decode cX0_advance 77 = .ok (.aload_n 0, 1) := by decide +kernel
theorem dX0_advance_78 : decode cX0_advance 78 = .ok (.getfield 61, 3) := by decide +kernel
theorem dX0_advance_81 : decode cX0_advance 81 = .ok (.aload_n 0, 1) := by decide +kernel
theorem dX0_advance_82 : decode cX0_advance 82 = .ok (.getfield 41, 3) := by decide +kernel
theorem dX0_advance_85 : decode cX0_advance 85 = .ok (.lload_n 1, 1) := by decide +kernel
theorem dX0_advance_86 : decode cX0_advance 86 = .ok (.lmul, 1) := by decide +kernel
theorem dX0_advance_87 : decode cX0_advance 87 = .ok (.invokevirtual 139, 3) := by decide +kernel
theorem dX0_advance_90 : decode cX0_advance 90 = .ok (.istore_n 3, 1) := by decide +kernel
theorem dX0_advance_91 : decode cX0_advance 91 = .ok (.iload_n 3, 1) := by decide +kernel
theorem dX0_advance_92 : decode cX0_advance 92 = .ok (.bipush (-2), 2) := by decide +kernel
theorem dX0_advance_94 : decode cX0_advance 94 = .ok (.if_icmp .ne 10, 3) := by decide +kernel
theorem dX0_advance_97 : decode cX0_advance 97 = .ok (.aload_n 0, 1) := by decide +kernel
theorem dX0_advance_98 : decode cX0_advance 98 = .ok (.getfield 57, 3) := by decide +kernel
theorem dX0_advance_101 : decode cX0_advance 101 = .ok (.invokevirtual 143, 3) := by decide +kernel
theorem dX0_advance_104 : decode cX0_advance 104 = .ok (.iload_n 3, 1) := by decide +kernel
theorem dX0_advance_105 : decode cX0_advance 105 = .ok (.ireturn, 1) := by decide +kernel
theorem dX0_takeHeats_0 : decode cX0_takeHeats 0 = .ok (.aload_n 0, 1) := by decide +kernel
theorem dX0_takeHeats_1 : decode cX0_takeHeats 1 = .ok (.aload_n 1, 1) := by decide +kernel
theorem dX0_takeHeats_2 : decode cX0_takeHeats 2 = .ok (.lload_n 2, 1) := by decide +kernel
theorem dX0_takeHeats_3 : decode cX0_takeHeats 3 = .ok (.invokevirtual 94, 3) := by decide +kernel
theorem dX0_takeHeats_6 : decode cX0_takeHeats 6 = .ok (.lstore 4, 2) := by decide +kernel
theorem dX0_takeHeats_8 : decode cX0_takeHeats 8 = .ok (.lload 4, 2) := by decide +kernel
theorem dX0_takeHeats_10 : decode cX0_takeHeats 10 = .ok (.ldc2_w 146, 3) := by decide +kernel
theorem dX0_takeHeats_13 : decode cX0_takeHeats 13 = .ok (.lcmp, 1) := by decide +kernel
theorem dX0_takeHeats_14 : decode cX0_takeHeats 14 = .ok (.ifCond .le 5, 3) := by decide +kernel
theorem dX0_takeHeats_17 : decode cX0_takeHeats 17 = .ok (.iconst (-1), 1) := by decide +kernel
theorem dX0_takeHeats_18 : decode cX0_takeHeats 18 = .ok (.ireturn, 1) := by decide +kernel
theorem dX0_takeHeats_19 : decode cX0_takeHeats 19 = .ok (.iconst 0, 1) := by decide +kernel
theorem dX0_takeHeats_20 : decode cX0_takeHeats 20 = .ok (.istore 6, 2) := by decide +kernel
theorem dX0_takeHeats_22 : decode cX0_takeHeats 22 = .ok (.iload 6, 2) := by decide +kernel
theorem dX0_takeHeats_24 : decode cX0_takeHeats 24 = .ok (.aload_n 0, 1) := by decide +kernel
theorem dX0_takeHeats_25 : decode cX0_takeHeats 25 = .ok (.getfield 9, 3) := by decide +kernel
theorem dX0_takeHeats_28 : decode cX0_takeHeats 28 = .ok (.if_icmp .ge 26, 3) := by decide +kernel
theorem dX0_takeHeats_31 : decode cX0_takeHeats 31 = .ok (.aload_n 1, 1) := by decide +kernel
theorem dX0_takeHeats_32 : decode cX0_takeHeats 32 = .ok (.iload 6, 2) := by decide +kernel
theorem dX0_takeHeats_34 : decode cX0_takeHeats 34 = .ok (.laload, 1) := by decide +kernel
theorem dX0_takeHeats_35 : decode cX0_takeHeats 35 = .ok (.invokestatic 148, 3) := by decide +kernel
theorem dX0_takeHeats_38 : decode cX0_takeHeats 38 = .ok (.ldc2_w 146, 3) := by decide +kernel
theorem dX0_takeHeats_41 : decode cX0_takeHeats 41 = .ok (.lcmp, 1) := by decide +kernel
theorem dX0_takeHeats_42 : decode cX0_takeHeats 42 = .ok (.ifCond .le 6, 3) := by decide +kernel
theorem dX0_takeHeats_45 : decode cX0_takeHeats 45 = .ok (.iload 6, 2) := by decide +kernel
theorem dX0_takeHeats_47 : decode cX0_takeHeats 47 = .ok (.ireturn, 1) := by decide +kernel
theorem dX0_takeHeats_48 : decode cX0_takeHeats 48 = .ok (.iinc 6 1, 3) := by decide +kernel
theorem dX0_takeHeats_51 : decode cX0_takeHeats 51 = .ok (.goto (-29), 3) := by decide +kernel
theorem dX0_takeHeats_54 : decode cX0_takeHeats 54 = .ok (.aload_n 1, 1) := by decide +kernel
theorem dX0_takeHeats_55 : decode cX0_takeHeats 55 = .ok (.iconst 0, 1) := by decide +kernel
theorem dX0_takeHeats_56 : decode cX0_takeHeats 56 = .ok (.aload_n 0, 1) := by decide +kernel
theorem dX0_takeHeats_57 : decode cX0_takeHeats 57 = .ok (.getfield 37, 3) := by decide +kernel
theorem dX0_takeHeats_60 : decode cX0_takeHeats 60 = .ok (.iconst 0, 1) := by decide +kernel
theorem dX0_takeHeats_61 : decode cX0_takeHeats 61 = .ok (.bipush 8, 2) := by decide +kernel
theorem dX0_takeHeats_63 : decode cX0_takeHeats 63 = .ok (.invokestatic 64, 3) := by decide +kernel
theorem dX0_takeHeats_66 : decode cX0_takeHeats 66 = .ok (.aload_n 0, 1) := by decide +kernel
theorem dX0_takeHeats_67 : decode cX0_takeHeats 67 = .ok (.lload 4, 2) := by decide +kernel
theorem dX0_takeHeats_69 : decode cX0_takeHeats 69 = .ok (.putfield 41, 3) := by decide +kernel
theorem dX0_takeHeats_72 : decode cX0_takeHeats 72 = .ok (.bipush (-2), 2) := by decide +kernel
theorem dX0_takeHeats_74 : decode cX0_takeHeats 74 = .ok (.ireturn, 1) := by decide +kernel
theorem dX0_reduce_0 : decode cX0_reduce 0 = .ok (.lload_n 2, 1) := by decide +kernel
theorem dX0_reduce_1 : decode cX0_reduce 1 = .ok (.lstore 4, 2) := by decide +kernel
theorem dX0_reduce_3 : decode cX0_reduce 3 = .ok (.iconst 0, 1) := by decide +kernel
theorem dX0_reduce_4 : decode cX0_reduce 4 = .ok (.istore 6, 2) := by decide +kernel
theorem dX0_reduce_6 : decode cX0_reduce 6 = .ok (.iload 6, 2) := by decide +kernel
theorem dX0_reduce_8 : decode cX0_reduce 8 = .ok (.aload_n 0, 1) := by decide +kernel
theorem dX0_reduce_9 : decode cX0_reduce 9 = .ok (.getfield 9, 3) := by decide +kernel
theorem dX0_reduce_12 : decode cX0_reduce 12 = .ok (.if_icmp .ge 20, 3) := by decide +kernel
theorem dX0_reduce_15 : decode cX0_reduce 15 = .ok (.lload 4, 2) := by decide +kernel
theorem dX0_reduce_17 : decode cX0_reduce 17 = .ok (.aload_n 1, 1) := by decide +kernel
theorem dX0_reduce_18 : decode cX0_reduce 18 = .ok (.iload 6, 2) := by decide +kernel
theorem dX0_reduce_20 : decode cX0_reduce 20 = .ok (.laload, 1) := by decide +kernel
theorem dX0_reduce_21 : decode cX0_reduce 21 = .ok (.invokestatic 152, 3) := by decide +kernel
theorem dX0_reduce_24 : decode cX0_reduce 24 = .ok (.lstore 4, 2) := by decide +kernel
theorem dX0_reduce_26 : decode cX0_reduce 26 = .ok (.iinc 6 1, 3) := by decide +kernel
theorem dX0_reduce_29 : decode cX0_reduce 29 = .ok (.goto (-23), 3) := by decide +kernel
theorem dX0_reduce_32 : decode cX0_reduce 32 = .ok (.iconst 0, 1) := by decide +kernel
theorem dX0_reduce_33 : decode cX0_reduce 33 = .ok (.istore 6, 2) := by decide +kernel
theorem dX0_reduce_35 : decode cX0_reduce 35 = .ok (.iload 6, 2) := by decide +kernel
theorem dX0_reduce_37 : decode cX0_reduce 37 = .ok (.aload_n 0, 1) := by decide +kernel
theorem dX0_reduce_38 : decode cX0_reduce 38 = .ok (.getfield 9, 3) := by decide +kernel
theorem dX0_reduce_41 : decode cX0_reduce 41 = .ok (.if_icmp .ge 22, 3) := by decide +kernel
theorem dX0_reduce_44 : decode cX0_reduce 44 = .ok (.aload_n 1, 1) := by decide +kernel
theorem dX0_reduce_45 : decode cX0_reduce 45 = .ok (.iload 6, 2) := by decide +kernel
theorem dX0_reduce_47 : decode cX0_reduce 47 = .ok (.aload_n 1, 1) := by decide +kernel
theorem dX0_reduce_48 : decode cX0_reduce 48 = .ok (.iload 6, 2) := by decide +kernel
theorem dX0_reduce_50 : decode cX0_reduce 50 = .ok (.laload, 1) := by decide +kernel
theorem dX0_reduce_51 : decode cX0_reduce 51 = .ok (.lload 4, 2) := by decide +kernel
theorem dX0_reduce_53 : decode cX0_reduce 53 = .ok (.invokestatic 131, 3) := by decide +kernel
theorem dX0_reduce_56 : decode cX0_reduce 56 = .ok (.lastore, 1) := by decide +kernel
theorem dX0_reduce_57 : decode cX0_reduce 57 = .ok (.iinc 6 1, 3) := by decide +kernel
theorem dX0_reduce_60 : decode cX0_reduce 60 = .ok (.goto (-25), 3) := by decide +kernel
theorem dX0_reduce_63 : decode cX0_reduce 63 = .ok (.lload_n 2, 1) := by decide +kernel
theorem dX0_reduce_64 : decode cX0_reduce 64 = .ok (.lload 4, 2) := by decide +kernel
theorem dX0_reduce_66 : decode cX0_reduce 66 = .ok (.invokestatic 131, 3) := by decide +kernel
theorem dX0_reduce_69 : decode cX0_reduce 69 = .ok (.lreturn, 1) := by decide +kernel
theorem dX0_isRisenFrom_0 : decode cX0_isRisenFrom 0 = .ok (.bipush 24, 2) := by decide +kernel
theorem dX0_isRisenFrom_2 : decode cX0_isRisenFrom 2 = .ok (.aload_n 0, 1) := by decide +kernel
theorem dX0_isRisenFrom_3 : decode cX0_isRisenFrom 3 = .ok (.getfield 48, 3) := by decide +kernel
theorem dX0_isRisenFrom_6 : decode cX0_isRisenFrom 6 = .ok (.imul, 1) := by decide +kernel
theorem dX0_isRisenFrom_7 : decode cX0_isRisenFrom 7 = .ok (.i2l, 1) := by decide +kernel
theorem dX0_isRisenFrom_8 : decode cX0_isRisenFrom 8 = .ok (.lstore 5, 2) := by decide +kernel
theorem dX0_isRisenFrom_10 : decode cX0_isRisenFrom 10 = .ok (.aload_n 0, 1) := by decide +kernel
theorem dX0_isRisenFrom_11 : decode cX0_isRisenFrom 11 = .ok (.invokevirtual 155, 3) := by decide +kernel
theorem dX0_isRisenFrom_14 : decode cX0_isRisenFrom 14 = .ok (.lload_n 3, 1) := by decide +kernel
theorem dX0_isRisenFrom_15 : decode cX0_isRisenFrom 15 = .ok (.lload 5, 2) := by decide +kernel
theorem dX0_isRisenFrom_17 : decode cX0_isRisenFrom 17 = .ok (.lmul, 1) := by decide +kernel
theorem dX0_isRisenFrom_18 : decode cX0_isRisenFrom 18 = .ok (.aload_n 0, 1) := by decide +kernel
theorem dX0_isRisenFrom_19 : decode cX0_isRisenFrom 19 = .ok (.getfield 41, 3) := by decide +kernel
theorem dX0_isRisenFrom_22 : decode cX0_isRisenFrom 22 = .ok (.invokestatic 131, 3) := by decide +kernel
theorem dX0_isRisenFrom_25 : decode cX0_isRisenFrom 25 = .ok (.lmul, 1) := by decide +kernel
theorem dX0_isRisenFrom_26 : decode cX0_isRisenFrom 26 = .ok (.lload_n 1, 1) := by decide +kernel
theorem dX0_isRisenFrom_27 : decode cX0_isRisenFrom 27 = .ok (.lload 5, 2) := by decide +kernel
theorem dX0_isRisenFrom_29 : decode cX0_isRisenFrom 29 = .ok (.lmul, 1) := by decide +kernel
theorem dX0_isRisenFrom_30 : decode cX0_isRisenFrom 30 = .ok (.lcmp, 1) := by decide +kernel
theorem dX0_isRisenFrom_31 : decode cX0_isRisenFrom 31 = .ok (.ifCond .le 7, 3) := by decide +kernel
theorem dX0_isRisenFrom_34 : decode cX0_isRisenFrom 34 = .ok (.iconst 1, 1) := by decide +kernel
theorem dX0_isRisenFrom_35 : decode cX0_isRisenFrom 35 = .ok (.goto 4, 3) := by decide +kernel
theorem dX0_isRisenFrom_38 : decode cX0_isRisenFrom 38 = .ok (.iconst 0, 1) := by decide +kernel
theorem dX0_isRisenFrom_39 : decode cX0_isRisenFrom 39 = .ok (.ireturn, 1) := by decide +kernel
theorem dX0_canRest_0 : decode cX0_canRest 0 = .ok (.aload_n 0, 1) := by decide +kernel
theorem dX0_canRest_1 : decode cX0_canRest 1 = .ok (.getfield 45, 3) := by decide +kernel
theorem dX0_canRest_4 : decode cX0_canRest 4 = .ok (.iconst 0, 1) := by decide +kernel
theorem dX0_canRest_5 : decode cX0_canRest 5 = .ok (.iaload, 1) := by decide +kernel
theorem dX0_canRest_6 : decode cX0_canRest 6 = .ok (.iconst (-1), 1) := by decide +kernel
theorem dX0_canRest_7 : decode cX0_canRest 7 = .ok (.if_icmp .ne 13, 3) := by decide +kernel
theorem dX0_canRest_10 : decode cX0_canRest 10 = .ok (.aload_n 0, 1) := by decide +kernel
theorem dX0_canRest_11 : decode cX0_canRest 11 = .ok (.getfield 45, 3) := by decide +kernel
theorem dX0_canRest_14 : decode cX0_canRest 14 = .ok (.iconst 1, 1) := by decide +kernel
theorem dX0_canRest_15 : decode cX0_canRest 15 = .ok (.iaload, 1) := by decide +kernel
theorem dX0_canRest_16 : decode cX0_canRest 16 = .ok (.iconst (-1), 1) := by decide +kernel
theorem dX0_canRest_17 : decode cX0_canRest 17 = .ok (.if_icmp .eq 7, 3) := by decide +kernel
theorem dX0_canRest_20 : decode cX0_canRest 20 = .ok (.iconst 1, 1) := by decide +kernel
theorem dX0_canRest_21 : decode cX0_canRest 21 = .ok (.goto 4, 3) := by decide +kernel
theorem dX0_canRest_24 : decode cX0_canRest 24 = .ok (.iconst 0, 1) := by decide +kernel
theorem dX0_canRest_25 : decode cX0_canRest 25 = .ok (.istore_n 1, 1) := by decide +kernel
theorem dX0_canRest_26 : decode cX0_canRest 26 = .ok (.aload_n 0, 1) := by decide +kernel
theorem dX0_canRest_27 : decode cX0_canRest 27 = .ok (.getfield 9, 3) := by decide +kernel
theorem dX0_canRest_30 : decode cX0_canRest 30 = .ok (.ifCond .le 25, 3) := by decide +kernel
theorem dX0_canRest_33 : decode cX0_canRest 33 = .ok (.iload_n 1, 1) := by decide +kernel
theorem dX0_canRest_34 : decode cX0_canRest 34 = .ok (.ifCond .ne 17, 3) := by decide +kernel
theorem dX0_canRest_37 : decode cX0_canRest 37 = .ok (.aload_n 0, 1) := by decide +kernel
theorem dX0_canRest_38 : decode cX0_canRest 38 = .ok (.getfield 34, 3) := by decide +kernel
theorem dX0_canRest_41 : decode cX0_canRest 41 = .ok (.aload_n 0, 1) := by decide +kernel
theorem dX0_canRest_42 : decode cX0_canRest 42 = .ok (.getfield 9, 3) := by decide +kernel
theorem dX0_canRest_45 : decode cX0_canRest 45 = .ok (.invokestatic 159, 3) := by decide +kernel
theorem dX0_canRest_48 : decode cX0_canRest 48 = .ok (.ifCond .le 7, 3) := by decide +kernel
theorem dX0_canRest_51 : decode cX0_canRest 51 = .ok (.iconst 1, 1) := by decide +kernel
theorem dX0_canRest_52 : decode cX0_canRest 52 = .ok (.goto 4, 3) := by decide +kernel
theorem dX0_canRest_55 : decode cX0_canRest 55 = .ok (.iconst 0, 1) := by decide +kernel
theorem dX0_canRest_56 : decode cX0_canRest 56 = .ok (.ireturn, 1) := by decide +kernel
theorem dX1_lineOf_0 : decode cX1_lineOf 0 = .ok (.iload_n 0, 1) := by decide +kernel
theorem dX1_lineOf_1 : decode cX1_lineOf 1 = .ok (.tableswitch 48 1 5 #[35, 37, 39, 42, 45], 35) := by decide +kernel
theorem dX1_lineOf_36 : decode cX1_lineOf 36 = .ok (.iconst 3, 1) := by decide +kernel
theorem dX1_lineOf_37 : decode cX1_lineOf 37 = .ok (.ireturn, 1) := by decide +kernel
theorem dX1_lineOf_38 : decode cX1_lineOf 38 = .ok (.iconst 5, 1) := by decide +kernel
theorem dX1_lineOf_39 : decode cX1_lineOf 39 = .ok (.ireturn, 1) := by decide +kernel
theorem dX1_lineOf_40 : decode cX1_lineOf 40 = .ok (.bipush 11, 2) := by decide +kernel
theorem dX1_lineOf_42 : decode cX1_lineOf 42 = .ok (.ireturn, 1) := by decide +kernel
theorem dX1_lineOf_43 : decode cX1_lineOf 43 = .ok (.bipush 21, 2) := by decide +kernel
theorem dX1_lineOf_45 : decode cX1_lineOf 45 = .ok (.ireturn, 1) := by decide +kernel
theorem dX1_lineOf_46 : decode cX1_lineOf 46 = .ok (.bipush 35, 2) := by decide +kernel
theorem dX1_lineOf_48 : decode cX1_lineOf 48 = .ok (.ireturn, 1) := by decide +kernel
theorem dX1_lineOf_49 : decode cX1_lineOf 49 = .ok (.iconst 1, 1) := by decide +kernel
theorem dX1_lineOf_50 : decode cX1_lineOf 50 = .ok (.ireturn, 1) := by decide +kernel
theorem dX1_isUnder_0 : decode cX1_isUnder 0 = .ok (.iload_n 0, 1) := by decide +kernel
theorem dX1_isUnder_1 : decode cX1_isUnder 1 = .ok (.invokestatic 9, 3) := by decide +kernel
theorem dX1_isUnder_4 : decode cX1_isUnder 4 = .ok (.iload_n 1, 1) := by decide +kernel
theorem dX1_isUnder_5 : decode cX1_isUnder 5 = .ok (.ishr, 1) := by decide +kernel
theorem dX1_isUnder_6 : decode cX1_isUnder 6 = .ok (.iconst 1, 1) := by decide +kernel
theorem dX1_isUnder_7 : decode cX1_isUnder 7 = .ok (.iand, 1) := by decide +kernel
theorem dX1_isUnder_8 : decode cX1_isUnder 8 = .ok (.iconst 1, 1) := by decide +kernel
theorem dX1_isUnder_9 : decode cX1_isUnder 9 = .ok (.if_icmp .ne 7, 3) := by decide +kernel
theorem dX1_isUnder_12 : decode cX1_isUnder 12 = .ok (.iconst 1, 1) := by decide +kernel
theorem dX1_isUnder_13 : decode cX1_isUnder 13 = .ok (.goto 4, 3) := by decide +kernel
theorem dX1_isUnder_16 : decode cX1_isUnder 16 = .ok (.iconst 0, 1) := by decide +kernel
theorem dX1_isUnder_17 : decode cX1_isUnder 17 = .ok (.ireturn, 1) := by decide +kernel
theorem dX1_sideOf_0 : decode cX1_sideOf 0 = .ok (.iload_n 1, 1) := by decide +kernel
theorem dX1_sideOf_1 : decode cX1_sideOf 1 = .ok (.iconst 1, 1) := by decide +kernel
theorem dX1_sideOf_2 : decode cX1_sideOf 2 = .ok (.iadd, 1) := by decide +kernel
theorem dX1_sideOf_3 : decode cX1_sideOf 3 = .ok (.iconst 2, 1) := by decide +kernel
theorem dX1_sideOf_4 : decode cX1_sideOf 4 = .ok (.idiv, 1) := by decide +kernel
theorem dX1_sideOf_5 : decode cX1_sideOf 5 = .ok (.istore_n 2, 1) := by decide +kernel
theorem dX1_sideOf_6 : decode cX1_sideOf 6 = .ok (.iload_n 0, 1) := by decide +kernel
theorem dX1_sideOf_7 : decode cX1_sideOf 7 = .ok (.tableswitch 46 1 5 #[33, 46, 33, 41, 35], 33) := by decide +kernel
theorem dX1_sideOf_40 : decode cX1_sideOf 40 = .ok (.iload_n 2, 1) := by decide +kernel
theorem dX1_sideOf_41 : decode cX1_sideOf 41 = .ok (.ireturn, 1) := by decide +kernel
theorem dX1_sideOf_42 : decode cX1_sideOf 42 = .ok (.iconst 2, 1) := by decide +kernel
theorem dX1_sideOf_43 : decode cX1_sideOf 43 = .ok (.iload_n 2, 1) := by decide +kernel
theorem dX1_sideOf_44 : decode cX1_sideOf 44 = .ok (.invokestatic 13, 3) := by decide +kernel
theorem dX1_sideOf_47 : decode cX1_sideOf 47 = .ok (.ireturn, 1) := by decide +kernel
theorem dX1_sideOf_48 : decode cX1_sideOf 48 = .ok (.bipush 10, 2) := by decide +kernel
theorem dX1_sideOf_50 : decode cX1_sideOf 50 = .ok (.iload_n 1, 1) := by decide +kernel
theorem dX1_sideOf_51 : decode cX1_sideOf 51 = .ok (.isub, 1) := by decide +kernel
theorem dX1_sideOf_52 : decode cX1_sideOf 52 = .ok (.ireturn, 1) := by decide +kernel
theorem dX1_sideOf_53 : decode cX1_sideOf 53 = .ok (.iload_n 1, 1) := by decide +kernel
theorem dX1_sideOf_54 : decode cX1_sideOf 54 = .ok (.ireturn, 1) := by decide +kernel
theorem dX1_holdsOf_0 : decode cX1_holdsOf 0 = .ok (.iload_n 0, 1) := by decide +kernel
theorem dX1_holdsOf_1 : decode cX1_holdsOf 1 = .ok (.iconst 2, 1) := by decide +kernel
theorem dX1_holdsOf_2 : decode cX1_holdsOf 2 = .ok (.if_icmp .eq 8, 3) := by decide +kernel
theorem dX1_holdsOf_5 : decode cX1_holdsOf 5 = .ok (.iload_n 0, 1) := by decide +kernel
theorem dX1_holdsOf_6 : decode cX1_holdsOf 6 = .ok (.iconst 4, 1) := by decide +kernel
theorem dX1_holdsOf_7 : decode cX1_holdsOf 7 = .ok (.if_icmp .ne 9, 3) := by decide +kernel
theorem dX1_holdsOf_10 : decode cX1_holdsOf 10 = .ok (.iconst 2, 1) := by decide +kernel
theorem dX1_holdsOf_11 : decode cX1_holdsOf 11 = .ok (.iload_n 1, 1) := by decide +kernel
theorem dX1_holdsOf_12 : decode cX1_holdsOf 12 = .ok (.imul, 1) := by decide +kernel
theorem dX1_holdsOf_13 : decode cX1_holdsOf 13 = .ok (.goto 4, 3) := by decide +kernel
theorem dX1_holdsOf_16 : decode cX1_holdsOf 16 = .ok (.iload_n 1, 1) := by decide +kernel
theorem dX1_holdsOf_17 : decode cX1_holdsOf 17 = .ok (.ireturn, 1) := by decide +kernel
theorem dX1_finOf_0 : decode cX1_finOf 0 = .ok (.iload_n 0, 1) := by decide +kernel
theorem dX1_finOf_1 : decode cX1_finOf 1 = .ok (.iconst 3, 1) := by decide +kernel
theorem dX1_finOf_2 : decode cX1_finOf 2 = .ok (.if_icmp .ne 7, 3) := by decide +kernel
theorem dX1_finOf_5 : decode cX1_finOf 5 = .ok (.iconst 1, 1) := by decide +kernel
theorem dX1_finOf_6 : decode cX1_finOf 6 = .ok (.goto 4, 3) := by decide +kernel
theorem dX1_finOf_9 : decode cX1_finOf 9 = .ok (.iconst 0, 1) := by decide +kernel
theorem dX1_finOf_10 : decode cX1_finOf 10 = .ok (.ireturn, 1) := by decide +kernel
theorem dX1_madeOf_0 : decode cX1_madeOf 0 = .ok (.iload_n 1, 1) := by decide +kernel
theorem dX1_madeOf_1 : decode cX1_madeOf 1 = .ok (.iconst 1, 1) := by decide +kernel
theorem dX1_madeOf_2 : decode cX1_madeOf 2 = .ok (.if_icmp .ne 9, 3) := by decide +kernel
theorem dX1_madeOf_5 : decode cX1_madeOf 5 = .ok (.sipush 132, 3) := by decide +kernel
theorem dX1_madeOf_8 : decode cX1_madeOf 8 = .ok (.goto 5, 3) := by decide +kernel
theorem dX1_madeOf_11 : decode cX1_madeOf 11 = .ok (.bipush 13, 2) := by decide +kernel
theorem dX1_madeOf_13 : decode cX1_madeOf 13 = .ok (.istore_n 2, 1) := by decide +kernel
theorem dX1_madeOf_14 : decode cX1_madeOf 14 = .ok (.iload_n 0, 1) := by decide +kernel
theorem dX1_madeOf_15 : decode cX1_madeOf 15 = .ok (.iconst 1, 1) := by decide +kernel
theorem dX1_madeOf_16 : decode cX1_madeOf 16 = .ok (.invokestatic 19, 3) := by decide +kernel
theorem dX1_madeOf_19 : decode cX1_madeOf 19 = .ok (.ifCond .eq 10, 3) := by decide +kernel
theorem dX1_madeOf_22 : decode cX1_madeOf 22 = .ok (.iload_n 2, 1) := by decide +kernel
theorem dX1_madeOf_23 : decode cX1_madeOf 23 = .ok (.bipush 10, 2) := by decide +kernel
theorem dX1_madeOf_25 : decode cX1_madeOf 25 = .ok (.imul, 1) := by decide +kernel
theorem dX1_madeOf_26 : decode cX1_madeOf 26 = .ok (.iconst 4, 1) := by decide +kernel
theorem dX1_madeOf_27 : decode cX1_madeOf 27 = .ok (.iadd, 1) := by decide +kernel
theorem dX1_madeOf_28 : decode cX1_madeOf 28 = .ok (.istore_n 2, 1) := by decide +kernel
theorem dX1_madeOf_29 : decode cX1_madeOf 29 = .ok (.iload_n 0, 1) := by decide +kernel
theorem dX1_madeOf_30 : decode cX1_madeOf 30 = .ok (.iconst 2, 1) := by decide +kernel
theorem dX1_madeOf_31 : decode cX1_madeOf 31 = .ok (.invokestatic 19, 3) := by decide +kernel
theorem dX1_madeOf_34 : decode cX1_madeOf 34 = .ok (.ifCond .eq 10, 3) := by decide +kernel
theorem dX1_madeOf_37 : decode cX1_madeOf 37 = .ok (.iload_n 2, 1) := by decide +kernel
theorem dX1_madeOf_38 : decode cX1_madeOf 38 = .ok (.bipush 10, 2) := by decide +kernel
theorem dX1_madeOf_40 : decode cX1_madeOf 40 = .ok (.imul, 1) := by decide +kernel
theorem dX1_madeOf_41 : decode cX1_madeOf 41 = .ok (.iconst 5, 1) := by decide +kernel
theorem dX1_madeOf_42 : decode cX1_madeOf 42 = .ok (.iadd, 1) := by decide +kernel
theorem dX1_madeOf_43 : decode cX1_madeOf 43 = .ok (.istore_n 2, 1) := by decide +kernel
theorem dX1_madeOf_44 : decode cX1_madeOf 44 = .ok (.iload_n 0, 1) := by decide +kernel
theorem dX1_madeOf_45 : decode cX1_madeOf 45 = .ok (.iconst 3, 1) := by decide +kernel
theorem dX1_madeOf_46 : decode cX1_madeOf 46 = .ok (.if_icmp .eq 13, 3) := by decide +kernel
theorem dX1_madeOf_49 : decode cX1_madeOf 49 = .ok (.iload_n 0, 1) := by decide +kernel
theorem dX1_madeOf_50 : decode cX1_madeOf 50 = .ok (.iconst 4, 1) := by decide +kernel
theorem dX1_madeOf_51 : decode cX1_madeOf 51 = .ok (.if_icmp .eq 8, 3) := by decide +kernel
theorem dX1_madeOf_54 : decode cX1_madeOf 54 = .ok (.iload_n 0, 1) := by decide +kernel
theorem dX1_madeOf_55 : decode cX1_madeOf 55 = .ok (.iconst 5, 1) := by decide +kernel
theorem dX1_madeOf_56 : decode cX1_madeOf 56 = .ok (.if_icmp .ne 12, 3) := by decide +kernel
theorem dX1_madeOf_59 : decode cX1_madeOf 59 = .ok (.iload_n 2, 1) := by decide +kernel
theorem dX1_madeOf_60 : decode cX1_madeOf 60 = .ok (.bipush 10, 2) := by decide +kernel
theorem dX1_madeOf_62 : decode cX1_madeOf 62 = .ok (.imul, 1) := by decide +kernel
theorem dX1_madeOf_63 : decode cX1_madeOf 63 = .ok (.iconst 3, 1) := by decide +kernel
theorem dX1_madeOf_64 : decode cX1_madeOf 64 = .ok (.iadd, 1) := by decide +kernel
theorem dX1_madeOf_65 : decode cX1_madeOf 65 = .ok (.iload_n 0, 1) := by decide +kernel
theorem dX1_madeOf_66 : decode cX1_madeOf 66 = .ok (.iadd, 1) := by decide +kernel
theorem dX1_madeOf_67 : decode cX1_madeOf 67 = .ok (.istore_n 2, 1) := by decide +kernel
theorem dX1_madeOf_68 : decode cX1_madeOf 68 = .ok (.iload_n 2, 1) := by decide +kernel
theorem dX1_madeOf_69 : decode cX1_madeOf 69 = .ok (.ireturn, 1) := by decide +kernel
theorem dX2_init_0 : decode cX2_init 0 = .ok (.aload_n 0, 1) := by decide +kernel
theorem dX2_init_1 : decode cX2_init 1 = .ok (.invokespecial 3, 3) := by decide +kernel
theorem dX2_init_4 : decode cX2_init 4 = .ok (.aload_n 0, 1) := by decide +kernel
theorem dX2_init_5 : decode cX2_init 5 = .ok (.bipush 12, 2) := by decide +kernel
theorem dX2_init_7 : decode cX2_init 7 = .ok (.newarray .int, 2) := by decide +kernel
theorem dX2_init_9 : decode cX2_init 9 = .ok (.putfield 9, 3) := by decide +kernel
theorem dX2_init_12 : decode cX2_init 12 = .ok (.aload_n 0, 1) := by decide +kernel
theorem dX2_init_13 : decode cX2_init 13 = .ok (.bipush 12, 2) := by decide +kernel
theorem dX2_init_15 : decode cX2_init 15 = .ok (.newarray .int, 2) := by decide +kernel
theorem dX2_init_17 : decode cX2_init 17 = .ok (.putfield 15, 3) := by decide +kernel
theorem dX2_init_20 : decode cX2_init 20 = .ok (.aload_n 0, 1) := by decide +kernel
theorem dX2_init_21 : decode cX2_init 21 = .ok (.bipush 12, 2) := by decide +kernel
theorem dX2_init_23 : decode cX2_init 23 = .ok (.newarray .int, 2) := by decide +kernel
theorem dX2_init_25 : decode cX2_init 25 = .ok (.putfield 18, 3) := by decide +kernel
theorem dX2_init_28 : decode cX2_init 28 = .ok (.aload_n 0, 1) := by decide +kernel
theorem dX2_init_29 : decode cX2_init 29 = .ok (.iconst 0, 1) := by decide +kernel
theorem dX2_init_30 : decode cX2_init 30 = .ok (.putfield 21, 3) := by decide +kernel
theorem dX2_init_33 : decode cX2_init 33 = .ok (.return_, 1) := by decide +kernel
theorem dX2_become_0 : decode cX2_become 0 = .ok (.aload_n 1, 1) := by decide +kernel
theorem dX2_become_1 : decode cX2_become 1 = .ok (.getfield 9, 3) := by decide +kernel
theorem dX2_become_4 : decode cX2_become 4 = .ok (.iconst 0, 1) := by decide +kernel
theorem dX2_become_5 : decode cX2_become 5 = .ok (.aload_n 0, 1) := by decide +kernel
theorem dX2_become_6 : decode cX2_become 6 = .ok (.getfield 9, 3) := by decide +kernel
theorem dX2_become_9 : decode cX2_become 9 = .ok (.iconst 0, 1) := by decide +kernel
theorem dX2_become_10 : decode cX2_become 10 = .ok (.bipush 12, 2) := by decide +kernel
theorem dX2_become_12 : decode cX2_become 12 = .ok (.invokestatic 25, 3) := by decide +kernel
theorem dX2_become_15 : decode cX2_become 15 = .ok (.aload_n 1, 1) := by decide +kernel
theorem dX2_become_16 : decode cX2_become 16 = .ok (.getfield 15, 3) := by decide +kernel
theorem dX2_become_19 : decode cX2_become 19 = .ok (.iconst 0, 1) := by decide +kernel
theorem dX2_become_20 : decode cX2_become 20 = .ok (.aload_n 0, 1) := by decide +kernel
theorem dX2_become_21 : decode cX2_become 21 = .ok (.getfield 15, 3) := by decide +kernel
theorem dX2_become_24 : decode cX2_become 24 = .ok (.iconst 0, 1) := by decide +kernel
theorem dX2_become_25 : decode cX2_become 25 = .ok (.bipush 12, 2) := by decide +kernel
theorem dX2_become_27 : decode cX2_become 27 = .ok (.invokestatic 25, 3) := by decide +kernel
theorem dX2_become_30 : decode cX2_become 30 = .ok (.aload_n 1, 1) := by decide +kernel
theorem dX2_become_31 : decode cX2_become 31 = .ok (.getfield 18, 3) := by decide +kernel
theorem dX2_become_34 : decode cX2_become 34 = .ok (.iconst 0, 1) := by decide +kernel
theorem dX2_become_35 : decode cX2_become 35 = .ok (.aload_n 0, 1) := by decide +kernel
theorem dX2_become_36 : decode cX2_become 36 = .ok (.getfield 18, 3) := by decide +kernel
theorem dX2_become_39 : decode cX2_become 39 = .ok (.iconst 0, 1) := by decide +kernel
theorem dX2_become_40 : decode cX2_become 40 = .ok (.bipush 12, 2) := by decide +kernel
theorem dX2_become_42 : decode cX2_become 42 = .ok (.invokestatic 25, 3) := by decide +kernel
theorem dX2_become_45 : decode cX2_become 45 = .ok (.aload_n 0, 1) := by decide +kernel
theorem dX2_become_46 : decode cX2_become 46 = .ok (.aload_n 1, 1) := by decide +kernel
theorem dX2_become_47 : decode cX2_become 47 = .ok (.getfield 21, 3) := by decide +kernel
theorem dX2_become_50 : decode cX2_become 50 = .ok (.putfield 21, 3) := by decide +kernel
theorem dX2_become_53 : decode cX2_become 53 = .ok (.return_, 1) := by decide +kernel
theorem dX2_append_0 : decode cX2_append 0 = .ok (.aload_n 0, 1) := by decide +kernel
theorem dX2_append_1 : decode cX2_append 1 = .ok (.getfield 21, 3) := by decide +kernel
theorem dX2_append_4 : decode cX2_append 4 = .ok (.bipush 12, 2) := by decide +kernel
theorem dX2_append_6 : decode cX2_append 6 = .ok (.if_icmp .lt 6, 3) := by decide +kernel
theorem dX2_append_9 : decode cX2_append 9 = .ok (.bipush (-4), 2) := by decide +kernel
theorem dX2_append_11 : decode cX2_append 11 = .ok (.ireturn, 1) := by decide +kernel
theorem dX2_append_12 : decode cX2_append 12 = .ok (.aload_n 0, 1) := by decide +kernel
theorem dX2_append_13 : decode cX2_append 13 = .ok (.getfield 9, 3) := by decide +kernel
theorem dX2_append_16 : decode cX2_append 16 = .ok (.aload_n 0, 1) := by decide +kernel
theorem dX2_append_17 : decode cX2_append 17 = .ok (.getfield 21, 3) := by decide +kernel
theorem dX2_append_20 : decode cX2_append 20 = .ok (.iload_n 1, 1) := by decide +kernel
theorem dX2_append_21 : decode cX2_append 21 = .ok (.iastore, 1) := by decide +kernel
theorem dX2_append_22 : decode cX2_append 22 = .ok (.aload_n 0, 1) := by decide +kernel
theorem dX2_append_23 : decode cX2_append 23 = .ok (.getfield 15, 3) := by decide +kernel
theorem dX2_append_26 : decode cX2_append 26 = .ok (.aload_n 0, 1) := by decide +kernel
theorem dX2_append_27 : decode cX2_append 27 = .ok (.getfield 21, 3) := by decide +kernel
theorem dX2_append_30 : decode cX2_append 30 = .ok (.iload_n 2, 1) := by decide +kernel
theorem dX2_append_31 : decode cX2_append 31 = .ok (.iastore, 1) := by decide +kernel
theorem dX2_append_32 : decode cX2_append 32 = .ok (.aload_n 0, 1) := by decide +kernel
theorem dX2_append_33 : decode cX2_append 33 = .ok (.getfield 18, 3) := by decide +kernel
theorem dX2_append_36 : decode cX2_append 36 = .ok (.aload_n 0, 1) := by decide +kernel
theorem dX2_append_37 : decode cX2_append 37 = .ok (.getfield 21, 3) := by decide +kernel
theorem dX2_append_40 : decode cX2_append 40 = .ok (.iload_n 3, 1) := by decide +kernel
theorem dX2_append_41 : decode cX2_append 41 = .ok (.iastore, 1) := by decide +kernel
theorem dX2_append_42 : decode cX2_append 42 = .ok (.aload_n 0, 1) := by decide +kernel
theorem dX2_append_43 : decode cX2_append 43 = .ok (.dup, 1) := by decide +kernel
theorem dX2_append_44 : decode cX2_append 44 = .ok (.getfield 21, 3) := by decide +kernel
theorem dX2_append_47 : decode cX2_append 47 = .ok (.iconst 1, 1) := by decide +kernel
theorem dX2_append_48 : decode cX2_append 48 = .ok (.iadd, 1) := by decide +kernel
theorem dX2_append_49 : decode cX2_append 49 = .ok (.putfield 21, 3) := by decide +kernel
theorem dX2_append_52 : decode cX2_append 52 = .ok (.aload_n 0, 1) := by decide +kernel
theorem dX2_append_53 : decode cX2_append 53 = .ok (.getfield 21, 3) := by decide +kernel
theorem dX2_append_56 : decode cX2_append 56 = .ok (.ireturn, 1) := by decide +kernel
theorem dX2_removeOf_0 : decode cX2_removeOf 0 = .ok (.aload_n 0, 1) := by decide +kernel
theorem dX2_removeOf_1 : decode cX2_removeOf 1 = .ok (.getfield 21, 3) := by decide +kernel
theorem dX2_removeOf_4 : decode cX2_removeOf 4 = .ok (.istore_n 2, 1) := by decide +kernel
theorem dX2_removeOf_5 : decode cX2_removeOf 5 = .ok (.aload_n 0, 1) := by decide +kernel
theorem dX2_removeOf_6 : decode cX2_removeOf 6 = .ok (.iconst 0, 1) := by decide +kernel
theorem dX2_removeOf_7 : decode cX2_removeOf 7 = .ok (.putfield 21, 3) := by decide +kernel
theorem dX2_removeOf_10 : decode cX2_removeOf 10 = .ok (.iconst 0, 1) := by decide +kernel
theorem dX2_removeOf_11 : decode cX2_removeOf 11 = .ok (.istore_n 3, 1) := by decide +kernel
theorem dX2_removeOf_12 : decode cX2_removeOf 12 = .ok (.iload_n 3, 1) := by decide +kernel
theorem dX2_removeOf_13 : decode cX2_removeOf 13 = .ok (.iload_n 2, 1) := by decide +kernel
theorem dX2_removeOf_14 : decode cX2_removeOf 14 = .ok (.if_icmp .ge 42, 3) := by decide +kernel
theorem dX2_removeOf_17 : decode cX2_removeOf 17 = .ok (.aload_n 0, 1) := by decide +kernel
theorem dX2_removeOf_18 : decode cX2_removeOf 18 = .ok (.getfield 9, 3) := by decide +kernel
theorem dX2_removeOf_21 : decode cX2_removeOf 21 = .ok (.iload_n 3, 1) := by decide +kernel
theorem dX2_removeOf_22 : decode cX2_removeOf 22 = .ok (.iaload, 1) := by decide +kernel
theorem dX2_removeOf_23 : decode cX2_removeOf 23 = .ok (.iload_n 1, 1) := by decide +kernel
theorem dX2_removeOf_24 : decode cX2_removeOf 24 = .ok (.if_icmp .eq 26, 3) := by decide +kernel
theorem dX2_removeOf_27 : decode cX2_removeOf 27 = .ok (.aload_n 0, 1) := by decide +kernel
theorem dX2_removeOf_28 : decode cX2_removeOf 28 = .ok (.aload_n 0, 1) := by decide +kernel
theorem dX2_removeOf_29 : decode cX2_removeOf 29 = .ok (.getfield 9, 3) := by decide +kernel
theorem dX2_removeOf_32 : decode cX2_removeOf 32 = .ok (.iload_n 3, 1) := by decide +kernel
theorem dX2_removeOf_33 : decode cX2_removeOf 33 = .ok (.iaload, 1) := by decide +kernel
theorem dX2_removeOf_34 : decode cX2_removeOf 34 = .ok (.aload_n 0, 1) := by decide +kernel
theorem dX2_removeOf_35 : decode cX2_removeOf 35 = .ok (.getfield 15, 3) := by decide +kernel
theorem dX2_removeOf_38 : decode cX2_removeOf 38 = .ok (.iload_n 3, 1) := by decide +kernel
theorem dX2_removeOf_39 : decode cX2_removeOf 39 = .ok (.iaload, 1) := by decide +kernel
theorem dX2_removeOf_40 : decode cX2_removeOf 40 = .ok (.aload_n 0, 1) := by decide +kernel
theorem dX2_removeOf_41 : decode cX2_removeOf 41 = .ok (.getfield 18, 3) := by decide +kernel
theorem dX2_removeOf_44 : decode cX2_removeOf 44 = .ok (.iload_n 3, 1) := by decide +kernel
theorem dX2_removeOf_45 : decode cX2_removeOf 45 = .ok (.iaload, 1) := by decide +kernel
theorem dX2_removeOf_46 : decode cX2_removeOf 46 = .ok (.invokevirtual 31, 3) := by decide +kernel
theorem dX2_removeOf_49 : decode cX2_removeOf 49 = .ok (.pop, 1) := by decide +kernel
theorem dX2_removeOf_50 : decode cX2_removeOf 50 = .ok (.iinc 3 1, 3) := by decide +kernel
theorem dX2_removeOf_53 : decode cX2_removeOf 53 = .ok (.goto (-41), 3) := by decide +kernel
theorem dX2_removeOf_56 : decode cX2_removeOf 56 = .ok (.iload_n 2, 1) := by decide +kernel
theorem dX2_removeOf_57 : decode cX2_removeOf 57 = .ok (.aload_n 0, 1) := by decide +kernel
theorem dX2_removeOf_58 : decode cX2_removeOf 58 = .ok (.getfield 21, 3) := by decide +kernel
theorem dX2_removeOf_61 : decode cX2_removeOf 61 = .ok (.isub, 1) := by decide +kernel
theorem dX2_removeOf_62 : decode cX2_removeOf 62 = .ok (.ireturn, 1) := by decide +kernel
theorem dX2_warmNext_0 : decode cX2_warmNext 0 = .ok (.iconst 0, 1) := by decide +kernel
theorem dX2_warmNext_1 : decode cX2_warmNext 1 = .ok (.istore 4, 2) := by decide +kernel
theorem dX2_warmNext_3 : decode cX2_warmNext 3 = .ok (.iload 4, 2) := by decide +kernel
theorem dX2_warmNext_5 : decode cX2_warmNext 5 = .ok (.aload_n 0, 1) := by decide +kernel
theorem dX2_warmNext_6 : decode cX2_warmNext 6 = .ok (.getfield 21, 3) := by decide +kernel
theorem dX2_warmNext_9 : decode cX2_warmNext 9 = .ok (.if_icmp .ge 58, 3) := by decide +kernel
theorem dX2_warmNext_12 : decode cX2_warmNext 12 = .ok (.aload_n 0, 1) := by decide +kernel
theorem dX2_warmNext_13 : decode cX2_warmNext 13 = .ok (.getfield 9, 3) := by decide +kernel
theorem dX2_warmNext_16 : decode cX2_warmNext 16 = .ok (.iload 4, 2) := by decide +kernel
theorem dX2_warmNext_18 : decode cX2_warmNext 18 = .ok (.iaload, 1) := by decide +kernel
theorem dX2_warmNext_19 : decode cX2_warmNext 19 = .ok (.istore 5, 2) := by decide +kernel
theorem dX2_warmNext_21 : decode cX2_warmNext 21 = .ok (.aload_n 0, 1) := by decide +kernel
theorem dX2_warmNext_22 : decode cX2_warmNext 22 = .ok (.getfield 15, 3) := by decide +kernel
theorem dX2_warmNext_25 : decode cX2_warmNext 25 = .ok (.iload 4, 2) := by decide +kernel
theorem dX2_warmNext_27 : decode cX2_warmNext 27 = .ok (.iaload, 1) := by decide +kernel
theorem dX2_warmNext_28 : decode cX2_warmNext 28 = .ok (.iconst 1, 1) := by decide +kernel
theorem dX2_warmNext_29 : decode cX2_warmNext 29 = .ok (.if_icmp .ne 32, 3) := by decide +kernel
theorem dX2_warmNext_32 : decode cX2_warmNext 32 = .ok (.iload 5, 2) := by decide +kernel
theorem dX2_warmNext_34 : decode cX2_warmNext 34 = .ok (.ifCond .lt 27, 3) := by decide +kernel
theorem dX2_warmNext_37 : decode cX2_warmNext 37 = .ok (.iload 5, 2) := by decide +kernel
theorem dX2_warmNext_39 : decode cX2_warmNext 39 = .ok (.aload_n 1, 1) := by decide +kernel
theorem dX2_warmNext_40 : decode cX2_warmNext 40 = .ok (.arraylength, 1) := by decide +kernel
theorem dX2_warmNext_41 : decode cX2_warmNext 41 = .ok (.if_icmp .ge 20, 3) := by decide +kernel
theorem dX2_warmNext_44 : decode cX2_warmNext 44 = .ok (.aload_n 1, 1) := by decide +kernel
theorem dX2_warmNext_45 : decode cX2_warmNext 45 = .ok (.iload 5, 2) := by decide +kernel
theorem dX2_warmNext_47 : decode cX2_warmNext 47 = .ok (.dup2, 1) := by decide +kernel
theorem dX2_warmNext_48 : decode cX2_warmNext 48 = .ok (.laload, 1) := by decide +kernel
theorem dX2_warmNext_49 : decode cX2_warmNext 49 = .ok (.aload_n 0, 1) := by decide +kernel
theorem dX2_warmNext_50 : decode cX2_warmNext 50 = .ok (.getfield 18, 3) := by decide +kernel
theorem dX2_warmNext_53 : decode cX2_warmNext 53 = .ok (.iload 4, 2) := by decide +kernel
theorem dX2_warmNext_55 : decode cX2_warmNext 55 = .ok (.iaload, 1) := by decide +kernel
theorem dX2_warmNext_56 : decode cX2_warmNext 56 = .ok (.i2l, 1) := by decide +kernel
theorem dX2_warmNext_57 : decode cX2_warmNext 57 = .ok (.lload_n 2, 1) := by decide +kernel
theorem dX2_warmNext_58 : decode cX2_warmNext 58 = .ok (.lmul, 1) := by decide +kernel
theorem dX2_warmNext_59 : decode cX2_warmNext 59 = .ok (.ladd, 1) := by decide +kernel
theorem dX2_warmNext_60 : decode cX2_warmNext 60 = .ok (.lastore, 1) := by decide +kernel
theorem dX2_warmNext_61 : decode cX2_warmNext 61 = .ok (.iinc 4 1, 3) := by decide +kernel
theorem dX2_warmNext_64 : decode cX2_warmNext 64 = .ok (.goto (-61), 3) := by decide +kernel
theorem dX2_warmNext_67 : decode cX2_warmNext 67 = .ok (.return_, 1) := by decide +kernel
theorem dX2_passOne_0 : decode cX2_passOne 0 = .ok (.aload_n 0, 1) := by decide +kernel
theorem dX2_passOne_1 : decode cX2_passOne 1 = .ok (.getfield 21, 3) := by decide +kernel
theorem dX2_passOne_4 : decode cX2_passOne 4 = .ok (.istore_n 1, 1) := by decide +kernel
theorem dX2_passOne_5 : decode cX2_passOne 5 = .ok (.aload_n 0, 1) := by decide +kernel
theorem dX2_passOne_6 : decode cX2_passOne 6 = .ok (.iconst 0, 1) := by decide +kernel
theorem dX2_passOne_7 : decode cX2_passOne 7 = .ok (.putfield 21, 3) := by decide +kernel
theorem dX2_passOne_10 : decode cX2_passOne 10 = .ok (.iconst 0, 1) := by decide +kernel
theorem dX2_passOne_11 : decode cX2_passOne 11 = .ok (.istore_n 2, 1) := by decide +kernel
theorem dX2_passOne_12 : decode cX2_passOne 12 = .ok (.iload_n 2, 1) := by decide +kernel
theorem dX2_passOne_13 : decode cX2_passOne 13 = .ok (.iload_n 1, 1) := by decide +kernel
theorem dX2_passOne_14 : decode cX2_passOne 14 = .ok (.if_icmp .ge 44, 3) := by decide +kernel
theorem dX2_passOne_17 : decode cX2_passOne 17 = .ok (.aload_n 0, 1) := by decide +kernel
theorem dX2_passOne_18 : decode cX2_passOne 18 = .ok (.getfield 15, 3) := by decide +kernel
theorem dX2_passOne_21 : decode cX2_passOne 21 = .ok (.iload_n 2, 1) := by decide +kernel
theorem dX2_passOne_22 : decode cX2_passOne 22 = .ok (.iaload, 1) := by decide +kernel
theorem dX2_passOne_23 : decode cX2_passOne 23 = .ok (.iconst 1, 1) := by decide +kernel
theorem dX2_passOne_24 : decode cX2_passOne 24 = .ok (.if_icmp .le 28, 3) := by decide +kernel
theorem dX2_passOne_27 : decode cX2_passOne 27 = .ok (.aload_n 0, 1) := by decide +kernel
theorem dX2_passOne_28 : decode cX2_passOne 28 = .ok (.aload_n 0, 1) := by decide +kernel
theorem dX2_passOne_29 : decode cX2_passOne 29 = .ok (.getfield 9, 3) := by decide +kernel
theorem dX2_passOne_32 : decode cX2_passOne 32 = .ok (.iload_n 2, 1) := by decide +kernel
theorem dX2_passOne_33 : decode cX2_passOne 33 = .ok (.iaload, 1) := by decide +kernel
theorem dX2_passOne_34 : decode cX2_passOne 34 = .ok (.aload_n 0, 1) := by decide +kernel
theorem dX2_passOne_35 : decode cX2_passOne 35 = .ok (.getfield 15, 3) := by decide +kernel
theorem dX2_passOne_38 : decode cX2_passOne 38 = .ok (.iload_n 2, 1) := by decide +kernel
theorem dX2_passOne_39 : decode cX2_passOne 39 = .ok (.iaload, 1) := by decide +kernel
theorem dX2_passOne_40 : decode cX2_passOne 40 = .ok (.iconst 1, 1) := by decide +kernel
theorem dX2_passOne_41 : decode cX2_passOne 41 = .ok (.isub, 1) := by decide +kernel
theorem dX2_passOne_42 : decode cX2_passOne 42 = .ok (.aload_n 0, 1) := by decide +kernel
theorem dX2_passOne_43 : decode cX2_passOne 43 = .ok (.getfield 18, 3) := by decide +kernel
theorem dX2_passOne_46 : decode cX2_passOne 46 = .ok (.iload_n 2, 1) := by decide +kernel
theorem dX2_passOne_47 : decode cX2_passOne 47 = .ok (.iaload, 1) := by decide +kernel
theorem dX2_passOne_48 : decode cX2_passOne 48 = .ok (.invokevirtual 31, 3) := by decide +kernel
theorem dX2_passOne_51 : decode cX2_passOne 51 = .ok (.pop, 1) := by decide +kernel
theorem dX2_passOne_52 : decode cX2_passOne 52 = .ok (.iinc 2 1, 3) := by decide +kernel
theorem dX2_passOne_55 : decode cX2_passOne 55 = .ok (.goto (-43), 3) := by decide +kernel
theorem dX2_passOne_58 : decode cX2_passOne 58 = .ok (.return_, 1) := by decide +kernel
theorem dX3_init_0 : decode cX3_init 0 = .ok (.aload_n 0, 1) := by decide +kernel
theorem dX3_init_1 : decode cX3_init 1 = .ok (.invokespecial 3, 3) := by decide +kernel
theorem dX3_init_4 : decode cX3_init 4 = .ok (.aload_n 0, 1) := by decide +kernel
theorem dX3_init_5 : decode cX3_init 5 = .ok (.iconst 4, 1) := by decide +kernel
theorem dX3_init_6 : decode cX3_init 6 = .ok (.newarray .int, 2) := by decide +kernel
theorem dX3_init_8 : decode cX3_init 8 = .ok (.dup, 1) := by decide +kernel
theorem dX3_init_9 : decode cX3_init 9 = .ok (.iconst 0, 1) := by decide +kernel
theorem dX3_init_10 : decode cX3_init 10 = .ok (.iconst (-1), 1) := by decide +kernel
theorem dX3_init_11 : decode cX3_init 11 = .ok (.iastore, 1) := by decide +kernel
theorem dX3_init_12 : decode cX3_init 12 = .ok (.dup, 1) := by decide +kernel
theorem dX3_init_13 : decode cX3_init 13 = .ok (.iconst 1, 1) := by decide +kernel
theorem dX3_init_14 : decode cX3_init 14 = .ok (.iconst (-1), 1) := by decide +kernel
theorem dX3_init_15 : decode cX3_init 15 = .ok (.iastore, 1) := by decide +kernel
theorem dX3_init_16 : decode cX3_init 16 = .ok (.dup, 1) := by decide +kernel
theorem dX3_init_17 : decode cX3_init 17 = .ok (.iconst 2, 1) := by decide +kernel
theorem dX3_init_18 : decode cX3_init 18 = .ok (.iconst (-1), 1) := by decide +kernel
theorem dX3_init_19 : decode cX3_init 19 = .ok (.iastore, 1) := by decide +kernel
theorem dX3_init_20 : decode cX3_init 20 = .ok (.dup, 1) := by decide +kernel
theorem dX3_init_21 : decode cX3_init 21 = .ok (.iconst 3, 1) := by decide +kernel
theorem dX3_init_22 : decode cX3_init 22 = .ok (.iconst (-1), 1) := by decide +kernel
theorem dX3_init_23 : decode cX3_init 23 = .ok (.iastore, 1) := by decide +kernel
theorem dX3_init_24 : decode cX3_init 24 = .ok (.putfield 9, 3) := by decide +kernel
theorem dX3_init_27 : decode cX3_init 27 = .ok (.aload_n 0, 1) := by decide +kernel
theorem dX3_init_28 : decode cX3_init 28 = .ok (.iconst 4, 1) := by decide +kernel
theorem dX3_init_29 : decode cX3_init 29 = .ok (.newarray .int, 2) := by decide +kernel
theorem dX3_init_31 : decode cX3_init 31 = .ok (.putfield 15, 3) := by decide +kernel
theorem dX3_init_34 : decode cX3_init 34 = .ok (.aload_n 0, 1) := by decide +kernel
theorem dX3_init_35 : decode cX3_init 35 = .ok (.iconst 4, 1) := by decide +kernel
theorem dX3_init_36 : decode cX3_init 36 = .ok (.bipush 40, 2) := by decide +kernel
theorem dX3_init_38 : decode cX3_init 38 = .ok (.multianewarray 18 2, 4) := by decide +kernel
theorem dX3_init_42 : decode cX3_init 42 = .ok (.putfield 20, 3) := by decide +kernel
theorem dX3_init_45 : decode cX3_init 45 = .ok (.return_, 1) := by decide +kernel
theorem dX3_isMissing_0 : decode cX3_isMissing 0 = .ok (.aload_n 0, 1) := by decide +kernel
theorem dX3_isMissing_1 : decode cX3_isMissing 1 = .ok (.getfield 9, 3) := by decide +kernel
theorem dX3_isMissing_4 : decode cX3_isMissing 4 = .ok (.iload_n 1, 1) := by decide +kernel
theorem dX3_isMissing_5 : decode cX3_isMissing 5 = .ok (.iaload, 1) := by decide +kernel
theorem dX3_isMissing_6 : decode cX3_isMissing 6 = .ok (.iconst (-1), 1) := by decide +kernel
theorem dX3_isMissing_7 : decode cX3_isMissing 7 = .ok (.if_icmp .ne 7, 3) := by decide +kernel
theorem dX3_isMissing_10 : decode cX3_isMissing 10 = .ok (.iconst 1, 1) := by decide +kernel
theorem dX3_isMissing_11 : decode cX3_isMissing 11 = .ok (.goto 4, 3) := by decide +kernel
theorem dX3_isMissing_14 : decode cX3_isMissing 14 = .ok (.iconst 0, 1) := by decide +kernel
theorem dX3_isMissing_15 : decode cX3_isMissing 15 = .ok (.ireturn, 1) := by decide +kernel
theorem dX3_has_0 : decode cX3_has 0 = .ok (.iload_n 2, 1) := by decide +kernel
theorem dX3_has_1 : decode cX3_has 1 = .ok (.ifCond .lt 17, 3) := by decide +kernel
theorem dX3_has_4 : decode cX3_has 4 = .ok (.iload_n 2, 1) := by decide +kernel
theorem dX3_has_5 : decode cX3_has 5 = .ok (.aload_n 0, 1) := by decide +kernel
theorem dX3_has_6 : decode cX3_has 6 = .ok (.getfield 15, 3) := by decide +kernel
theorem dX3_has_9 : decode cX3_has 9 = .ok (.iload_n 1, 1) := by decide +kernel
theorem dX3_has_10 : decode cX3_has 10 = .ok (.iaload, 1) := by decide +kernel
theorem dX3_has_11 : decode cX3_has 11 = .ok (.if_icmp .ge 7, 3) := by decide +kernel
theorem dX3_has_14 : decode cX3_has 14 = .ok (.iconst 1, 1) := by decide +kernel
theorem dX3_has_15 : decode cX3_has 15 = .ok (.goto 4, 3) := by decide +kernel
theorem dX3_has_18 : decode cX3_has 18 = .ok (.iconst 0, 1) := by decide +kernel
theorem dX3_has_19 : decode cX3_has 19 = .ok (.ireturn, 1) := by decide +kernel
theorem dX3_hasRun_0 : decode cX3_hasRun 0 = .ok (.iload_n 2, 1) := by decide +kernel
theorem dX3_hasRun_1 : decode cX3_hasRun 1 = .ok (.ifCond .lt 23, 3) := by decide +kernel
theorem dX3_hasRun_4 : decode cX3_hasRun 4 = .ok (.iload_n 3, 1) := by decide +kernel
theorem dX3_hasRun_5 : decode cX3_hasRun 5 = .ok (.ifCond .lt 19, 3) := by decide +kernel
theorem dX3_hasRun_8 : decode cX3_hasRun 8 = .ok (.iload_n 2, 1) := by decide +kernel
theorem dX3_hasRun_9 : decode cX3_hasRun 9 = .ok (.aload_n 0, 1) := by decide +kernel
theorem dX3_hasRun_10 : decode cX3_hasRun 10 = .ok (.getfield 15, 3) := by decide +kernel
theorem dX3_hasRun_13 : decode cX3_hasRun 13 = .ok (.iload_n 1, 1) := by decide +kernel
theorem dX3_hasRun_14 : decode cX3_hasRun 14 = .ok (.iaload, 1) := by decide +kernel
theorem dX3_hasRun_15 : decode cX3_hasRun 15 = .ok (.iload_n 3, 1) := by decide +kernel
theorem dX3_hasRun_16 : decode cX3_hasRun 16 = .ok (.isub, 1) := by decide +kernel
theorem dX3_hasRun_17 : decode cX3_hasRun 17 = .ok (.if_icmp .gt 7, 3) := by decide +kernel
theorem dX3_hasRun_20 : decode cX3_hasRun 20 = .ok (.iconst 1, 1) := by decide +kernel
theorem dX3_hasRun_21 : decode cX3_hasRun 21 = .ok (.goto 4, 3) := by decide +kernel
theorem dX3_hasRun_24 : decode cX3_hasRun 24 = .ok (.iconst 0, 1) := by decide +kernel
theorem dX3_hasRun_25 : decode cX3_hasRun 25 = .ok (.ireturn, 1) := by decide +kernel
theorem dX3_renew_0 : decode cX3_renew 0 = .ok (.aload_n 0, 1) := by decide +kernel
theorem dX3_renew_1 : decode cX3_renew 1 = .ok (.getfield 9, 3) := by decide +kernel
theorem dX3_renew_4 : decode cX3_renew 4 = .ok (.iload_n 1, 1) := by decide +kernel
theorem dX3_renew_5 : decode cX3_renew 5 = .ok (.iload_n 2, 1) := by decide +kernel
theorem dX3_renew_6 : decode cX3_renew 6 = .ok (.iastore, 1) := by decide +kernel
theorem dX3_renew_7 : decode cX3_renew 7 = .ok (.aload_n 0, 1) := by decide +kernel
theorem dX3_renew_8 : decode cX3_renew 8 = .ok (.getfield 15, 3) := by decide +kernel
theorem dX3_renew_11 : decode cX3_renew 11 = .ok (.iload_n 1, 1) := by decide +kernel
theorem dX3_renew_12 : decode cX3_renew 12 = .ok (.iload_n 3, 1) := by decide +kernel
theorem dX3_renew_13 : decode cX3_renew 13 = .ok (.iastore, 1) := by decide +kernel
theorem dX3_renew_14 : decode cX3_renew 14 = .ok (.iconst 0, 1) := by decide +kernel
theorem dX3_renew_15 : decode cX3_renew 15 = .ok (.istore 4, 2) := by decide +kernel
theorem dX3_renew_17 : decode cX3_renew 17 = .ok (.iload 4, 2) := by decide +kernel
theorem dX3_renew_19 : decode cX3_renew 19 = .ok (.bipush 40, 2) := by decide +kernel
theorem dX3_renew_21 : decode cX3_renew 21 = .ok (.if_icmp .ge 19, 3) := by decide +kernel
theorem dX3_renew_24 : decode cX3_renew 24 = .ok (.aload_n 0, 1) := by decide +kernel
theorem dX3_renew_25 : decode cX3_renew 25 = .ok (.getfield 20, 3) := by decide +kernel
theorem dX3_renew_28 : decode cX3_renew 28 = .ok (.iload_n 1, 1) := by decide +kernel
theorem dX3_renew_29 : decode cX3_renew 29 = .ok (.aaload, 1) := by decide +kernel
theorem dX3_renew_30 : decode cX3_renew 30 = .ok (.iload 4, 2) := by decide +kernel
theorem dX3_renew_32 : decode cX3_renew 32 = .ok (.iconst 0, 1) := by decide +kernel
theorem dX3_renew_33 : decode cX3_renew 33 = .ok (.iastore, 1) := by decide +kernel
theorem dX3_renew_34 : decode cX3_renew 34 = .ok (.iinc 4 1, 3) := by decide +kernel
theorem dX3_renew_37 : decode cX3_renew 37 = .ok (.goto (-20), 3) := by decide +kernel
theorem dX3_renew_40 : decode cX3_renew 40 = .ok (.return_, 1) := by decide +kernel
theorem dX4_init_0 : decode cX4_init 0 = .ok (.aload_n 0, 1) := by decide +kernel
theorem dX4_init_1 : decode cX4_init 1 = .ok (.invokespecial 3, 3) := by decide +kernel
theorem dX4_init_4 : decode cX4_init 4 = .ok (.aload_n 0, 1) := by decide +kernel
theorem dX4_init_5 : decode cX4_init 5 = .ok (.bipush 8, 2) := by decide +kernel
theorem dX4_init_7 : decode cX4_init 7 = .ok (.newarray .long, 2) := by decide +kernel
theorem dX4_init_9 : decode cX4_init 9 = .ok (.putfield 9, 3) := by decide +kernel
theorem dX4_init_12 : decode cX4_init 12 = .ok (.aload_n 0, 1) := by decide +kernel
theorem dX4_init_13 : decode cX4_init 13 = .ok (.lconst 1, 1) := by decide +kernel
theorem dX4_init_14 : decode cX4_init 14 = .ok (.putfield 15, 3) := by decide +kernel
theorem dX4_init_17 : decode cX4_init 17 = .ok (.aload_n 0, 1) := by decide +kernel
theorem dX4_init_18 : decode cX4_init 18 = .ok (.bipush 9, 2) := by decide +kernel
theorem dX4_init_20 : decode cX4_init 20 = .ok (.newarray .long, 2) := by decide +kernel
theorem dX4_init_22 : decode cX4_init 22 = .ok (.putfield 19, 3) := by decide +kernel
theorem dX4_init_25 : decode cX4_init 25 = .ok (.aload_n 0, 1) := by decide +kernel
theorem dX4_init_26 : decode cX4_init 26 = .ok (.bipush 10, 2) := by decide +kernel
theorem dX4_init_28 : decode cX4_init 28 = .ok (.newarray .long, 2) := by decide +kernel
theorem dX4_init_30 : decode cX4_init 30 = .ok (.putfield 22, 3) := by decide +kernel
theorem dX4_init_33 : decode cX4_init 33 = .ok (.aload_n 0, 1) := by decide +kernel
theorem dX4_init_34 : decode cX4_init 34 = .ok (.bipush 9, 2) := by decide +kernel
theorem dX4_init_36 : decode cX4_init 36 = .ok (.newarray .long, 2) := by decide +kernel
theorem dX4_init_38 : decode cX4_init 38 = .ok (.putfield 25, 3) := by decide +kernel
theorem dX4_init_41 : decode cX4_init 41 = .ok (.aload_n 0, 1) := by decide +kernel
theorem dX4_init_42 : decode cX4_init 42 = .ok (.bipush 9, 2) := by decide +kernel
theorem dX4_init_44 : decode cX4_init 44 = .ok (.newarray .long, 2) := by decide +kernel
theorem dX4_init_46 : decode cX4_init 46 = .ok (.putfield 28, 3) := by decide +kernel
theorem dX4_init_49 : decode cX4_init 49 = .ok (.return_, 1) := by decide +kernel
theorem dX4_solve_0 : decode cX4_solve 0 = .ok (.aload_n 1, 1) := by decide +kernel
theorem dX4_solve_1 : decode cX4_solve 1 = .ok (.getfield 31, 3) := by decide +kernel
theorem dX4_solve_4 : decode cX4_solve 4 = .ok (.istore_n 2, 1) := by decide +kernel
theorem dX4_solve_5 : decode cX4_solve 5 = .ok (.aload_n 0, 1) := by decide +kernel
theorem dX4_solve_6 : decode cX4_solve 6 = .ok (.aload_n 1, 1) := by decide +kernel
theorem dX4_solve_7 : decode cX4_solve 7 = .ok (.iload_n 2, 1) := by decide +kernel
theorem dX4_solve_8 : decode cX4_solve 8 = .ok (.invokevirtual 37, 3) := by decide +kernel
theorem dX4_solve_11 : decode cX4_solve 11 = .ok (.aload_n 0, 1) := by decide +kernel
theorem dX4_solve_12 : decode cX4_solve 12 = .ok (.aload_n 1, 1) := by decide +kernel
theorem dX4_solve_13 : decode cX4_solve 13 = .ok (.iload_n 2, 1) := by decide +kernel
theorem dX4_solve_14 : decode cX4_solve 14 = .ok (.invokevirtual 41, 3) := by decide +kernel
theorem dX4_solve_17 : decode cX4_solve 17 = .ok (.iconst 0, 1) := by decide +kernel
theorem dX4_solve_18 : decode cX4_solve 18 = .ok (.istore_n 3, 1) := by decide +kernel
theorem dX4_solve_19 : decode cX4_solve 19 = .ok (.iload_n 3, 1) := by decide +kernel
theorem dX4_solve_20 : decode cX4_solve 20 = .ok (.iload_n 2, 1) := by decide +kernel
theorem dX4_solve_21 : decode cX4_solve 21 = .ok (.if_icmp .ge 55, 3) := by decide +kernel
theorem dX4_solve_24 : decode cX4_solve 24 = .ok (.aload_n 0, 1) := by decide +kernel
theorem dX4_solve_25 : decode cX4_solve 25 = .ok (.getfield 9, 3) := by decide +kernel
theorem dX4_solve_28 : decode cX4_solve 28 = .ok (.iload_n 3, 1) := by decide +kernel
theorem dX4_solve_29 : decode cX4_solve 29 = .ok (.aload_n 0, 1) := by decide +kernel
theorem dX4_solve_30 : decode cX4_solve 30 = .ok (.getfield 25, 3) := by decide +kernel
theorem dX4_solve_33 : decode cX4_solve 33 = .ok (.iload_n 3, 1) := by decide +kernel
theorem dX4_solve_34 : decode cX4_solve 34 = .ok (.iconst 1, 1) := by decide +kernel
theorem dX4_solve_35 : decode cX4_solve 35 = .ok (.iadd, 1) := by decide +kernel
theorem dX4_solve_36 : decode cX4_solve 36 = .ok (.laload, 1) := by decide +kernel
theorem dX4_solve_37 : decode cX4_solve 37 = .ok (.aload_n 0, 1) := by decide +kernel
theorem dX4_solve_38 : decode cX4_solve 38 = .ok (.getfield 22, 3) := by decide +kernel
theorem dX4_solve_41 : decode cX4_solve 41 = .ok (.iload_n 3, 1) := by decide +kernel
theorem dX4_solve_42 : decode cX4_solve 42 = .ok (.iconst 1, 1) := by decide +kernel
theorem dX4_solve_43 : decode cX4_solve 43 = .ok (.iadd, 1) := by decide +kernel
theorem dX4_solve_44 : decode cX4_solve 44 = .ok (.laload, 1) := by decide +kernel
theorem dX4_solve_45 : decode cX4_solve 45 = .ok (.lmul, 1) := by decide +kernel
theorem dX4_solve_46 : decode cX4_solve 46 = .ok (.aload_n 0, 1) := by decide +kernel
theorem dX4_solve_47 : decode cX4_solve 47 = .ok (.getfield 19, 3) := by decide +kernel
theorem dX4_solve_50 : decode cX4_solve 50 = .ok (.iload_n 3, 1) := by decide +kernel
theorem dX4_solve_51 : decode cX4_solve 51 = .ok (.laload, 1) := by decide +kernel
theorem dX4_solve_52 : decode cX4_solve 52 = .ok (.aload_n 1, 1) := by decide +kernel
theorem dX4_solve_53 : decode cX4_solve 53 = .ok (.iload_n 3, 1) := by decide +kernel
theorem dX4_solve_54 : decode cX4_solve 54 = .ok (.invokevirtual 44, 3) := by decide +kernel
theorem dX4_solve_57 : decode cX4_solve 57 = .ok (.i2l, 1) := by decide +kernel
theorem dX4_solve_58 : decode cX4_solve 58 = .ok (.lmul, 1) := by decide +kernel
theorem dX4_solve_59 : decode cX4_solve 59 = .ok (.aload_n 0, 1) := by decide +kernel
theorem dX4_solve_60 : decode cX4_solve 60 = .ok (.getfield 28, 3) := by decide +kernel
theorem dX4_solve_63 : decode cX4_solve 63 = .ok (.iload_n 3, 1) := by decide +kernel
theorem dX4_solve_64 : decode cX4_solve 64 = .ok (.iconst 1, 1) := by decide +kernel
theorem dX4_solve_65 : decode cX4_solve 65 = .ok (.iadd, 1) := by decide +kernel
theorem dX4_solve_66 : decode cX4_solve 66 = .ok (.laload, 1) := by decide +kernel
theorem dX4_solve_67 : decode cX4_solve 67 = .ok (.lmul, 1) := by decide +kernel
theorem dX4_solve_68 : decode cX4_solve 68 = .ok (.ladd, 1) := by decide +kernel
theorem dX4_solve_69 : decode cX4_solve 69 = .ok (.lastore, 1) := by decide +kernel
theorem dX4_solve_70 : decode cX4_solve 70 = .ok (.iinc 3 1, 3) := by decide +kernel
theorem dX4_solve_73 : decode cX4_solve 73 = .ok (.goto (-54), 3) := by decide +kernel
theorem dX4_solve_76 : decode cX4_solve 76 = .ok (.aload_n 0, 1) := by decide +kernel
theorem dX4_solve_77 : decode cX4_solve 77 = .ok (.aload_n 0, 1) := by decide +kernel
theorem dX4_solve_78 : decode cX4_solve 78 = .ok (.getfield 19, 3) := by decide +kernel
theorem dX4_solve_81 : decode cX4_solve 81 = .ok (.iload_n 2, 1) := by decide +kernel
theorem dX4_solve_82 : decode cX4_solve 82 = .ok (.laload, 1) := by decide +kernel
theorem dX4_solve_83 : decode cX4_solve 83 = .ok (.putfield 15, 3) := by decide +kernel
theorem dX4_solve_86 : decode cX4_solve 86 = .ok (.return_, 1) := by decide +kernel
