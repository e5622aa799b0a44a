theorem dX0_init_0 : decode cX0_init 0 = .ok (.aload_n 0, 1) := by decide +kernel
theorem dX0_init_1 : decode cX0_init 1 = .ok (.invokespecial 3, 3) := by decide +kernel
theorem dX0_init_4 : decode cX0_init 4 = .ok (.aload_n 0, 1) := by decide +kernel
theorem dX0_init_5 : decode cX0_init 5 = .ok (.iconst 5, 1) := by decide +kernel
theorem dX0_init_6 : decode cX0_init 6 = .ok (.newarray .int, 2) := by decide +kernel
theorem dX0_init_8 : decode cX0_init 8 = .ok (.putfield 9, 3) := by decide +kernel
theorem dX0_init_11 : decode cX0_init 11 = .ok (.aload_n 0, 1) := by decide +kernel
theorem dX0_init_12 : decode cX0_init 12 = .ok (.iconst 5, 1) := by decide +kernel
theorem dX0_init_13 : decode cX0_init 13 = .ok (.newarray .int, 2) := by decide +kernel
theorem dX0_init_15 : decode cX0_init 15 = .ok (.putfield 15, 3) := by decide +kernel
theorem dX0_init_18 : decode cX0_init 18 = .ok (.return_, 1) := by decide +kernel
theorem dX0_numerator_0 : decode cX0_numerator 0 = .ok (.aload_n 0, 1) := by decide +kernel
theorem dX0_numerator_1 : decode cX0_numerator 1 = .ok (.getfield 18, 3) := by decide +kernel
theorem dX0_numerator_4 : decode cX0_numerator 4 = .ok (.lreturn, 1) := by decide +kernel
theorem dX0_denominator_0 : decode cX0_denominator 0 = .ok (.aload_n 0, 1) := by decide +kernel
theorem dX0_denominator_1 : decode cX0_denominator 1 = .ok (.getfield 22, 3) := by decide +kernel
theorem dX0_denominator_4 : decode cX0_denominator 4 = .ok (.lreturn, 1) := by decide +kernel
theorem dX0_rowCount_0 : decode cX0_rowCount 0 = .ok (.aload_n 0, 1) := by decide +kernel
theorem dX0_rowCount_1 : decode cX0_rowCount 1 = .ok (.getfield 25, 3) := by decide +kernel
theorem dX0_rowCount_4 : decode cX0_rowCount 4 = .ok (.ireturn, 1) := by decide +kernel
theorem dX0_secondCount_0 : decode cX0_secondCount 0 = .ok (.aload_n 0, 1) := by decide +kernel
theorem dX0_secondCount_1 : decode cX0_secondCount 1 = .ok (.getfield 29, 3) := by decide +kernel
theorem dX0_secondCount_4 : decode cX0_secondCount 4 = .ok (.ireturn, 1) := by decide +kernel
theorem dX0_measureTwo_0 : decode cX0_measureTwo 0 = .ok (.aload_n 0, 1) := by decide +kernel
theorem dX0_measureTwo_1 : decode cX0_measureTwo 1 = .ok (.invokevirtual 32, 3) := by decide +kernel
theorem dX0_measureTwo_4 : decode cX0_measureTwo 4 = .ok (.aload_n 0, 1) := by decide +kernel
theorem dX0_measureTwo_5 : decode cX0_measureTwo 5 = .ok (.getfield 15, 3) := by decide +kernel
theorem dX0_measureTwo_8 : decode cX0_measureTwo 8 = .ok (.iconst 0, 1) := by decide +kernel
theorem dX0_measureTwo_9 : decode cX0_measureTwo 9 = .ok (.invokestatic 35, 3) := by decide +kernel
theorem dX0_measureTwo_12 : decode cX0_measureTwo 12 = .ok (.iconst 0, 1) := by decide +kernel
theorem dX0_measureTwo_13 : decode cX0_measureTwo 13 = .ok (.istore 4, 2) := by decide +kernel
theorem dX0_measureTwo_15 : decode cX0_measureTwo 15 = .ok (.iload 4, 2) := by decide +kernel
theorem dX0_measureTwo_17 : decode cX0_measureTwo 17 = .ok (.aload_n 1, 1) := by decide +kernel
theorem dX0_measureTwo_18 : decode cX0_measureTwo 18 = .ok (.invokevirtual 41, 3) := by decide +kernel
theorem dX0_measureTwo_21 : decode cX0_measureTwo 21 = .ok (.if_icmp .ge 99, 3) := by decide +kernel
theorem dX0_measureTwo_24 : decode cX0_measureTwo 24 = .ok (.aload_n 1, 1) := by decide +kernel
theorem dX0_measureTwo_25 : decode cX0_measureTwo 25 = .ok (.iload_n 2, 1) := by decide +kernel
theorem dX0_measureTwo_26 : decode cX0_measureTwo 26 = .ok (.iload 4, 2) := by decide +kernel
theorem dX0_measureTwo_28 : decode cX0_measureTwo 28 = .ok (.invokevirtual 47, 3) := by decide +kernel
theorem dX0_measureTwo_31 : decode cX0_measureTwo 31 = .ok (.istore 5, 2) := by decide +kernel
theorem dX0_measureTwo_33 : decode cX0_measureTwo 33 = .ok (.aload_n 1, 1) := by decide +kernel
theorem dX0_measureTwo_34 : decode cX0_measureTwo 34 = .ok (.iload_n 3, 1) := by decide +kernel
theorem dX0_measureTwo_35 : decode cX0_measureTwo 35 = .ok (.iload 4, 2) := by decide +kernel
theorem dX0_measureTwo_37 : decode cX0_measureTwo 37 = .ok (.invokevirtual 47, 3) := by decide +kernel
theorem dX0_measureTwo_40 : decode cX0_measureTwo 40 = .ok (.istore 6, 2) := by decide +kernel
theorem dX0_measureTwo_42 : decode cX0_measureTwo 42 = .ok (.iload 5, 2) := by decide +kernel
theorem dX0_measureTwo_44 : decode cX0_measureTwo 44 = .ok (.invokestatic 51, 3) := by decide +kernel
theorem dX0_measureTwo_47 : decode cX0_measureTwo 47 = .ok (.ifCond .eq 67, 3) := by decide +kernel
theorem dX0_measureTwo_50 : decode cX0_measureTwo 50 = .ok (.iload 6, 2) := by decide +kernel
theorem dX0_measureTwo_52 : decode cX0_measureTwo 52 = .ok (.invokestatic 51, 3) := by decide +kernel
theorem dX0_measureTwo_55 : decode cX0_measureTwo 55 = .ok (.ifCond .ne 6, 3) := by decide +kernel
theorem dX0_measureTwo_58 : decode cX0_measureTwo 58 = .ok (.goto 56, 3) := by decide +kernel
theorem dX0_measureTwo_61 : decode cX0_measureTwo 61 = .ok (.aload_n 0, 1) := by decide +kernel
theorem dX0_measureTwo_62 : decode cX0_measureTwo 62 = .ok (.getfield 9, 3) := by decide +kernel
theorem dX0_measureTwo_65 : decode cX0_measureTwo 65 = .ok (.iload 5, 2) := by decide +kernel
theorem dX0_measureTwo_67 : decode cX0_measureTwo 67 = .ok (.dup2, 1) := by decide +kernel
theorem dX0_measureTwo_68 : decode cX0_measureTwo 68 = .ok (.iaload, 1) := by decide +kernel
theorem dX0_measureTwo_69 : decode cX0_measureTwo 69 = .ok (.iconst 1, 1) := by decide +kernel
theorem dX0_measureTwo_70 : decode cX0_measureTwo 70 = .ok (.iadd, 1) := by decide +kernel
theorem dX0_measureTwo_71 : decode cX0_measureTwo 71 = .ok (.iastore, 1) := by decide +kernel
theorem dX0_measureTwo_72 : decode cX0_measureTwo 72 = .ok (.aload_n 0, 1) := by decide +kernel
theorem dX0_measureTwo_73 : decode cX0_measureTwo 73 = .ok (.getfield 15, 3) := by decide +kernel
theorem dX0_measureTwo_76 : decode cX0_measureTwo 76 = .ok (.iload 6, 2) := by decide +kernel
theorem dX0_measureTwo_78 : decode cX0_measureTwo 78 = .ok (.dup2, 1) := by decide +kernel
theorem dX0_measureTwo_79 : decode cX0_measureTwo 79 = .ok (.iaload, 1) := by decide +kernel
theorem dX0_measureTwo_80 : decode cX0_measureTwo 80 = .ok (.iconst 1, 1) := by decide +kernel
theorem dX0_measureTwo_81 : decode cX0_measureTwo 81 = .ok (.iadd, 1) := by decide +kernel
theorem dX0_measureTwo_82 : decode cX0_measureTwo 82 = .ok (.iastore, 1) := by decide +kernel
theorem dX0_measureTwo_83 : decode cX0_measureTwo 83 = .ok (.aload_n 0, 1) := by decide +kernel
theorem dX0_measureTwo_84 : decode cX0_measureTwo 84 = .ok (.dup, 1) := by decide +kernel
theorem dX0_measureTwo_85 : decode cX0_measureTwo 85 = .ok (.getfield 25, 3) := by decide +kernel
theorem dX0_measureTwo_88 : decode cX0_measureTwo 88 = .ok (.iconst 1, 1) := by decide +kernel
theorem dX0_measureTwo_89 : decode cX0_measureTwo 89 = .ok (.iadd, 1) := by decide +kernel
theorem dX0_measureTwo_90 : decode cX0_measureTwo 90 = .ok (.putfield 25, 3) := by decide +kernel
theorem dX0_measureTwo_93 : decode cX0_measureTwo 93 = .ok (.aload_n 0, 1) := by decide +kernel
theorem dX0_measureTwo_94 : decode cX0_measureTwo 94 = .ok (.dup, 1) := by decide +kernel
theorem dX0_measureTwo_95 : decode cX0_measureTwo 95 = .ok (.getfield 29, 3) := by decide +kernel
theorem dX0_measureTwo_98 : decode cX0_measureTwo 98 = .ok (.iload 5, 2) := by decide +kernel
theorem dX0_measureTwo_100 : decode cX0_measureTwo 100 = .ok (.iload 6, 2) := by decide +kernel
theorem dX0_measureTwo_102 : decode cX0_measureTwo 102 = .ok (.if_icmp .ne 7, 3) := by decide +kernel
theorem dX0_measureTwo_105 : decode cX0_measureTwo 105 = .ok (.iconst 1, 1) := by decide +kernel
theorem dX0_measureTwo_106 : decode cX0_measureTwo 106 = .ok (.goto 4, 3) := by decide +kernel
theorem dX0_measureTwo_109 : decode cX0_measureTwo 109 = .ok (.iconst 0, 1) := by decide +kernel
theorem dX0_measureTwo_110 : decode cX0_measureTwo 110 = .ok (.iadd, 1) := by decide +kernel
theorem dX0_measureTwo_111 : decode cX0_measureTwo 111 = .ok (.putfield 29, 3) := by decide +kernel
theorem dX0_measureTwo_114 : decode cX0_measureTwo 114 = .ok (.iinc 4 1, 3) := by decide +kernel
theorem dX0_measureTwo_117 : decode cX0_measureTwo 117 = .ok (.goto (-102), 3) := by decide +kernel
theorem dX0_measureTwo_120 : decode cX0_measureTwo 120 = .ok (.aload_n 0, 1) := by decide +kernel
theorem dX0_measureTwo_121 : decode cX0_measureTwo 121 = .ok (.getfield 25, 3) := by decide +kernel
theorem dX0_measureTwo_124 : decode cX0_measureTwo 124 = .ok (.i2l, 1) := by decide +kernel
theorem dX0_measureTwo_125 : decode cX0_measureTwo 125 = .ok (.lstore 4, 2) := by decide +kernel
theorem dX0_measureTwo_127 : decode cX0_measureTwo 127 = .ok (.aload_n 0, 1) := by decide +kernel
theorem dX0_measureTwo_128 : decode cX0_measureTwo 128 = .ok (.getfield 9, 3) := by decide +kernel
theorem dX0_measureTwo_131 : decode cX0_measureTwo 131 = .ok (.aload_n 0, 1) := by decide +kernel
theorem dX0_measureTwo_132 : decode cX0_measureTwo 132 = .ok (.getfield 15, 3) := by decide +kernel
theorem dX0_measureTwo_135 : decode cX0_measureTwo 135 = .ok (.invokestatic 55, 3) := by decide +kernel
theorem dX0_measureTwo_138 : decode cX0_measureTwo 138 = .ok (.lstore 6, 2) := by decide +kernel
theorem dX0_measureTwo_140 : decode cX0_measureTwo 140 = .ok (.aload_n 0, 1) := by decide +kernel
theorem dX0_measureTwo_141 : decode cX0_measureTwo 141 = .ok (.lload 4, 2) := by decide +kernel
theorem dX0_measureTwo_143 : decode cX0_measureTwo 143 = .ok (.aload_n 0, 1) := by decide +kernel
theorem dX0_measureTwo_144 : decode cX0_measureTwo 144 = .ok (.getfield 29, 3) := by decide +kernel
theorem dX0_measureTwo_147 : decode cX0_measureTwo 147 = .ok (.i2l, 1) := by decide +kernel
theorem dX0_measureTwo_148 : decode cX0_measureTwo 148 = .ok (.lmul, 1) := by decide +kernel
theorem dX0_measureTwo_149 : decode cX0_measureTwo 149 = .ok (.lload 6, 2) := by decide +kernel
theorem dX0_measureTwo_151 : decode cX0_measureTwo 151 = .ok (.lsub, 1) := by decide +kernel
theorem dX0_measureTwo_152 : decode cX0_measureTwo 152 = .ok (.lload 4, 2) := by decide +kernel
theorem dX0_measureTwo_154 : decode cX0_measureTwo 154 = .ok (.lload 4, 2) := by decide +kernel
theorem dX0_measureTwo_156 : decode cX0_measureTwo 156 = .ok (.lmul, 1) := by decide +kernel
theorem dX0_measureTwo_157 : decode cX0_measureTwo 157 = .ok (.lload 6, 2) := by decide +kernel
theorem dX0_measureTwo_159 : decode cX0_measureTwo 159 = .ok (.lsub, 1) := by decide +kernel
theorem dX0_measureTwo_160 : decode cX0_measureTwo 160 = .ok (.invokevirtual 59, 3) := by decide +kernel
theorem dX0_measureTwo_163 : decode cX0_measureTwo 163 = .ok (.return_, 1) := by decide +kernel
theorem dX0_measureAll_0 : decode cX0_measureAll 0 = .ok (.aload_n 0, 1) := by decide +kernel
theorem dX0_measureAll_1 : decode cX0_measureAll 1 = .ok (.invokevirtual 32, 3) := by decide +kernel
theorem dX0_measureAll_4 : decode cX0_measureAll 4 = .ok (.lconst 0, 1) := by decide +kernel
theorem dX0_measureAll_5 : decode cX0_measureAll 5 = .ok (.lstore_n 2, 1) := by decide +kernel
theorem dX0_measureAll_6 : decode cX0_measureAll 6 = .ok (.iconst 0, 1) := by decide +kernel
theorem dX0_measureAll_7 : decode cX0_measureAll 7 = .ok (.istore 4, 2) := by decide +kernel
theorem dX0_measureAll_9 : decode cX0_measureAll 9 = .ok (.iload 4, 2) := by decide +kernel
theorem dX0_measureAll_11 : decode cX0_measureAll 11 = .ok (.aload_n 1, 1) := by decide +kernel
theorem dX0_measureAll_12 : decode cX0_measureAll 12 = .ok (.invokevirtual 41, 3) := by decide +kernel
theorem dX0_measureAll_15 : decode cX0_measureAll 15 = .ok (.if_icmp .ge 83, 3) := by decide +kernel
theorem dX0_measureAll_18 : decode cX0_measureAll 18 = .ok (.aload_n 1, 1) := by decide +kernel
theorem dX0_measureAll_19 : decode cX0_measureAll 19 = .ok (.iload 4, 2) := by decide +kernel
theorem dX0_measureAll_21 : decode cX0_measureAll 21 = .ok (.invokevirtual 63, 3) := by decide +kernel
theorem dX0_measureAll_24 : decode cX0_measureAll 24 = .ok (.istore 5, 2) := by decide +kernel
theorem dX0_measureAll_26 : decode cX0_measureAll 26 = .ok (.iload 5, 2) := by decide +kernel
theorem dX0_measureAll_28 : decode cX0_measureAll 28 = .ok (.iconst 2, 1) := by decide +kernel
theorem dX0_measureAll_29 : decode cX0_measureAll 29 = .ok (.if_icmp .ge 6, 3) := by decide +kernel
theorem dX0_measureAll_32 : decode cX0_measureAll 32 = .ok (.goto 60, 3) := by decide +kernel
theorem dX0_measureAll_35 : decode cX0_measureAll 35 = .ok (.aload_n 0, 1) := by decide +kernel
theorem dX0_measureAll_36 : decode cX0_measureAll 36 = .ok (.dup, 1) := by decide +kernel
theorem dX0_measureAll_37 : decode cX0_measureAll 37 = .ok (.getfield 25, 3) := by decide +kernel
theorem dX0_measureAll_40 : decode cX0_measureAll 40 = .ok (.iconst 1, 1) := by decide +kernel
theorem dX0_measureAll_41 : decode cX0_measureAll 41 = .ok (.iadd, 1) := by decide +kernel
theorem dX0_measureAll_42 : decode cX0_measureAll 42 = .ok (.putfield 25, 3) := by decide +kernel
theorem dX0_measureAll_45 : decode cX0_measureAll 45 = .ok (.aload_n 0, 1) := by decide +kernel
theorem dX0_measureAll_46 : decode cX0_measureAll 46 = .ok (.dup, 1) := by decide +kernel
theorem dX0_measureAll_47 : decode cX0_measureAll 47 = .ok (.getfield 29, 3) := by decide +kernel
theorem dX0_measureAll_50 : decode cX0_measureAll 50 = .ok (.iload 5, 2) := by decide +kernel
theorem dX0_measureAll_52 : decode cX0_measureAll 52 = .ok (.iadd, 1) := by decide +kernel
theorem dX0_measureAll_53 : decode cX0_measureAll 53 = .ok (.putfield 29, 3) := by decide +kernel
theorem dX0_measureAll_56 : decode cX0_measureAll 56 = .ok (.iload 5, 2) := by decide +kernel
theorem dX0_measureAll_58 : decode cX0_measureAll 58 = .ok (.iload 5, 2) := by decide +kernel
theorem dX0_measureAll_60 : decode cX0_measureAll 60 = .ok (.iconst 1, 1) := by decide +kernel
theorem dX0_measureAll_61 : decode cX0_measureAll 61 = .ok (.isub, 1) := by decide +kernel
theorem dX0_measureAll_62 : decode cX0_measureAll 62 = .ok (.imul, 1) := by decide +kernel
theorem dX0_measureAll_63 : decode cX0_measureAll 63 = .ok (.iconst 2, 1) := by decide +kernel
theorem dX0_measureAll_64 : decode cX0_measureAll 64 = .ok (.idiv, 1) := by decide +kernel
theorem dX0_measureAll_65 : decode cX0_measureAll 65 = .ok (.i2l, 1) := by decide +kernel
theorem dX0_measureAll_66 : decode cX0_measureAll 66 = .ok (.lstore 6, 2) := by decide +kernel
theorem dX0_measureAll_68 : decode cX0_measureAll 68 = .ok (.lload_n 2, 1) := by decide +kernel
theorem dX0_measureAll_69 : decode cX0_measureAll 69 = .ok (.ldc2_w 67, 3) := by decide +kernel
theorem dX0_measureAll_72 : decode cX0_measureAll 72 = .ok (.aload_n 1, 1) := by decide +kernel
theorem dX0_measureAll_73 : decode cX0_measureAll 73 = .ok (.iload 4, 2) := by decide +kernel
theorem dX0_measureAll_75 : decode cX0_measureAll 75 = .ok (.invokestatic 69, 3) := by decide +kernel
theorem dX0_measureAll_78 : decode cX0_measureAll 78 = .ok (.i2l, 1) := by decide +kernel
theorem dX0_measureAll_79 : decode cX0_measureAll 79 = .ok (.lmul, 1) := by decide +kernel
theorem dX0_measureAll_80 : decode cX0_measureAll 80 = .ok (.lload 6, 2) := by decide +kernel
theorem dX0_measureAll_82 : decode cX0_measureAll 82 = .ok (.ldiv, 1) := by decide +kernel
theorem dX0_measureAll_83 : decode cX0_measureAll 83 = .ok (.ladd, 1) := by decide +kernel
theorem dX0_measureAll_84 : decode cX0_measureAll 84 = .ok (.lstore_n 2, 1) := by decide +kernel
theorem dX0_measureAll_85 : decode cX0_measureAll 85 = .ok (.aload_n 0, 1) := by decide +kernel
theorem dX0_measureAll_86 : decode cX0_measureAll 86 = .ok (.aload_n 1, 1) := by decide +kernel
theorem dX0_measureAll_87 : decode cX0_measureAll 87 = .ok (.iload 4, 2) := by decide +kernel
theorem dX0_measureAll_89 : decode cX0_measureAll 89 = .ok (.invokevirtual 73, 3) := by decide +kernel
theorem dX0_measureAll_92 : decode cX0_measureAll 92 = .ok (.iinc 4 1, 3) := by decide +kernel
theorem dX0_measureAll_95 : decode cX0_measureAll 95 = .ok (.goto (-86), 3) := by decide +kernel
theorem dX0_measureAll_98 : decode cX0_measureAll 98 = .ok (.ldc2_w 67, 3) := by decide +kernel
theorem dX0_measureAll_101 : decode cX0_measureAll 101 = .ok (.aload_n 0, 1) := by decide +kernel
theorem dX0_measureAll_102 : decode cX0_measureAll 102 = .ok (.getfield 25, 3) := by decide +kernel
theorem dX0_measureAll_105 : decode cX0_measureAll 105 = .ok (.i2l, 1) := by decide +kernel
theorem dX0_measureAll_106 : decode cX0_measureAll 106 = .ok (.lmul, 1) := by decide +kernel
theorem dX0_measureAll_107 : decode cX0_measureAll 107 = .ok (.lstore 4, 2) := by decide +kernel
theorem dX0_measureAll_109 : decode cX0_measureAll 109 = .ok (.aload_n 0, 1) := by decide +kernel
theorem dX0_measureAll_110 : decode cX0_measureAll 110 = .ok (.getfield 29, 3) := by decide +kernel
theorem dX0_measureAll_113 : decode cX0_measureAll 113 = .ok (.i2l, 1) := by decide +kernel
theorem dX0_measureAll_114 : decode cX0_measureAll 114 = .ok (.aload_n 0, 1) := by decide +kernel
theorem dX0_measureAll_115 : decode cX0_measureAll 115 = .ok (.getfield 29, 3) := by decide +kernel
theorem dX0_measureAll_118 : decode cX0_measureAll 118 = .ok (.i2l, 1) := by decide +kernel
theorem dX0_measureAll_119 : decode cX0_measureAll 119 = .ok (.lmul, 1) := by decide +kernel
theorem dX0_measureAll_120 : decode cX0_measureAll 120 = .ok (.lstore 6, 2) := by decide +kernel
theorem dX0_measureAll_122 : decode cX0_measureAll 122 = .ok (.aload_n 0, 1) := by decide +kernel
theorem dX0_measureAll_123 : decode cX0_measureAll 123 = .ok (.getfield 9, 3) := by decide +kernel
theorem dX0_measureAll_126 : decode cX0_measureAll 126 = .ok (.aload_n 0, 1) := by decide +kernel
theorem dX0_measureAll_127 : decode cX0_measureAll 127 = .ok (.getfield 9, 3) := by decide +kernel
theorem dX0_measureAll_130 : decode cX0_measureAll 130 = .ok (.invokestatic 55, 3) := by decide +kernel
theorem dX0_measureAll_133 : decode cX0_measureAll 133 = .ok (.lstore 8, 2) := by decide +kernel
theorem dX0_measureAll_135 : decode cX0_measureAll 135 = .ok (.aload_n 0, 1) := by decide +kernel
theorem dX0_measureAll_136 : decode cX0_measureAll 136 = .ok (.lload_n 2, 1) := by decide +kernel
theorem dX0_measureAll_137 : decode cX0_measureAll 137 = .ok (.lload 6, 2) := by decide +kernel
theorem dX0_measureAll_139 : decode cX0_measureAll 139 = .ok (.lmul, 1) := by decide +kernel
theorem dX0_measureAll_140 : decode cX0_measureAll 140 = .ok (.lload 8, 2) := by decide +kernel
theorem dX0_measureAll_142 : decode cX0_measureAll 142 = .ok (.lload 4, 2) := by decide +kernel
theorem dX0_measureAll_144 : decode cX0_measureAll 144 = .ok (.lmul, 1) := by decide +kernel
theorem dX0_measureAll_145 : decode cX0_measureAll 145 = .ok (.lsub, 1) := by decide +kernel
theorem dX0_measureAll_146 : decode cX0_measureAll 146 = .ok (.lload 4, 2) := by decide +kernel
theorem dX0_measureAll_148 : decode cX0_measureAll 148 = .ok (.lload 6, 2) := by decide +kernel
theorem dX0_measureAll_150 : decode cX0_measureAll 150 = .ok (.lload 8, 2) := by decide +kernel
theorem dX0_measureAll_152 : decode cX0_measureAll 152 = .ok (.lsub, 1) := by decide +kernel
theorem dX0_measureAll_153 : decode cX0_measureAll 153 = .ok (.lmul, 1) := by decide +kernel
theorem dX0_measureAll_154 : decode cX0_measureAll 154 = .ok (.invokevirtual 59, 3) := by decide +kernel
theorem dX0_measureAll_157 : decode cX0_measureAll 157 = .ok (.return_, 1) := by decide +kernel
theorem dX0_startCounts_0 : decode cX0_startCounts 0 = .ok (.aload_n 0, 1) := by decide +kernel
theorem dX0_startCounts_1 : decode cX0_startCounts 1 = .ok (.getfield 9, 3) := by decide +kernel
theorem dX0_startCounts_4 : decode cX0_startCounts 4 = .ok (.iconst 0, 1) := by decide +kernel
theorem dX0_startCounts_5 : decode cX0_startCounts 5 = .ok (.invokestatic 35, 3) := by decide +kernel
theorem dX0_startCounts_8 : decode cX0_startCounts 8 = .ok (.aload_n 0, 1) := by decide +kernel
theorem dX0_startCounts_9 : decode cX0_startCounts 9 = .ok (.iconst 0, 1) := by decide +kernel
theorem dX0_startCounts_10 : decode cX0_startCounts 10 = .ok (.putfield 25, 3) := by decide +kernel
theorem dX0_startCounts_13 : decode cX0_startCounts 13 = .ok (.aload_n 0, 1) := by decide +kernel
theorem dX0_startCounts_14 : decode cX0_startCounts 14 = .ok (.iconst 0, 1) := by decide +kernel
theorem dX0_startCounts_15 : decode cX0_startCounts 15 = .ok (.putfield 29, 3) := by decide +kernel
theorem dX0_startCounts_18 : decode cX0_startCounts 18 = .ok (.return_, 1) := by decide +kernel
theorem dX0_countLabels_0 : decode cX0_countLabels 0 = .ok (.iconst 0, 1) := by decide +kernel
theorem dX0_countLabels_1 : decode cX0_countLabels 1 = .ok (.istore_n 3, 1) := by decide +kernel
theorem dX0_countLabels_2 : decode cX0_countLabels 2 = .ok (.iload_n 3, 1) := by decide +kernel
theorem dX0_countLabels_3 : decode cX0_countLabels 3 = .ok (.bipush 8, 2) := by decide +kernel
theorem dX0_countLabels_5 : decode cX0_countLabels 5 = .ok (.if_icmp .ge 36, 3) := by decide +kernel
theorem dX0_countLabels_8 : decode cX0_countLabels 8 = .ok (.aload_n 1, 1) := by decide +kernel
theorem dX0_countLabels_9 : decode cX0_countLabels 9 = .ok (.iload_n 3, 1) := by decide +kernel
theorem dX0_countLabels_10 : decode cX0_countLabels 10 = .ok (.iload_n 2, 1) := by decide +kernel
theorem dX0_countLabels_11 : decode cX0_countLabels 11 = .ok (.invokevirtual 47, 3) := by decide +kernel
theorem dX0_countLabels_14 : decode cX0_countLabels 14 = .ok (.istore 4, 2) := by decide +kernel
theorem dX0_countLabels_16 : decode cX0_countLabels 16 = .ok (.iload 4, 2) := by decide +kernel
theorem dX0_countLabels_18 : decode cX0_countLabels 18 = .ok (.invokestatic 51, 3) := by decide +kernel
theorem dX0_countLabels_21 : decode cX0_countLabels 21 = .ok (.ifCond .eq 14, 3) := by decide +kernel
theorem dX0_countLabels_24 : decode cX0_countLabels 24 = .ok (.aload_n 0, 1) := by decide +kernel
theorem dX0_countLabels_25 : decode cX0_countLabels 25 = .ok (.getfield 9, 3) := by decide +kernel
theorem dX0_countLabels_28 : decode cX0_countLabels 28 = .ok (.iload 4, 2) := by decide +kernel
theorem dX0_countLabels_30 : decode cX0_countLabels 30 = .ok (.dup2, 1) := by decide +kernel
theorem dX0_countLabels_31 : decode cX0_countLabels 31 = .ok (.iaload, 1) := by decide +kernel
theorem dX0_countLabels_32 : decode cX0_countLabels 32 = .ok (.iconst 1, 1) := by decide +kernel
theorem dX0_countLabels_33 : decode cX0_countLabels 33 = .ok (.iadd, 1) := by decide +kernel
theorem dX0_countLabels_34 : decode cX0_countLabels 34 = .ok (.iastore, 1) := by decide +kernel
theorem dX0_countLabels_35 : decode cX0_countLabels 35 = .ok (.iinc 3 1, 3) := by decide +kernel
theorem dX0_countLabels_38 : decode cX0_countLabels 38 = .ok (.goto (-36), 3) := by decide +kernel
theorem dX0_countLabels_41 : decode cX0_countLabels 41 = .ok (.return_, 1) := by decide +kernel
theorem dX0_likePairs_0 : decode cX0_likePairs 0 = .ok (.iconst 0, 1) := by decide +kernel
theorem dX0_likePairs_1 : decode cX0_likePairs 1 = .ok (.istore_n 2, 1) := by decide +kernel
theorem dX0_likePairs_2 : decode cX0_likePairs 2 = .ok (.iconst 0, 1) := by decide +kernel
theorem dX0_likePairs_3 : decode cX0_likePairs 3 = .ok (.istore_n 3, 1) := by decide +kernel
theorem dX0_likePairs_4 : decode cX0_likePairs 4 = .ok (.iload_n 3, 1) := by decide +kernel
theorem dX0_likePairs_5 : decode cX0_likePairs 5 = .ok (.bipush 8, 2) := by decide +kernel
theorem dX0_likePairs_7 : decode cX0_likePairs 7 = .ok (.if_icmp .ge 53, 3) := by decide +kernel
theorem dX0_likePairs_10 : decode cX0_likePairs 10 = .ok (.aload_n 0, 1) := by decide +kernel
theorem dX0_likePairs_11 : decode cX0_likePairs 11 = .ok (.iload_n 3, 1) := by decide +kernel
theorem dX0_likePairs_12 : decode cX0_likePairs 12 = .ok (.iload_n 1, 1) := by decide +kernel
theorem dX0_likePairs_13 : decode cX0_likePairs 13 = .ok (.invokevirtual 47, 3) := by decide +kernel
theorem dX0_likePairs_16 : decode cX0_likePairs 16 = .ok (.istore 4, 2) := by decide +kernel
theorem dX0_likePairs_18 : decode cX0_likePairs 18 = .ok (.iconst 0, 1) := by decide +kernel
theorem dX0_likePairs_19 : decode cX0_likePairs 19 = .ok (.istore 5, 2) := by decide +kernel
theorem dX0_likePairs_21 : decode cX0_likePairs 21 = .ok (.iload 5, 2) := by decide +kernel
theorem dX0_likePairs_23 : decode cX0_likePairs 23 = .ok (.iload_n 3, 1) := by decide +kernel
theorem dX0_likePairs_24 : decode cX0_likePairs 24 = .ok (.if_icmp .ge 30, 3) := by decide +kernel
theorem dX0_likePairs_27 : decode cX0_likePairs 27 = .ok (.iload 4, 2) := by decide +kernel
theorem dX0_likePairs_29 : decode cX0_likePairs 29 = .ok (.iconst (-1), 1) := by decide +kernel
theorem dX0_likePairs_30 : decode cX0_likePairs 30 = .ok (.if_icmp .eq 18, 3) := by decide +kernel
theorem dX0_likePairs_33 : decode cX0_likePairs 33 = .ok (.iload 4, 2) := by decide +kernel
theorem dX0_likePairs_35 : decode cX0_likePairs 35 = .ok (.aload_n 0, 1) := by decide +kernel
theorem dX0_likePairs_36 : decode cX0_likePairs 36 = .ok (.iload 5, 2) := by decide +kernel
theorem dX0_likePairs_38 : decode cX0_likePairs 38 = .ok (.iload_n 1, 1) := by decide +kernel
theorem dX0_likePairs_39 : decode cX0_likePairs 39 = .ok (.invokevirtual 47, 3) := by decide +kernel
theorem dX0_likePairs_42 : decode cX0_likePairs 42 = .ok (.if_icmp .ne 6, 3) := by decide +kernel
theorem dX0_likePairs_45 : decode cX0_likePairs 45 = .ok (.iinc 2 1, 3) := by decide +kernel
theorem dX0_likePairs_48 : decode cX0_likePairs 48 = .ok (.iinc 5 1, 3) := by decide +kernel
theorem dX0_likePairs_51 : decode cX0_likePairs 51 = .ok (.goto (-30), 3) := by decide +kernel
theorem dX0_likePairs_54 : decode cX0_likePairs 54 = .ok (.iinc 3 1, 3) := by decide +kernel
theorem dX0_likePairs_57 : decode cX0_likePairs 57 = .ok (.goto (-53), 3) := by decide +kernel
theorem dX0_likePairs_60 : decode cX0_likePairs 60 = .ok (.iload_n 2, 1) := by decide +kernel
theorem dX0_likePairs_61 : decode cX0_likePairs 61 = .ok (.ireturn, 1) := by decide +kernel
theorem dX0_sumOfProducts_0 : decode cX0_sumOfProducts 0 = .ok (.lconst 0, 1) := by decide +kernel
theorem dX0_sumOfProducts_1 : decode cX0_sumOfProducts 1 = .ok (.lstore_n 2, 1) := by decide +kernel
theorem dX0_sumOfProducts_2 : decode cX0_sumOfProducts 2 = .ok (.iconst 0, 1) := by decide +kernel
theorem dX0_sumOfProducts_3 : decode cX0_sumOfProducts 3 = .ok (.istore 4, 2) := by decide +kernel
theorem dX0_sumOfProducts_5 : decode cX0_sumOfProducts 5 = .ok (.iload 4, 2) := by decide +kernel
theorem dX0_sumOfProducts_7 : decode cX0_sumOfProducts 7 = .ok (.iconst 5, 1) := by decide +kernel
theorem dX0_sumOfProducts_8 : decode cX0_sumOfProducts 8 = .ok (.if_icmp .ge 23, 3) := by decide +kernel
theorem dX0_sumOfProducts_11 : decode cX0_sumOfProducts 11 = .ok (.lload_n 2, 1) := by decide +kernel
theorem dX0_sumOfProducts_12 : decode cX0_sumOfProducts 12 = .ok (.aload_n 0, 1) := by decide +kernel
theorem dX0_sumOfProducts_13 : decode cX0_sumOfProducts 13 = .ok (.iload 4, 2) := by decide +kernel
theorem dX0_sumOfProducts_15 : decode cX0_sumOfProducts 15 = .ok (.iaload, 1) := by decide +kernel
theorem dX0_sumOfProducts_16 : decode cX0_sumOfProducts 16 = .ok (.i2l, 1) := by decide +kernel
theorem dX0_sumOfProducts_17 : decode cX0_sumOfProducts 17 = .ok (.aload_n 1, 1) := by decide +kernel
theorem dX0_sumOfProducts_18 : decode cX0_sumOfProducts 18 = .ok (.iload 4, 2) := by decide +kernel
theorem dX0_sumOfProducts_20 : decode cX0_sumOfProducts 20 = .ok (.iaload, 1) := by decide +kernel
theorem dX0_sumOfProducts_21 : decode cX0_sumOfProducts 21 = .ok (.i2l, 1) := by decide +kernel
theorem dX0_sumOfProducts_22 : decode cX0_sumOfProducts 22 = .ok (.lmul, 1) := by decide +kernel
theorem dX0_sumOfProducts_23 : decode cX0_sumOfProducts 23 = .ok (.ladd, 1) := by decide +kernel
theorem dX0_sumOfProducts_24 : decode cX0_sumOfProducts 24 = .ok (.lstore_n 2, 1) := by decide +kernel
theorem dX0_sumOfProducts_25 : decode cX0_sumOfProducts 25 = .ok (.iinc 4 1, 3) := by decide +kernel
theorem dX0_sumOfProducts_28 : decode cX0_sumOfProducts 28 = .ok (.goto (-23), 3) := by decide +kernel
theorem dX0_sumOfProducts_31 : decode cX0_sumOfProducts 31 = .ok (.lload_n 2, 1) := by decide +kernel
theorem dX0_sumOfProducts_32 : decode cX0_sumOfProducts 32 = .ok (.lreturn, 1) := by decide +kernel
theorem dX0_setFraction_0 : decode cX0_setFraction 0 = .ok (.lload_n 1, 1) := by decide +kernel
theorem dX0_setFraction_1 : decode cX0_setFraction 1 = .ok (.lconst 0, 1) := by decide +kernel
theorem dX0_setFraction_2 : decode cX0_setFraction 2 = .ok (.lcmp, 1) := by decide +kernel
theorem dX0_setFraction_3 : decode cX0_setFraction 3 = .ok (.ifCond .ge 8, 3) := by decide +kernel
theorem dX0_setFraction_6 : decode cX0_setFraction 6 = .ok (.lload_n 1, 1) := by decide +kernel
theorem dX0_setFraction_7 : decode cX0_setFraction 7 = .ok (.lneg, 1) := by decide +kernel
theorem dX0_setFraction_8 : decode cX0_setFraction 8 = .ok (.goto 4, 3) := by decide +kernel
theorem dX0_setFraction_11 : decode cX0_setFraction 11 = .ok (.lload_n 1, 1) := by decide +kernel
theorem dX0_setFraction_12 : decode cX0_setFraction 12 = .ok (.lload_n 3, 1) := by decide +kernel
theorem dX0_setFraction_13 : decode cX0_setFraction 13 = .ok (.invokestatic 77, 3) := by decide +kernel
theorem dX0_setFraction_16 : decode cX0_setFraction 16 = .ok (.lstore 5, 2) := by decide +kernel
theorem dX0_setFraction_18 : decode cX0_setFraction 18 = .ok (.lload 5, 2) := by decide +kernel
theorem dX0_setFraction_20 : decode cX0_setFraction 20 = .ok (.lconst 0, 1) := by decide +kernel
theorem dX0_setFraction_21 : decode cX0_setFraction 21 = .ok (.lcmp, 1) := by decide +kernel
theorem dX0_setFraction_22 : decode cX0_setFraction 22 = .ok (.ifCond .ne 6, 3) := by decide +kernel
theorem dX0_setFraction_25 : decode cX0_setFraction 25 = .ok (.lconst 1, 1) := by decide +kernel
theorem dX0_setFraction_26 : decode cX0_setFraction 26 = .ok (.lstore 5, 2) := by decide +kernel
theorem dX0_setFraction_28 : decode cX0_setFraction 28 = .ok (.aload_n 0, 1) := by decide +kernel
theorem dX0_setFraction_29 : decode cX0_setFraction 29 = .ok (.lload_n 1, 1) := by decide +kernel
theorem dX0_setFraction_30 : decode cX0_setFraction 30 = .ok (.lload 5, 2) := by decide +kernel
theorem dX0_setFraction_32 : decode cX0_setFraction 32 = .ok (.ldiv, 1) := by decide +kernel
theorem dX0_setFraction_33 : decode cX0_setFraction 33 = .ok (.putfield 18, 3) := by decide +kernel
theorem dX0_setFraction_36 : decode cX0_setFraction 36 = .ok (.aload_n 0, 1) := by decide +kernel
theorem dX0_setFraction_37 : decode cX0_setFraction 37 = .ok (.lload_n 3, 1) := by decide +kernel
theorem dX0_setFraction_38 : decode cX0_setFraction 38 = .ok (.lload 5, 2) := by decide +kernel
theorem dX0_setFraction_40 : decode cX0_setFraction 40 = .ok (.ldiv, 1) := by decide +kernel
theorem dX0_setFraction_41 : decode cX0_setFraction 41 = .ok (.putfield 22, 3) := by decide +kernel
theorem dX0_setFraction_44 : decode cX0_setFraction 44 = .ok (.return_, 1) := by decide +kernel
theorem dX0_commonDivisor_0 : decode cX0_commonDivisor 0 = .ok (.lload_n 0, 1) := by decide +kernel
theorem dX0_commonDivisor_1 : decode cX0_commonDivisor 1 = .ok (.lstore 4, 2) := by decide +kernel
theorem dX0_commonDivisor_3 : decode cX0_commonDivisor 3 = .ok (.lload_n 2, 1) := by decide +kernel
theorem dX0_commonDivisor_4 : decode cX0_commonDivisor 4 = .ok (.lstore 6, 2) := by decide +kernel
theorem dX0_commonDivisor_6 : decode cX0_commonDivisor 6 = .ok (.iconst 0, 1) := by decide +kernel
theorem dX0_commonDivisor_7 : decode cX0_commonDivisor 7 = .ok (.istore 8, 2) := by decide +kernel
theorem dX0_commonDivisor_9 : decode cX0_commonDivisor 9 = .ok (.iload 8, 2) := by decide +kernel
theorem dX0_commonDivisor_11 : decode cX0_commonDivisor 11 = .ok (.sipush 200, 3) := by decide +kernel
theorem dX0_commonDivisor_14 : decode cX0_commonDivisor 14 = .ok (.if_icmp .ge 31, 3) := by decide +kernel
theorem dX0_commonDivisor_17 : decode cX0_commonDivisor 17 = .ok (.lload 6, 2) := by decide +kernel
theorem dX0_commonDivisor_19 : decode cX0_commonDivisor 19 = .ok (.lconst 0, 1) := by decide +kernel
theorem dX0_commonDivisor_20 : decode cX0_commonDivisor 20 = .ok (.lcmp, 1) := by decide +kernel
theorem dX0_commonDivisor_21 : decode cX0_commonDivisor 21 = .ok (.ifCond .eq 24, 3) := by decide +kernel
theorem dX0_commonDivisor_24 : decode cX0_commonDivisor 24 = .ok (.lload 4, 2) := by decide +kernel
theorem dX0_commonDivisor_26 : decode cX0_commonDivisor 26 = .ok (.lload 6, 2) := by decide +kernel
theorem dX0_commonDivisor_28 : decode cX0_commonDivisor 28 = .ok (.lrem, 1) := by decide +kernel
theorem dX0_commonDivisor_29 : decode cX0_commonDivisor 29 = .ok (.lstore 9, 2) := by decide +kernel
theorem dX0_commonDivisor_31 : decode cX0_commonDivisor 31 = .ok (.lload 6, 2) := by decide +kernel
theorem dX0_commonDivisor_33 : decode cX0_commonDivisor 33 = .ok (.lstore 4, 2) := by decide +kernel
theorem dX0_commonDivisor_35 : decode cX0_commonDivisor 35 = .ok (.lload 9, 2) := by decide +kernel
theorem dX0_commonDivisor_37 : decode cX0_commonDivisor 37 = .ok (.lstore 6, 2) := by decide +kernel
theorem dX0_commonDivisor_39 : decode cX0_commonDivisor 39 = .ok (.iinc 8 1, 3) := by decide +kernel
theorem dX0_commonDivisor_42 : decode cX0_commonDivisor 42 = .ok (.goto (-33), 3) := by decide +kernel
theorem dX0_commonDivisor_45 : decode cX0_commonDivisor 45 = .ok (.lload 4, 2) := by decide +kernel
theorem dX0_commonDivisor_47 : decode cX0_commonDivisor 47 = .ok (.lreturn, 1) := by decide +kernel
theorem dX1_init_0 : decode cX1_init 0 = .ok (.aload_n 0, 1) := by decide +kernel
theorem dX1_init_1 : decode cX1_init 1 = .ok (.invokespecial 3, 3) := by decide +kernel
theorem dX1_init_4 : decode cX1_init 4 = .ok (.aload_n 0, 1) := by decide +kernel
theorem dX1_init_5 : decode cX1_init 5 = .ok (.bipush 6, 2) := by decide +kernel
theorem dX1_init_7 : decode cX1_init 7 = .ok (.newarray .int, 2) := by decide +kernel
theorem dX1_init_9 : decode cX1_init 9 = .ok (.putfield 9, 3) := by decide +kernel
theorem dX1_init_12 : decode cX1_init 12 = .ok (.aload_n 0, 1) := by decide +kernel
theorem dX1_init_13 : decode cX1_init 13 = .ok (.bipush 6, 2) := by decide +kernel
theorem dX1_init_15 : decode cX1_init 15 = .ok (.newarray .int, 2) := by decide +kernel
theorem dX1_init_17 : decode cX1_init 17 = .ok (.putfield 15, 3) := by decide +kernel
theorem dX1_init_20 : decode cX1_init 20 = .ok (.aload_n 0, 1) := by decide +kernel
theorem dX1_init_21 : decode cX1_init 21 = .ok (.bipush 6, 2) := by decide +kernel
theorem dX1_init_23 : decode cX1_init 23 = .ok (.newarray .int, 2) := by decide +kernel
theorem dX1_init_25 : decode cX1_init 25 = .ok (.putfield 18, 3) := by decide +kernel
theorem dX1_init_28 : decode cX1_init 28 = .ok (.aload_n 0, 1) := by decide +kernel
theorem dX1_init_29 : decode cX1_init 29 = .ok (.bipush 6, 2) := by decide +kernel
theorem dX1_init_31 : decode cX1_init 31 = .ok (.newarray .int, 2) := by decide +kernel
theorem dX1_init_33 : decode cX1_init 33 = .ok (.putfield 21, 3) := by decide +kernel
theorem dX1_init_36 : decode cX1_init 36 = .ok (.aload_n 0, 1) := by decide +kernel
theorem dX1_init_37 : decode cX1_init 37 = .ok (.bipush 6, 2) := by decide +kernel
theorem dX1_init_39 : decode cX1_init 39 = .ok (.newarray .boolean, 2) := by decide +kernel
theorem dX1_init_41 : decode cX1_init 41 = .ok (.putfield 24, 3) := by decide +kernel
theorem dX1_init_44 : decode cX1_init 44 = .ok (.aload_n 0, 1) := by decide +kernel
theorem dX1_init_45 : decode cX1_init 45 = .ok (.bipush 8, 2) := by decide +kernel
theorem dX1_init_47 : decode cX1_init 47 = .ok (.newarray .int, 2) := by decide +kernel
theorem dX1_init_49 : decode cX1_init 49 = .ok (.putfield 28, 3) := by decide +kernel
theorem dX1_init_52 : decode cX1_init 52 = .ok (.return_, 1) := by decide +kernel
theorem dX1_size_0 : decode cX1_size 0 = .ok (.aload_n 0, 1) := by decide +kernel
theorem dX1_size_1 : decode cX1_size 1 = .ok (.getfield 31, 3) := by decide +kernel
theorem dX1_size_4 : decode cX1_size 4 = .ok (.ireturn, 1) := by decide +kernel
theorem dX1_hasRule_0 : decode cX1_hasRule 0 = .ok (.iload_n 1, 1) := by decide +kernel
theorem dX1_hasRule_1 : decode cX1_hasRule 1 = .ok (.ifCond .lt 15, 3) := by decide +kernel
theorem dX1_hasRule_4 : decode cX1_hasRule 4 = .ok (.iload_n 1, 1) := by decide +kernel
theorem dX1_hasRule_5 : decode cX1_hasRule 5 = .ok (.aload_n 0, 1) := by decide +kernel
theorem dX1_hasRule_6 : decode cX1_hasRule 6 = .ok (.getfield 31, 3) := by decide +kernel
theorem dX1_hasRule_9 : decode cX1_hasRule 9 = .ok (.if_icmp .ge 7, 3) := by decide +kernel
theorem dX1_hasRule_12 : decode cX1_hasRule 12 = .ok (.iconst 1, 1) := by decide +kernel
theorem dX1_hasRule_13 : decode cX1_hasRule 13 = .ok (.goto 4, 3) := by decide +kernel
theorem dX1_hasRule_16 : decode cX1_hasRule 16 = .ok (.iconst 0, 1) := by decide +kernel
theorem dX1_hasRule_17 : decode cX1_hasRule 17 = .ok (.ireturn, 1) := by decide +kernel
theorem dX1_addRule_0 : decode cX1_addRule 0 = .ok (.aload_n 0, 1) := by decide +kernel
theorem dX1_addRule_1 : decode cX1_addRule 1 = .ok (.getfield 31, 3) := by decide +kernel
theorem dX1_addRule_4 : decode cX1_addRule 4 = .ok (.bipush 6, 2) := by decide +kernel
theorem dX1_addRule_6 : decode cX1_addRule 6 = .ok (.if_icmp .lt 6, 3) := by decide +kernel
theorem dX1_addRule_9 : decode cX1_addRule 9 = .ok (.bipush (-104), 2) := by decide +kernel
theorem dX1_addRule_11 : decode cX1_addRule 11 = .ok (.ireturn, 1) := by decide +kernel
theorem dX1_addRule_12 : decode cX1_addRule 12 = .ok (.aload_n 0, 1) := by decide +kernel
theorem dX1_addRule_13 : decode cX1_addRule 13 = .ok (.getfield 9, 3) := by decide +kernel
theorem dX1_addRule_16 : decode cX1_addRule 16 = .ok (.aload_n 0, 1) := by decide +kernel
theorem dX1_addRule_17 : decode cX1_addRule 17 = .ok (.getfield 31, 3) := by decide +kernel
theorem dX1_addRule_20 : decode cX1_addRule 20 = .ok (.iload_n 1, 1) := by decide +kernel
theorem dX1_addRule_21 : decode cX1_addRule 21 = .ok (.iastore, 1) := by decide +kernel
theorem dX1_addRule_22 : decode cX1_addRule 22 = .ok (.aload_n 0, 1) := by decide +kernel
theorem dX1_addRule_23 : decode cX1_addRule 23 = .ok (.getfield 15, 3) := by decide +kernel
theorem dX1_addRule_26 : decode cX1_addRule 26 = .ok (.aload_n 0, 1) := by decide +kernel
theorem dX1_addRule_27 : decode cX1_addRule 27 = .ok (.getfield 31, 3) := by decide +kernel
theorem dX1_addRule_30 : decode cX1_addRule 30 = .ok (.iload_n 2, 1) := by decide +kernel
theorem dX1_addRule_31 : decode cX1_addRule 31 = .ok (.iastore, 1) := by decide +kernel
theorem dX1_addRule_32 : decode cX1_addRule 32 = .ok (.aload_n 0, 1) := by decide +kernel
theorem dX1_addRule_33 : decode cX1_addRule 33 = .ok (.getfield 18, 3) := by decide +kernel
theorem dX1_addRule_36 : decode cX1_addRule 36 = .ok (.aload_n 0, 1) := by decide +kernel
theorem dX1_addRule_37 : decode cX1_addRule 37 = .ok (.getfield 31, 3) := by decide +kernel
theorem dX1_addRule_40 : decode cX1_addRule 40 = .ok (.iload_n 3, 1) := by decide +kernel
theorem dX1_addRule_41 : decode cX1_addRule 41 = .ok (.iastore, 1) := by decide +kernel
theorem dX1_addRule_42 : decode cX1_addRule 42 = .ok (.aload_n 0, 1) := by decide +kernel
theorem dX1_addRule_43 : decode cX1_addRule 43 = .ok (.getfield 21, 3) := by decide +kernel
theorem dX1_addRule_46 : decode cX1_addRule 46 = .ok (.aload_n 0, 1) := by decide +kernel
theorem dX1_addRule_47 : decode cX1_addRule 47 = .ok (.getfield 31, 3) := by decide +kernel
theorem dX1_addRule_50 : decode cX1_addRule 50 = .ok (.iload 4, 2) := by decide +kernel
theorem dX1_addRule_52 : decode cX1_addRule 52 = .ok (.iastore, 1) := by decide +kernel
theorem dX1_addRule_53 : decode cX1_addRule 53 = .ok (.aload_n 0, 1) := by decide +kernel
theorem dX1_addRule_54 : decode cX1_addRule 54 = .ok (.getfield 24, 3) := by decide +kernel
theorem dX1_addRule_57 : decode cX1_addRule 57 = .ok (.aload_n 0, 1) := by decide +kernel
theorem dX1_addRule_58 : decode cX1_addRule 58 = .ok (.getfield 31, 3) := by decide +kernel
theorem dX1_addRule_61 : decode cX1_addRule 61 = .ok (.iconst 1, 1) := by decide +kernel
theorem dX1_addRule_62 : decode cX1_addRule 62 = .ok (.bastore, 1) := by decide +kernel
theorem dX1_addRule_63 : decode cX1_addRule 63 = .ok (.aload_n 0, 1) := by decide +kernel
theorem dX1_addRule_64 : decode cX1_addRule 64 = .ok (.dup, 1) := by decide +kernel
theorem dX1_addRule_65 : decode cX1_addRule 65 = .ok (.getfield 31, 3) := by decide +kernel
theorem dX1_addRule_68 : decode cX1_addRule 68 = .ok (.dup_x1, 1) := by decide +kernel
theorem dX1_addRule_69 : decode cX1_addRule 69 = .ok (.iconst 1, 1) := by decide +kernel
theorem dX1_addRule_70 : decode cX1_addRule 70 = .ok (.iadd, 1) := by decide +kernel
theorem dX1_addRule_71 : decode cX1_addRule 71 = .ok (.putfield 31, 3) := by decide +kernel
theorem dX1_addRule_74 : decode cX1_addRule 74 = .ok (.ireturn, 1) := by decide +kernel
theorem dX1_isOn_0 : decode cX1_isOn 0 = .ok (.aload_n 0, 1) := by decide +kernel
theorem dX1_isOn_1 : decode cX1_isOn 1 = .ok (.getfield 24, 3) := by decide +kernel
theorem dX1_isOn_4 : decode cX1_isOn 4 = .ok (.iload_n 1, 1) := by decide +kernel
theorem dX1_isOn_5 : decode cX1_isOn 5 = .ok (.baload, 1) := by decide +kernel
theorem dX1_isOn_6 : decode cX1_isOn 6 = .ok (.ireturn, 1) := by decide +kernel
theorem dX1_setOn_0 : decode cX1_setOn 0 = .ok (.aload_n 0, 1) := by decide +kernel
theorem dX1_setOn_1 : decode cX1_setOn 1 = .ok (.getfield 24, 3) := by decide +kernel
theorem dX1_setOn_4 : decode cX1_setOn 4 = .ok (.iload_n 1, 1) := by decide +kernel
theorem dX1_setOn_5 : decode cX1_setOn 5 = .ok (.iload_n 2, 1) := by decide +kernel
theorem dX1_setOn_6 : decode cX1_setOn 6 = .ok (.bastore, 1) := by decide +kernel
theorem dX1_setOn_7 : decode cX1_setOn 7 = .ok (.return_, 1) := by decide +kernel
theorem dX1_replace_0 : decode cX1_replace 0 = .ok (.aload_n 0, 1) := by decide +kernel
theorem dX1_replace_1 : decode cX1_replace 1 = .ok (.getfield 28, 3) := by decide +kernel
theorem dX1_replace_4 : decode cX1_replace 4 = .ok (.iload_n 1, 1) := by decide +kernel
theorem dX1_replace_5 : decode cX1_replace 5 = .ok (.iaload, 1) := by decide +kernel
theorem dX1_replace_6 : decode cX1_replace 6 = .ok (.istore_n 3, 1) := by decide +kernel
theorem dX1_replace_7 : decode cX1_replace 7 = .ok (.aload_n 0, 1) := by decide +kernel
theorem dX1_replace_8 : decode cX1_replace 8 = .ok (.getfield 28, 3) := by decide +kernel
theorem dX1_replace_11 : decode cX1_replace 11 = .ok (.iload_n 1, 1) := by decide +kernel
theorem dX1_replace_12 : decode cX1_replace 12 = .ok (.iload_n 2, 1) := by decide +kernel
theorem dX1_replace_13 : decode cX1_replace 13 = .ok (.iastore, 1) := by decide +kernel
theorem dX1_replace_14 : decode cX1_replace 14 = .ok (.iload_n 3, 1) := by decide +kernel
theorem dX1_replace_15 : decode cX1_replace 15 = .ok (.ireturn, 1) := by decide +kernel
theorem dX1_wordOn_0 : decode cX1_wordOn 0 = .ok (.aload_n 2, 1) := by decide +kernel
theorem dX1_wordOn_1 : decode cX1_wordOn 1 = .ok (.aload_n 0, 1) := by decide +kernel
theorem dX1_wordOn_2 : decode cX1_wordOn 2 = .ok (.getfield 15, 3) := by decide +kernel
theorem dX1_wordOn_5 : decode cX1_wordOn 5 = .ok (.iload_n 1, 1) := by decide +kernel
theorem dX1_wordOn_6 : decode cX1_wordOn 6 = .ok (.iaload, 1) := by decide +kernel
theorem dX1_wordOn_7 : decode cX1_wordOn 7 = .ok (.iload_n 3, 1) := by decide +kernel
theorem dX1_wordOn_8 : decode cX1_wordOn 8 = .ok (.invokevirtual 35, 3) := by decide +kernel
theorem dX1_wordOn_11 : decode cX1_wordOn 11 = .ok (.istore 4, 2) := by decide +kernel
theorem dX1_wordOn_13 : decode cX1_wordOn 13 = .ok (.aload_n 2, 1) := by decide +kernel
theorem dX1_wordOn_14 : decode cX1_wordOn 14 = .ok (.aload_n 0, 1) := by decide +kernel
theorem dX1_wordOn_15 : decode cX1_wordOn 15 = .ok (.getfield 18, 3) := by decide +kernel
theorem dX1_wordOn_18 : decode cX1_wordOn 18 = .ok (.iload_n 1, 1) := by decide +kernel
theorem dX1_wordOn_19 : decode cX1_wordOn 19 = .ok (.iaload, 1) := by decide +kernel
theorem dX1_wordOn_20 : decode cX1_wordOn 20 = .ok (.iload_n 3, 1) := by decide +kernel
theorem dX1_wordOn_21 : decode cX1_wordOn 21 = .ok (.invokevirtual 35, 3) := by decide +kernel
theorem dX1_wordOn_24 : decode cX1_wordOn 24 = .ok (.istore 5, 2) := by decide +kernel
theorem dX1_wordOn_26 : decode cX1_wordOn 26 = .ok (.aload_n 0, 1) := by decide +kernel
theorem dX1_wordOn_27 : decode cX1_wordOn 27 = .ok (.getfield 9, 3) := by decide +kernel
theorem dX1_wordOn_30 : decode cX1_wordOn 30 = .ok (.iload_n 1, 1) := by decide +kernel
theorem dX1_wordOn_31 : decode cX1_wordOn 31 = .ok (.iaload, 1) := by decide +kernel
theorem dX1_wordOn_32 : decode cX1_wordOn 32 = .ok (.tableswitch 104 0 2 #[28, 48, 68], 28) := by decide +kernel
theorem dX1_wordOn_60 : decode cX1_wordOn 60 = .ok (.iload 5, 2) := by decide +kernel
theorem dX1_wordOn_62 : decode cX1_wordOn 62 = .ok (.ifCond .ne 8, 3) := by decide +kernel
theorem dX1_wordOn_65 : decode cX1_wordOn 65 = .ok (.bipush (-2), 2) := by decide +kernel
theorem dX1_wordOn_67 : decode cX1_wordOn 67 = .ok (.goto 12, 3) := by decide +kernel
theorem dX1_wordOn_70 : decode cX1_wordOn 70 = .ok (.iload 4, 2) := by decide +kernel
theorem dX1_wordOn_72 : decode cX1_wordOn 72 = .ok (.iload 5, 2) := by decide +kernel
theorem dX1_wordOn_74 : decode cX1_wordOn 74 = .ok (.idiv, 1) := by decide +kernel
theorem dX1_wordOn_75 : decode cX1_wordOn 75 = .ok (.iconst 5, 1) := by decide +kernel
theorem dX1_wordOn_76 : decode cX1_wordOn 76 = .ok (.invokestatic 41, 3) := by decide +kernel
theorem dX1_wordOn_79 : decode cX1_wordOn 79 = .ok (.ireturn, 1) := by decide +kernel
theorem dX1_wordOn_80 : decode cX1_wordOn 80 = .ok (.iload 5, 2) := by decide +kernel
theorem dX1_wordOn_82 : decode cX1_wordOn 82 = .ok (.ifCond .ne 8, 3) := by decide +kernel
theorem dX1_wordOn_85 : decode cX1_wordOn 85 = .ok (.bipush (-2), 2) := by decide +kernel
theorem dX1_wordOn_87 : decode cX1_wordOn 87 = .ok (.goto 12, 3) := by decide +kernel
theorem dX1_wordOn_90 : decode cX1_wordOn 90 = .ok (.iload 4, 2) := by decide +kernel
theorem dX1_wordOn_92 : decode cX1_wordOn 92 = .ok (.iload 5, 2) := by decide +kernel
theorem dX1_wordOn_94 : decode cX1_wordOn 94 = .ok (.irem, 1) := by decide +kernel
theorem dX1_wordOn_95 : decode cX1_wordOn 95 = .ok (.iconst 5, 1) := by decide +kernel
theorem dX1_wordOn_96 : decode cX1_wordOn 96 = .ok (.invokestatic 41, 3) := by decide +kernel
theorem dX1_wordOn_99 : decode cX1_wordOn 99 = .ok (.ireturn, 1) := by decide +kernel
theorem dX1_wordOn_100 : decode cX1_wordOn 100 = .ok (.iload 4, 2) := by decide +kernel
theorem dX1_wordOn_102 : decode cX1_wordOn 102 = .ok (.aload_n 0, 1) := by decide +kernel
theorem dX1_wordOn_103 : decode cX1_wordOn 103 = .ok (.getfield 21, 3) := by decide +kernel
theorem dX1_wordOn_106 : decode cX1_wordOn 106 = .ok (.iload_n 1, 1) := by decide +kernel
theorem dX1_wordOn_107 : decode cX1_wordOn 107 = .ok (.iaload, 1) := by decide +kernel
theorem dX1_wordOn_108 : decode cX1_wordOn 108 = .ok (.iadd, 1) := by decide +kernel
theorem dX1_wordOn_109 : decode cX1_wordOn 109 = .ok (.istore 6, 2) := by decide +kernel
theorem dX1_wordOn_111 : decode cX1_wordOn 111 = .ok (.iload 6, 2) := by decide +kernel
theorem dX1_wordOn_113 : decode cX1_wordOn 113 = .ok (.invokestatic 46, 3) := by decide +kernel
theorem dX1_wordOn_116 : decode cX1_wordOn 116 = .ok (.ifCond .eq 17, 3) := by decide +kernel
theorem dX1_wordOn_119 : decode cX1_wordOn 119 = .ok (.aload_n 0, 1) := by decide +kernel
theorem dX1_wordOn_120 : decode cX1_wordOn 120 = .ok (.getfield 28, 3) := by decide +kernel
theorem dX1_wordOn_123 : decode cX1_wordOn 123 = .ok (.iload 6, 2) := by decide +kernel
theorem dX1_wordOn_125 : decode cX1_wordOn 125 = .ok (.iaload, 1) := by decide +kernel
theorem dX1_wordOn_126 : decode cX1_wordOn 126 = .ok (.iconst 5, 1) := by decide +kernel
theorem dX1_wordOn_127 : decode cX1_wordOn 127 = .ok (.invokestatic 41, 3) := by decide +kernel
theorem dX1_wordOn_130 : decode cX1_wordOn 130 = .ok (.goto 5, 3) := by decide +kernel
theorem dX1_wordOn_133 : decode cX1_wordOn 133 = .ok (.bipush (-3), 2) := by decide +kernel
theorem dX1_wordOn_135 : decode cX1_wordOn 135 = .ok (.ireturn, 1) := by decide +kernel
theorem dX1_wordOn_136 : decode cX1_wordOn 136 = .ok (.iload 4, 2) := by decide +kernel
theorem dX1_wordOn_138 : decode cX1_wordOn 138 = .ok (.aload_n 0, 1) := by decide +kernel
theorem dX1_wordOn_139 : decode cX1_wordOn 139 = .ok (.getfield 21, 3) := by decide +kernel
theorem dX1_wordOn_142 : decode cX1_wordOn 142 = .ok (.iload_n 1, 1) := by decide +kernel
theorem dX1_wordOn_143 : decode cX1_wordOn 143 = .ok (.iaload, 1) := by decide +kernel
theorem dX1_wordOn_144 : decode cX1_wordOn 144 = .ok (.if_icmp .ge 7, 3) := by decide +kernel
theorem dX1_wordOn_147 : decode cX1_wordOn 147 = .ok (.iconst 0, 1) := by decide +kernel
theorem dX1_wordOn_148 : decode cX1_wordOn 148 = .ok (.goto 4, 3) := by decide +kernel
theorem dX1_wordOn_151 : decode cX1_wordOn 151 = .ok (.iconst 1, 1) := by decide +kernel
theorem dX1_wordOn_152 : decode cX1_wordOn 152 = .ok (.ireturn, 1) := by decide +kernel
theorem dX2_init_0 : decode cX2_init 0 = .ok (.aload_n 0, 1) := by decide +kernel
theorem dX2_init_1 : decode cX2_init 1 = .ok (.invokespecial 3, 3) := by decide +kernel
theorem dX2_init_4 : decode cX2_init 4 = .ok (.aload_n 0, 1) := by decide +kernel
theorem dX2_init_5 : decode cX2_init 5 = .ok (.iconst 4, 1) := by decide +kernel
theorem dX2_init_6 : decode cX2_init 6 = .ok (.bipush 40, 2) := by decide +kernel
theorem dX2_init_8 : decode cX2_init 8 = .ok (.multianewarray 9 2, 4) := by decide +kernel
theorem dX2_init_12 : decode cX2_init 12 = .ok (.putfield 11, 3) := by decide +kernel
theorem dX2_init_15 : decode cX2_init 15 = .ok (.aload_n 0, 1) := by decide +kernel
theorem dX2_init_16 : decode cX2_init 16 = .ok (.bipush 8, 2) := by decide +kernel
theorem dX2_init_18 : decode cX2_init 18 = .ok (.bipush 40, 2) := by decide +kernel
theorem dX2_init_20 : decode cX2_init 20 = .ok (.multianewarray 9 2, 4) := by decide +kernel
theorem dX2_init_24 : decode cX2_init 24 = .ok (.putfield 16, 3) := by decide +kernel
theorem dX2_init_27 : decode cX2_init 27 = .ok (.iconst 0, 1) := by decide +kernel
theorem dX2_init_28 : decode cX2_init 28 = .ok (.istore_n 1, 1) := by decide +kernel
theorem dX2_init_29 : decode cX2_init 29 = .ok (.iload_n 1, 1) := by decide +kernel
theorem dX2_init_30 : decode cX2_init 30 = .ok (.bipush 8, 2) := by decide +kernel
theorem dX2_init_32 : decode cX2_init 32 = .ok (.if_icmp .ge 19, 3) := by decide +kernel
theorem dX2_init_35 : decode cX2_init 35 = .ok (.aload_n 0, 1) := by decide +kernel
theorem dX2_init_36 : decode cX2_init 36 = .ok (.getfield 16, 3) := by decide +kernel
theorem dX2_init_39 : decode cX2_init 39 = .ok (.iload_n 1, 1) := by decide +kernel
theorem dX2_init_40 : decode cX2_init 40 = .ok (.aaload, 1) := by decide +kernel
theorem dX2_init_41 : decode cX2_init 41 = .ok (.iconst (-1), 1) := by decide +kernel
theorem dX2_init_42 : decode cX2_init 42 = .ok (.invokestatic 19, 3) := by decide +kernel
theorem dX2_init_45 : decode cX2_init 45 = .ok (.iinc 1 1, 3) := by decide +kernel
theorem dX2_init_48 : decode cX2_init 48 = .ok (.goto (-19), 3) := by decide +kernel
theorem dX2_init_51 : decode cX2_init 51 = .ok (.aload_n 0, 1) := by decide +kernel
theorem dX2_init_52 : decode cX2_init 52 = .ok (.bipush 40, 2) := by decide +kernel
theorem dX2_init_54 : decode cX2_init 54 = .ok (.newarray .int, 2) := by decide +kernel
theorem dX2_init_56 : decode cX2_init 56 = .ok (.putfield 25, 3) := by decide +kernel
theorem dX2_init_59 : decode cX2_init 59 = .ok (.aload_n 0, 1) := by decide +kernel
theorem dX2_init_60 : decode cX2_init 60 = .ok (.getfield 25, 3) := by decide +kernel
theorem dX2_init_63 : decode cX2_init 63 = .ok (.iconst (-1), 1) := by decide +kernel
theorem dX2_init_64 : decode cX2_init 64 = .ok (.invokestatic 19, 3) := by decide +kernel
theorem dX2_init_67 : decode cX2_init 67 = .ok (.aload_n 0, 1) := by decide +kernel
theorem dX2_init_68 : decode cX2_init 68 = .ok (.bipush 8, 2) := by decide +kernel
theorem dX2_init_70 : decode cX2_init 70 = .ok (.newarray .int, 2) := by decide +kernel
theorem dX2_init_72 : decode cX2_init 72 = .ok (.putfield 29, 3) := by decide +kernel
theorem dX2_init_75 : decode cX2_init 75 = .ok (.return_, 1) := by decide +kernel
theorem dX2_size_0 : decode cX2_size 0 = .ok (.aload_n 0, 1) := by decide +kernel
theorem dX2_size_1 : decode cX2_size 1 = .ok (.getfield 32, 3) := by decide +kernel
theorem dX2_size_4 : decode cX2_size 4 = .ok (.ireturn, 1) := by decide +kernel
theorem dX2_hasRow_0 : decode cX2_hasRow 0 = .ok (.iload_n 1, 1) := by decide +kernel
theorem dX2_hasRow_1 : decode cX2_hasRow 1 = .ok (.ifCond .lt 15, 3) := by decide +kernel
theorem dX2_hasRow_4 : decode cX2_hasRow 4 = .ok (.iload_n 1, 1) := by decide +kernel
theorem dX2_hasRow_5 : decode cX2_hasRow 5 = .ok (.aload_n 0, 1) := by decide +kernel
theorem dX2_hasRow_6 : decode cX2_hasRow 6 = .ok (.getfield 32, 3) := by decide +kernel
theorem dX2_hasRow_9 : decode cX2_hasRow 9 = .ok (.if_icmp .ge 7, 3) := by decide +kernel
theorem dX2_hasRow_12 : decode cX2_hasRow 12 = .ok (.iconst 1, 1) := by decide +kernel
theorem dX2_hasRow_13 : decode cX2_hasRow 13 = .ok (.goto 4, 3) := by decide +kernel
theorem dX2_hasRow_16 : decode cX2_hasRow 16 = .ok (.iconst 0, 1) := by decide +kernel
theorem dX2_hasRow_17 : decode cX2_hasRow 17 = .ok (.ireturn, 1) := by decide +kernel
theorem dX2_addRow_0 : decode cX2_addRow 0 = .ok (.aload_n 0, 1) := by decide +kernel
theorem dX2_addRow_1 : decode cX2_addRow 1 = .ok (.getfield 32, 3) := by decide +kernel
theorem dX2_addRow_4 : decode cX2_addRow 4 = .ok (.bipush 40, 2) := by decide +kernel
theorem dX2_addRow_6 : decode cX2_addRow 6 = .ok (.if_icmp .lt 6, 3) := by decide +kernel
theorem dX2_addRow_9 : decode cX2_addRow 9 = .ok (.bipush (-104), 2) := by decide +kernel
theorem dX2_addRow_11 : decode cX2_addRow 11 = .ok (.ireturn, 1) := by decide +kernel
theorem dX2_addRow_12 : decode cX2_addRow 12 = .ok (.aload_n 0, 1) := by decide +kernel
theorem dX2_addRow_13 : decode cX2_addRow 13 = .ok (.getfield 11, 3) := by decide +kernel
theorem dX2_addRow_16 : decode cX2_addRow 16 = .ok (.iconst 0, 1) := by decide +kernel
theorem dX2_addRow_17 : decode cX2_addRow 17 = .ok (.aaload, 1) := by decide +kernel
theorem dX2_addRow_18 : decode cX2_addRow 18 = .ok (.aload_n 0, 1) := by decide +kernel
theorem dX2_addRow_19 : decode cX2_addRow 19 = .ok (.getfield 32, 3) := by decide +kernel
theorem dX2_addRow_22 : decode cX2_addRow 22 = .ok (.iload_n 1, 1) := by decide +kernel
theorem dX2_addRow_23 : decode cX2_addRow 23 = .ok (.iastore, 1) := by decide +kernel
theorem dX2_addRow_24 : decode cX2_addRow 24 = .ok (.aload_n 0, 1) := by decide +kernel
theorem dX2_addRow_25 : decode cX2_addRow 25 = .ok (.getfield 11, 3) := by decide +kernel
theorem dX2_addRow_28 : decode cX2_addRow 28 = .ok (.iconst 1, 1) := by decide +kernel
theorem dX2_addRow_29 : decode cX2_addRow 29 = .ok (.aaload, 1) := by decide +kernel
theorem dX2_addRow_30 : decode cX2_addRow 30 = .ok (.aload_n 0, 1) := by decide +kernel
theorem dX2_addRow_31 : decode cX2_addRow 31 = .ok (.getfield 32, 3) := by decide +kernel
theorem dX2_addRow_34 : decode cX2_addRow 34 = .ok (.iload_n 2, 1) := by decide +kernel
theorem dX2_addRow_35 : decode cX2_addRow 35 = .ok (.iastore, 1) := by decide +kernel
theorem dX2_addRow_36 : decode cX2_addRow 36 = .ok (.aload_n 0, 1) := by decide +kernel
theorem dX2_addRow_37 : decode cX2_addRow 37 = .ok (.getfield 11, 3) := by decide +kernel
theorem dX2_addRow_40 : decode cX2_addRow 40 = .ok (.iconst 2, 1) := by decide +kernel
theorem dX2_addRow_41 : decode cX2_addRow 41 = .ok (.aaload, 1) := by decide +kernel
theorem dX2_addRow_42 : decode cX2_addRow 42 = .ok (.aload_n 0, 1) := by decide +kernel
theorem dX2_addRow_43 : decode cX2_addRow 43 = .ok (.getfield 32, 3) := by decide +kernel
theorem dX2_addRow_46 : decode cX2_addRow 46 = .ok (.iload_n 3, 1) := by decide +kernel
theorem dX2_addRow_47 : decode cX2_addRow 47 = .ok (.iastore, 1) := by decide +kernel
theorem dX2_addRow_48 : decode cX2_addRow 48 = .ok (.aload_n 0, 1) := by decide +kernel
theorem dX2_addRow_49 : decode cX2_addRow 49 = .ok (.getfield 11, 3) := by decide +kernel
theorem dX2_addRow_52 : decode cX2_addRow 52 = .ok (.iconst 3, 1) := by decide +kernel
theorem dX2_addRow_53 : decode cX2_addRow 53 = .ok (.aaload, 1) := by decide +kernel
theorem dX2_addRow_54 : decode cX2_addRow 54 = .ok (.aload_n 0, 1) := by decide +kernel
theorem dX2_addRow_55 : decode cX2_addRow 55 = .ok (.getfield 32, 3) := by decide +kernel
theorem dX2_addRow_58 : decode cX2_addRow 58 = .ok (.iload 4, 2) := by decide +kernel
theorem dX2_addRow_60 : decode cX2_addRow 60 = .ok (.iastore, 1) := by decide +kernel
theorem dX2_addRow_61 : decode cX2_addRow 61 = .ok (.aload_n 0, 1) := by decide +kernel
theorem dX2_addRow_62 : decode cX2_addRow 62 = .ok (.dup, 1) := by decide +kernel
theorem dX2_addRow_63 : decode cX2_addRow 63 = .ok (.getfield 32, 3) := by decide +kernel
theorem dX2_addRow_66 : decode cX2_addRow 66 = .ok (.dup_x1, 1) := by decide +kernel
theorem dX2_addRow_67 : decode cX2_addRow 67 = .ok (.iconst 1, 1) := by decide +kernel
theorem dX2_addRow_68 : decode cX2_addRow 68 = .ok (.iadd, 1) := by decide +kernel
theorem dX2_addRow_69 : decode cX2_addRow 69 = .ok (.putfield 32, 3) := by decide +kernel
theorem dX2_addRow_72 : decode cX2_addRow 72 = .ok (.ireturn, 1) := by decide +kernel
theorem dX2_feature_0 : decode cX2_feature 0 = .ok (.aload_n 0, 1) := by decide +kernel
theorem dX2_feature_1 : decode cX2_feature 1 = .ok (.getfield 11, 3) := by decide +kernel
theorem dX2_feature_4 : decode cX2_feature 4 = .ok (.iload_n 1, 1) := by decide +kernel
theorem dX2_feature_5 : decode cX2_feature 5 = .ok (.aaload, 1) := by decide +kernel
theorem dX2_feature_6 : decode cX2_feature 6 = .ok (.iload_n 2, 1) := by decide +kernel
theorem dX2_feature_7 : decode cX2_feature 7 = .ok (.iaload, 1) := by decide +kernel
theorem dX2_feature_8 : decode cX2_feature 8 = .ok (.ireturn, 1) := by decide +kernel
theorem dX2_given_0 : decode cX2_given 0 = .ok (.aload_n 0, 1) := by decide +kernel
theorem dX2_given_1 : decode cX2_given 1 = .ok (.getfield 16, 3) := by decide +kernel
theorem dX2_given_4 : decode cX2_given 4 = .ok (.iload_n 1, 1) := by decide +kernel
theorem dX2_given_5 : decode cX2_given 5 = .ok (.aaload, 1) := by decide +kernel
theorem dX2_given_6 : decode cX2_given 6 = .ok (.iload_n 2, 1) := by decide +kernel
theorem dX2_given_7 : decode cX2_given 7 = .ok (.iaload, 1) := by decide +kernel
theorem dX2_given_8 : decode cX2_given 8 = .ok (.ireturn, 1) := by decide +kernel
theorem dX2_give_0 : decode cX2_give 0 = .ok (.aload_n 0, 1) := by decide +kernel
theorem dX2_give_1 : decode cX2_give 1 = .ok (.getfield 16, 3) := by decide +kernel
theorem dX2_give_4 : decode cX2_give 4 = .ok (.iload_n 1, 1) := by decide +kernel
theorem dX2_give_5 : decode cX2_give 5 = .ok (.aaload, 1) := by decide +kernel
theorem dX2_give_6 : decode cX2_give 6 = .ok (.iload_n 2, 1) := by decide +kernel
theorem dX2_give_7 : decode cX2_give 7 = .ok (.iload_n 3, 1) := by decide +kernel
theorem dX2_give_8 : decode cX2_give 8 = .ok (.iastore, 1) := by decide +kernel
theorem dX2_give_9 : decode cX2_give 9 = .ok (.aload_n 0, 1) := by decide +kernel
theorem dX2_give_10 : decode cX2_give 10 = .ok (.iload_n 1, 1) := by decide +kernel
theorem dX2_give_11 : decode cX2_give 11 = .ok (.invokevirtual 36, 3) := by decide +kernel
theorem dX2_give_14 : decode cX2_give 14 = .ok (.return_, 1) := by decide +kernel
theorem dX2_known_0 : decode cX2_known 0 = .ok (.aload_n 0, 1) := by decide +kernel
theorem dX2_known_1 : decode cX2_known 1 = .ok (.getfield 25, 3) := by decide +kernel
theorem dX2_known_4 : decode cX2_known 4 = .ok (.iload_n 1, 1) := by decide +kernel
theorem dX2_known_5 : decode cX2_known 5 = .ok (.iaload, 1) := by decide +kernel
theorem dX2_known_6 : decode cX2_known 6 = .ok (.ireturn, 1) := by decide +kernel
theorem dX2_setKnown_0 : decode cX2_setKnown 0 = .ok (.aload_n 0, 1) := by decide +kernel
theorem dX2_setKnown_1 : decode cX2_setKnown 1 = .ok (.getfield 25, 3) := by decide +kernel
theorem dX2_setKnown_4 : decode cX2_setKnown 4 = .ok (.iload_n 1, 1) := by decide +kernel
theorem dX2_setKnown_5 : decode cX2_setKnown 5 = .ok (.iload_n 2, 1) := by decide +kernel
theorem dX2_setKnown_6 : decode cX2_setKnown 6 = .ok (.iastore, 1) := by decide +kernel
theorem dX2_setKnown_7 : decode cX2_setKnown 7 = .ok (.iconst 0, 1) := by decide +kernel
theorem dX2_setKnown_8 : decode cX2_setKnown 8 = .ok (.istore_n 3, 1) := by decide +kernel
theorem dX2_setKnown_9 : decode cX2_setKnown 9 = .ok (.iload_n 3, 1) := by decide +kernel
theorem dX2_setKnown_10 : decode cX2_setKnown 10 = .ok (.bipush 8, 2) := by decide +kernel
theorem dX2_setKnown_12 : decode cX2_setKnown 12 = .ok (.if_icmp .ge 14, 3) := by decide +kernel
theorem dX2_setKnown_15 : decode cX2_setKnown 15 = .ok (.aload_n 0, 1) := by decide +kernel
theorem dX2_setKnown_16 : decode cX2_setKnown 16 = .ok (.iload_n 3, 1) := by decide +kernel
theorem dX2_setKnown_17 : decode cX2_setKnown 17 = .ok (.invokevirtual 36, 3) := by decide +kernel
theorem dX2_setKnown_20 : decode cX2_setKnown 20 = .ok (.iinc 3 1, 3) := by decide +kernel
theorem dX2_setKnown_23 : decode cX2_setKnown 23 = .ok (.goto (-14), 3) := by decide +kernel
theorem dX2_setKnown_26 : decode cX2_setKnown 26 = .ok (.return_, 1) := by decide +kernel
theorem dX2_wrongOf_0 : decode cX2_wrongOf 0 = .ok (.aload_n 0, 1) := by decide +kernel
theorem dX2_wrongOf_1 : decode cX2_wrongOf 1 = .ok (.getfield 29, 3) := by decide +kernel
theorem dX2_wrongOf_4 : decode cX2_wrongOf 4 = .ok (.iload_n 1, 1) := by decide +kernel
theorem dX2_wrongOf_5 : decode cX2_wrongOf 5 = .ok (.iaload, 1) := by decide +kernel
theorem dX2_wrongOf_6 : decode cX2_wrongOf 6 = .ok (.ireturn, 1) := by decide +kernel
theorem dX2_givenBy_0 : decode cX2_givenBy 0 = .ok (.iconst 0, 1) := by decide +kernel
theorem dX2_givenBy_1 : decode cX2_givenBy 1 = .ok (.istore_n 2, 1) := by decide +kernel
theorem dX2_givenBy_2 : decode cX2_givenBy 2 = .ok (.iconst 0, 1) := by decide +kernel
theorem dX2_givenBy_3 : decode cX2_givenBy 3 = .ok (.istore_n 3, 1) := by decide +kernel
theorem dX2_givenBy_4 : decode cX2_givenBy 4 = .ok (.iload_n 3, 1) := by decide +kernel
theorem dX2_givenBy_5 : decode cX2_givenBy 5 = .ok (.aload_n 0, 1) := by decide +kernel
theorem dX2_givenBy_6 : decode cX2_givenBy 6 = .ok (.getfield 32, 3) := by decide +kernel
theorem dX2_givenBy_9 : decode cX2_givenBy 9 = .ok (.if_icmp .ge 24, 3) := by decide +kernel
theorem dX2_givenBy_12 : decode cX2_givenBy 12 = .ok (.aload_n 0, 1) := by decide +kernel
theorem dX2_givenBy_13 : decode cX2_givenBy 13 = .ok (.getfield 16, 3) := by decide +kernel
theorem dX2_givenBy_16 : decode cX2_givenBy 16 = .ok (.iload_n 1, 1) := by decide +kernel
theorem dX2_givenBy_17 : decode cX2_givenBy 17 = .ok (.aaload, 1) := by decide +kernel
theorem dX2_givenBy_18 : decode cX2_givenBy 18 = .ok (.iload_n 3, 1) := by decide +kernel
theorem dX2_givenBy_19 : decode cX2_givenBy 19 = .ok (.iaload, 1) := by decide +kernel
theorem dX2_givenBy_20 : decode cX2_givenBy 20 = .ok (.iconst (-1), 1) := by decide +kernel
theorem dX2_givenBy_21 : decode cX2_givenBy 21 = .ok (.if_icmp .eq 6, 3) := by decide +kernel
theorem dX2_givenBy_24 : decode cX2_givenBy 24 = .ok (.iinc 2 1, 3) := by decide +kernel
theorem dX2_givenBy_27 : decode cX2_givenBy 27 = .ok (.iinc 3 1, 3) := by decide +kernel
theorem dX2_givenBy_30 : decode cX2_givenBy 30 = .ok (.goto (-26), 3) := by decide +kernel
theorem dX2_givenBy_33 : decode cX2_givenBy 33 = .ok (.iload_n 2, 1) := by decide +kernel
theorem dX2_givenBy_34 : decode cX2_givenBy 34 = .ok (.ireturn, 1) := by decide +kernel
theorem dX2_givenOn_0 : decode cX2_givenOn 0 = .ok (.iconst 0, 1) := by decide +kernel
theorem dX2_givenOn_1 : decode cX2_givenOn 1 = .ok (.istore_n 2, 1) := by decide +kernel
theorem dX2_givenOn_2 : decode cX2_givenOn 2 = .ok (.iconst 0, 1) := by decide +kernel
theorem dX2_givenOn_3 : decode cX2_givenOn 3 = .ok (.istore_n 3, 1) := by decide +kernel
theorem dX2_givenOn_4 : decode cX2_givenOn 4 = .ok (.iload_n 3, 1) := by decide +kernel
theorem dX2_givenOn_5 : decode cX2_givenOn 5 = .ok (.bipush 8, 2) := by decide +kernel
theorem dX2_givenOn_7 : decode cX2_givenOn 7 = .ok (.if_icmp .ge 24, 3) := by decide +kernel
theorem dX2_givenOn_10 : decode cX2_givenOn 10 = .ok (.aload_n 0, 1) := by decide +kernel
theorem dX2_givenOn_11 : decode cX2_givenOn 11 = .ok (.getfield 16, 3) := by decide +kernel
theorem dX2_givenOn_14 : decode cX2_givenOn 14 = .ok (.iload_n 3, 1) := by decide +kernel
theorem dX2_givenOn_15 : decode cX2_givenOn 15 = .ok (.aaload, 1) := by decide +kernel
theorem dX2_givenOn_16 : decode cX2_givenOn 16 = .ok (.iload_n 1, 1) := by decide +kernel
theorem dX2_givenOn_17 : decode cX2_givenOn 17 = .ok (.iaload, 1) := by decide +kernel
theorem dX2_givenOn_18 : decode cX2_givenOn 18 = .ok (.iconst (-1), 1) := by decide +kernel
theorem dX2_givenOn_19 : decode cX2_givenOn 19 = .ok (.if_icmp .eq 6, 3) := by decide +kernel
theorem dX2_givenOn_22 : decode cX2_givenOn 22 = .ok (.iinc 2 1, 3) := by decide +kernel
theorem dX2_givenOn_25 : decode cX2_givenOn 25 = .ok (.iinc 3 1, 3) := by decide +kernel
theorem dX2_givenOn_28 : decode cX2_givenOn 28 = .ok (.goto (-24), 3) := by decide +kernel
theorem dX2_givenOn_31 : decode cX2_givenOn 31 = .ok (.iload_n 2, 1) := by decide +kernel
theorem dX2_givenOn_32 : decode cX2_givenOn 32 = .ok (.ireturn, 1) := by decide +kernel
theorem dX2_countKnown_0 : decode cX2_countKnown 0 = .ok (.iconst 0, 1) := by decide +kernel
theorem dX2_countKnown_1 : decode cX2_countKnown 1 = .ok (.istore_n 1, 1) := by decide +kernel
theorem dX2_countKnown_2 : decode cX2_countKnown 2 = .ok (.iconst 0, 1) := by decide +kernel
theorem dX2_countKnown_3 : decode cX2_countKnown 3 = .ok (.istore_n 2, 1) := by decide +kernel
theorem dX2_countKnown_4 : decode cX2_countKnown 4 = .ok (.iload_n 2, 1) := by decide +kernel
theorem dX2_countKnown_5 : decode cX2_countKnown 5 = .ok (.aload_n 0, 1) := by decide +kernel
theorem dX2_countKnown_6 : decode cX2_countKnown 6 = .ok (.getfield 32, 3) := by decide +kernel
theorem dX2_countKnown_9 : decode cX2_countKnown 9 = .ok (.if_icmp .ge 22, 3) := by decide +kernel
theorem dX2_countKnown_12 : decode cX2_countKnown 12 = .ok (.aload_n 0, 1) := by decide +kernel
theorem dX2_countKnown_13 : decode cX2_countKnown 13 = .ok (.getfield 25, 3) := by decide +kernel
theorem dX2_countKnown_16 : decode cX2_countKnown 16 = .ok (.iload_n 2, 1) := by decide +kernel
theorem dX2_countKnown_17 : decode cX2_countKnown 17 = .ok (.iaload, 1) := by decide +kernel
theorem dX2_countKnown_18 : decode cX2_countKnown 18 = .ok (.iconst (-1), 1) := by decide +kernel
theorem dX2_countKnown_19 : decode cX2_countKnown 19 = .ok (.if_icmp .eq 6, 3) := by decide +kernel
theorem dX2_countKnown_22 : decode cX2_countKnown 22 = .ok (.iinc 1 1, 3) := by decide +kernel
theorem dX2_countKnown_25 : decode cX2_countKnown 25 = .ok (.iinc 2 1, 3) := by decide +kernel
theorem dX2_countKnown_28 : decode cX2_countKnown 28 = .ok (.goto (-24), 3) := by decide +kernel
theorem dX2_countKnown_31 : decode cX2_countKnown 31 = .ok (.iload_n 1, 1) := by decide +kernel
theorem dX2_countKnown_32 : decode cX2_countKnown 32 = .ok (.ireturn, 1) := by decide +kernel
theorem dX2_countWrong_0 : decode cX2_countWrong 0 = .ok (.iconst 0, 1) := by decide +kernel
theorem dX2_countWrong_1 : decode cX2_countWrong 1 = .ok (.istore_n 2, 1) := by decide +kernel
theorem dX2_countWrong_2 : decode cX2_countWrong 2 = .ok (.iconst 0, 1) := by decide +kernel
theorem dX2_countWrong_3 : decode cX2_countWrong 3 = .ok (.istore_n 3, 1) := by decide +kernel
theorem dX2_countWrong_4 : decode cX2_countWrong 4 = .ok (.iload_n 3, 1) := by decide +kernel
theorem dX2_countWrong_5 : decode cX2_countWrong 5 = .ok (.aload_n 0, 1) := by decide +kernel
theorem dX2_countWrong_6 : decode cX2_countWrong 6 = .ok (.getfield 32, 3) := by decide +kernel
theorem dX2_countWrong_9 : decode cX2_countWrong 9 = .ok (.if_icmp .ge 49, 3) := by decide +kernel
theorem dX2_countWrong_12 : decode cX2_countWrong 12 = .ok (.aload_n 0, 1) := by decide +kernel
theorem dX2_countWrong_13 : decode cX2_countWrong 13 = .ok (.getfield 16, 3) := by decide +kernel
theorem dX2_countWrong_16 : decode cX2_countWrong 16 = .ok (.iload_n 1, 1) := by decide +kernel
theorem dX2_countWrong_17 : decode cX2_countWrong 17 = .ok (.aaload, 1) := by decide +kernel
theorem dX2_countWrong_18 : decode cX2_countWrong 18 = .ok (.iload_n 3, 1) := by decide +kernel
theorem dX2_countWrong_19 : decode cX2_countWrong 19 = .ok (.iaload, 1) := by decide +kernel
theorem dX2_countWrong_20 : decode cX2_countWrong 20 = .ok (.istore 4, 2) := by decide +kernel
theorem dX2_countWrong_22 : decode cX2_countWrong 22 = .ok (.iload 4, 2) := by decide +kernel
theorem dX2_countWrong_24 : decode cX2_countWrong 24 = .ok (.iconst (-1), 1) := by decide +kernel
theorem dX2_countWrong_25 : decode cX2_countWrong 25 = .ok (.if_icmp .eq 27, 3) := by decide +kernel
theorem dX2_countWrong_28 : decode cX2_countWrong 28 = .ok (.aload_n 0, 1) := by decide +kernel
theorem dX2_countWrong_29 : decode cX2_countWrong 29 = .ok (.getfield 25, 3) := by decide +kernel
theorem dX2_countWrong_32 : decode cX2_countWrong 32 = .ok (.iload_n 3, 1) := by decide +kernel
theorem dX2_countWrong_33 : decode cX2_countWrong 33 = .ok (.iaload, 1) := by decide +kernel
theorem dX2_countWrong_34 : decode cX2_countWrong 34 = .ok (.iconst (-1), 1) := by decide +kernel
theorem dX2_countWrong_35 : decode cX2_countWrong 35 = .ok (.if_icmp .eq 17, 3) := by decide +kernel
theorem dX2_countWrong_38 : decode cX2_countWrong 38 = .ok (.iload 4, 2) := by decide +kernel
theorem dX2_countWrong_40 : decode cX2_countWrong 40 = .ok (.aload_n 0, 1) := by decide +kernel
theorem dX2_countWrong_41 : decode cX2_countWrong 41 = .ok (.getfield 25, 3) := by decide +kernel
theorem dX2_countWrong_44 : decode cX2_countWrong 44 = .ok (.iload_n 3, 1) := by decide +kernel
theorem dX2_countWrong_45 : decode cX2_countWrong 45 = .ok (.iaload, 1) := by decide +kernel
theorem dX2_countWrong_46 : decode cX2_countWrong 46 = .ok (.if_icmp .eq 6, 3) := by decide +kernel
theorem dX2_countWrong_49 : decode cX2_countWrong 49 = .ok (.iinc 2 1, 3) := by decide +kernel
theorem dX2_countWrong_52 : decode cX2_countWrong 52 = .ok (.iinc 3 1, 3) := by decide +kernel
theorem dX2_countWrong_55 : decode cX2_countWrong 55 = .ok (.goto (-51), 3) := by decide +kernel
theorem dX2_countWrong_58 : decode cX2_countWrong 58 = .ok (.aload_n 0, 1) := by decide +kernel
theorem dX2_countWrong_59 : decode cX2_countWrong 59 = .ok (.getfield 29, 3) := by decide +kernel
theorem dX2_countWrong_62 : decode cX2_countWrong 62 = .ok (.iload_n 1, 1) := by decide +kernel
theorem dX2_countWrong_63 : decode cX2_countWrong 63 = .ok (.iload_n 2, 1) := by decide +kernel
theorem dX2_countWrong_64 : decode cX2_countWrong 64 = .ok (.iastore, 1) := by decide +kernel
theorem dX2_countWrong_65 : decode cX2_countWrong 65 = .ok (.return_, 1) := by decide +kernel
theorem dX3_init_0 : decode cX3_init 0 = .ok (.aload_n 0, 1) := by decide +kernel
theorem dX3_init_1 : decode cX3_init 1 = .ok (.invokespecial 1, 3) := by decide +kernel
theorem dX3_init_4 : decode cX3_init 4 = .ok (.aload_n 0, 1) := by decide +kernel
theorem dX3_init_5 : decode cX3_init 5 = .ok (.new 7, 3) := by decide +kernel
theorem dX3_init_8 : decode cX3_init 8 = .ok (.dup, 1) := by decide +kernel
theorem dX3_init_9 : decode cX3_init 9 = .ok (.invokespecial 9, 3) := by decide +kernel
theorem dX3_init_12 : decode cX3_init 12 = .ok (.putfield 10, 3) := by decide +kernel
theorem dX3_init_15 : decode cX3_init 15 = .ok (.aload_n 0, 1) := by decide +kernel
theorem dX3_init_16 : decode cX3_init 16 = .ok (.new 16, 3) := by decide +kernel
theorem dX3_init_19 : decode cX3_init 19 = .ok (.dup, 1) := by decide +kernel
theorem dX3_init_20 : decode cX3_init 20 = .ok (.invokespecial 18, 3) := by decide +kernel
theorem dX3_init_23 : decode cX3_init 23 = .ok (.putfield 19, 3) := by decide +kernel
theorem dX3_init_26 : decode cX3_init 26 = .ok (.aload_n 0, 1) := by decide +kernel
theorem dX3_init_27 : decode cX3_init 27 = .ok (.new 23, 3) := by decide +kernel
theorem dX3_init_30 : decode cX3_init 30 = .ok (.dup, 1) := by decide +kernel
theorem dX3_init_31 : decode cX3_init 31 = .ok (.invokespecial 25, 3) := by decide +kernel
theorem dX3_init_34 : decode cX3_init 34 = .ok (.putfield 26, 3) := by decide +kernel
theorem dX3_init_37 : decode cX3_init 37 = .ok (.aload_n 0, 1) := by decide +kernel
theorem dX3_init_38 : decode cX3_init 38 = .ok (.bipush 8, 2) := by decide +kernel
theorem dX3_init_40 : decode cX3_init 40 = .ok (.newarray .boolean, 2) := by decide +kernel
theorem dX3_init_42 : decode cX3_init 42 = .ok (.putfield 30, 3) := by decide +kernel
theorem dX3_init_45 : decode cX3_init 45 = .ok (.aload_n 0, 1) := by decide +kernel
theorem dX3_init_46 : decode cX3_init 46 = .ok (.bipush 8, 2) := by decide +kernel
theorem dX3_init_48 : decode cX3_init 48 = .ok (.newarray .int, 2) := by decide +kernel
theorem dX3_init_50 : decode cX3_init 50 = .ok (.putfield 34, 3) := by decide +kernel
theorem dX3_init_53 : decode cX3_init 53 = .ok (.aload_n 0, 1) := by decide +kernel
theorem dX3_init_54 : decode cX3_init 54 = .ok (.getfield 34, 3) := by decide +kernel
theorem dX3_init_57 : decode cX3_init 57 = .ok (.bipush 10, 2) := by decide +kernel
theorem dX3_init_59 : decode cX3_init 59 = .ok (.invokestatic 38, 3) := by decide +kernel
theorem dX3_init_62 : decode cX3_init 62 = .ok (.aload_n 0, 1) := by decide +kernel
theorem dX3_init_63 : decode cX3_init 63 = .ok (.iconst 3, 1) := by decide +kernel
theorem dX3_init_64 : decode cX3_init 64 = .ok (.putfield 44, 3) := by decide +kernel
theorem dX3_init_67 : decode cX3_init 67 = .ok (.aload_n 0, 1) := by decide +kernel
theorem dX3_init_68 : decode cX3_init 68 = .ok (.iconst 5, 1) := by decide +kernel
theorem dX3_init_69 : decode cX3_init 69 = .ok (.newarray .int, 2) := by decide +kernel
theorem dX3_init_71 : decode cX3_init 71 = .ok (.putfield 48, 3) := by decide +kernel
theorem dX3_init_74 : decode cX3_init 74 = .ok (.aload_n 0, 1) := by decide +kernel
theorem dX3_init_75 : decode cX3_init 75 = .ok (.bipush 40, 2) := by decide +kernel
theorem dX3_init_77 : decode cX3_init 77 = .ok (.newarray .int, 2) := by decide +kernel
theorem dX3_init_79 : decode cX3_init 79 = .ok (.putfield 51, 3) := by decide +kernel
theorem dX3_init_82 : decode cX3_init 82 = .ok (.aload_n 0, 1) := by decide +kernel
theorem dX3_init_83 : decode cX3_init 83 = .ok (.bipush 8, 2) := by decide +kernel
theorem dX3_init_85 : decode cX3_init 85 = .ok (.newarray .int, 2) := by decide +kernel
theorem dX3_init_87 : decode cX3_init 87 = .ok (.putfield 54, 3) := by decide +kernel
theorem dX3_init_90 : decode cX3_init 90 = .ok (.return_, 1) := by decide +kernel
theorem dX3_row_0 : decode cX3_row 0 = .ok (.aload_n 0, 1) := by decide +kernel
theorem dX3_row_1 : decode cX3_row 1 = .ok (.getfield 10, 3) := by decide +kernel
theorem dX3_row_4 : decode cX3_row 4 = .ok (.iload_n 1, 1) := by decide +kernel
theorem dX3_row_5 : decode cX3_row 5 = .ok (.iload_n 2, 1) := by decide +kernel
theorem dX3_row_6 : decode cX3_row 6 = .ok (.iload_n 3, 1) := by decide +kernel
theorem dX3_row_7 : decode cX3_row 7 = .ok (.iload 4, 2) := by decide +kernel
theorem dX3_row_9 : decode cX3_row 9 = .ok (.invokevirtual 57, 3) := by decide +kernel
theorem dX3_row_12 : decode cX3_row 12 = .ok (.ireturn, 1) := by decide +kernel
theorem dX3_label_0 : decode cX3_label 0 = .ok (.iload_n 1, 1) := by decide +kernel
theorem dX3_label_1 : decode cX3_label 1 = .ok (.invokestatic 61, 3) := by decide +kernel
theorem dX3_label_4 : decode cX3_label 4 = .ok (.ifCond .eq 14, 3) := by decide +kernel
theorem dX3_label_7 : decode cX3_label 7 = .ok (.aload_n 0, 1) := by decide +kernel
theorem dX3_label_8 : decode cX3_label 8 = .ok (.getfield 10, 3) := by decide +kernel
theorem dX3_label_11 : decode cX3_label 11 = .ok (.iload_n 2, 1) := by decide +kernel
theorem dX3_label_12 : decode cX3_label 12 = .ok (.invokevirtual 65, 3) := by decide +kernel
theorem dX3_label_15 : decode cX3_label 15 = .ok (.ifCond .ne 6, 3) := by decide +kernel
theorem dX3_label_18 : decode cX3_label 18 = .ok (.bipush (-101), 2) := by decide +kernel
theorem dX3_label_20 : decode cX3_label 20 = .ok (.ireturn, 1) := by decide +kernel
theorem dX3_label_21 : decode cX3_label 21 = .ok (.iload_n 3, 1) := by decide +kernel
theorem dX3_label_22 : decode cX3_label 22 = .ok (.invokestatic 68, 3) := by decide +kernel
theorem dX3_label_25 : decode cX3_label 25 = .ok (.ifCond .ne 6, 3) := by decide +kernel
theorem dX3_label_28 : decode cX3_label 28 = .ok (.bipush (-102), 2) := by decide +kernel
theorem dX3_label_30 : decode cX3_label 30 = .ok (.ireturn, 1) := by decide +kernel
theorem dX3_label_31 : decode cX3_label 31 = .ok (.aload_n 0, 1) := by decide +kernel
theorem dX3_label_32 : decode cX3_label 32 = .ok (.getfield 10, 3) := by decide +kernel
theorem dX3_label_35 : decode cX3_label 35 = .ok (.iload_n 1, 1) := by decide +kernel
theorem dX3_label_36 : decode cX3_label 36 = .ok (.iload_n 2, 1) := by decide +kernel
theorem dX3_label_37 : decode cX3_label 37 = .ok (.invokevirtual 71, 3) := by decide +kernel
theorem dX3_label_40 : decode cX3_label 40 = .ok (.iconst (-1), 1) := by decide +kernel
theorem dX3_label_41 : decode cX3_label 41 = .ok (.if_icmp .eq 5, 3) := by decide +kernel
theorem dX3_label_44 : decode cX3_label 44 = .ok (.iconst 0, 1) := by decide +kernel
theorem dX3_label_45 : decode cX3_label 45 = .ok (.ireturn, 1) := by decide +kernel
theorem dX3_label_46 : decode cX3_label 46 = .ok (.aload_n 0, 1) := by decide +kernel
theorem dX3_label_47 : decode cX3_label 47 = .ok (.getfield 10, 3) := by decide +kernel
theorem dX3_label_50 : decode cX3_label 50 = .ok (.iload_n 1, 1) := by decide +kernel
theorem dX3_label_51 : decode cX3_label 51 = .ok (.iload_n 2, 1) := by decide +kernel
theorem dX3_label_52 : decode cX3_label 52 = .ok (.iload_n 3, 1) := by decide +kernel
theorem dX3_label_53 : decode cX3_label 53 = .ok (.invokevirtual 75, 3) := by decide +kernel
theorem dX3_label_56 : decode cX3_label 56 = .ok (.iconst 1, 1) := by decide +kernel
theorem dX3_label_57 : decode cX3_label 57 = .ok (.ireturn, 1) := by decide +kernel
theorem dX3_said_0 : decode cX3_said 0 = .ok (.iload_n 1, 1) := by decide +kernel
theorem dX3_said_1 : decode cX3_said 1 = .ok (.invokestatic 61, 3) := by decide +kernel
theorem dX3_said_4 : decode cX3_said 4 = .ok (.ifCond .eq 14, 3) := by decide +kernel
theorem dX3_said_7 : decode cX3_said 7 = .ok (.aload_n 0, 1) := by decide +kernel
theorem dX3_said_8 : decode cX3_said 8 = .ok (.getfield 10, 3) := by decide +kernel
theorem dX3_said_11 : decode cX3_said 11 = .ok (.iload_n 2, 1) := by decide +kernel
theorem dX3_said_12 : decode cX3_said 12 = .ok (.invokevirtual 65, 3) := by decide +kernel
theorem dX3_said_15 : decode cX3_said 15 = .ok (.ifCond .ne 6, 3) := by decide +kernel
theorem dX3_said_18 : decode cX3_said 18 = .ok (.bipush (-101), 2) := by decide +kernel
theorem dX3_said_20 : decode cX3_said 20 = .ok (.ireturn, 1) := by decide +kernel
theorem dX3_said_21 : decode cX3_said 21 = .ok (.aload_n 0, 1) := by decide +kernel
theorem dX3_said_22 : decode cX3_said 22 = .ok (.getfield 10, 3) := by decide +kernel
theorem dX3_said_25 : decode cX3_said 25 = .ok (.iload_n 1, 1) := by decide +kernel
theorem dX3_said_26 : decode cX3_said 26 = .ok (.iload_n 2, 1) := by decide +kernel
theorem dX3_said_27 : decode cX3_said 27 = .ok (.invokevirtual 71, 3) := by decide +kernel
theorem dX3_said_30 : decode cX3_said 30 = .ok (.ireturn, 1) := by decide +kernel
theorem dX3_gold_0 : decode cX3_gold 0 = .ok (.aload_n 0, 1) := by decide +kernel
theorem dX3_gold_1 : decode cX3_gold 1 = .ok (.getfield 10, 3) := by decide +kernel
theorem dX3_gold_4 : decode cX3_gold 4 = .ok (.iload_n 1, 1) := by decide +kernel
theorem dX3_gold_5 : decode cX3_gold 5 = .ok (.invokevirtual 65, 3) := by decide +kernel
theorem dX3_gold_8 : decode cX3_gold 8 = .ok (.ifCond .ne 6, 3) := by decide +kernel
theorem dX3_gold_11 : decode cX3_gold 11 = .ok (.bipush (-101), 2) := by decide +kernel
theorem dX3_gold_13 : decode cX3_gold 13 = .ok (.ireturn, 1) := by decide +kernel
theorem dX3_gold_14 : decode cX3_gold 14 = .ok (.iload_n 2, 1) := by decide +kernel
theorem dX3_gold_15 : decode cX3_gold 15 = .ok (.iconst (-1), 1) := by decide +kernel
theorem dX3_gold_16 : decode cX3_gold 16 = .ok (.if_icmp .eq 13, 3) := by decide +kernel
theorem dX3_gold_19 : decode cX3_gold 19 = .ok (.iload_n 2, 1) := by decide +kernel
theorem dX3_gold_20 : decode cX3_gold 20 = .ok (.invokestatic 68, 3) := by decide +kernel
theorem dX3_gold_23 : decode cX3_gold 23 = .ok (.ifCond .ne 6, 3) := by decide +kernel
theorem dX3_gold_26 : decode cX3_gold 26 = .ok (.bipush (-102), 2) := by decide +kernel
theorem dX3_gold_28 : decode cX3_gold 28 = .ok (.ireturn, 1) := by decide +kernel
theorem dX3_gold_29 : decode cX3_gold 29 = .ok (.aload_n 0, 1) := by decide +kernel
theorem dX3_gold_30 : decode cX3_gold 30 = .ok (.getfield 10, 3) := by decide +kernel
theorem dX3_gold_33 : decode cX3_gold 33 = .ok (.iload_n 1, 1) := by decide +kernel
theorem dX3_gold_34 : decode cX3_gold 34 = .ok (.invokevirtual 79, 3) := by decide +kernel
theorem dX3_gold_37 : decode cX3_gold 37 = .ok (.istore_n 3, 1) := by decide +kernel
theorem dX3_gold_38 : decode cX3_gold 38 = .ok (.aload_n 0, 1) := by decide +kernel
theorem dX3_gold_39 : decode cX3_gold 39 = .ok (.getfield 10, 3) := by decide +kernel
theorem dX3_gold_42 : decode cX3_gold 42 = .ok (.iload_n 1, 1) := by decide +kernel
theorem dX3_gold_43 : decode cX3_gold 43 = .ok (.iload_n 2, 1) := by decide +kernel
theorem dX3_gold_44 : decode cX3_gold 44 = .ok (.invokevirtual 83, 3) := by decide +kernel
theorem dX3_gold_47 : decode cX3_gold 47 = .ok (.iload_n 3, 1) := by decide +kernel
theorem dX3_gold_48 : decode cX3_gold 48 = .ok (.ireturn, 1) := by decide +kernel
theorem dX3_bound_0 : decode cX3_bound 0 = .ok (.iload_n 1, 1) := by decide +kernel
theorem dX3_bound_1 : decode cX3_bound 1 = .ok (.iconst 1, 1) := by decide +kernel
theorem dX3_bound_2 : decode cX3_bound 2 = .ok (.if_icmp .lt 9, 3) := by decide +kernel
theorem dX3_bound_5 : decode cX3_bound 5 = .ok (.iload_n 1, 1) := by decide +kernel
theorem dX3_bound_6 : decode cX3_bound 6 = .ok (.bipush 9, 2) := by decide +kernel
theorem dX3_bound_8 : decode cX3_bound 8 = .ok (.if_icmp .le 6, 3) := by decide +kernel
theorem dX3_bound_11 : decode cX3_bound 11 = .ok (.bipush (-102), 2) := by decide +kernel
theorem dX3_bound_13 : decode cX3_bound 13 = .ok (.ireturn, 1) := by decide +kernel
theorem dX3_bound_14 : decode cX3_bound 14 = .ok (.aload_n 0, 1) := by decide +kernel
theorem dX3_bound_15 : decode cX3_bound 15 = .ok (.getfield 44, 3) := by decide +kernel
theorem dX3_bound_18 : decode cX3_bound 18 = .ok (.istore_n 2, 1) := by decide +kernel
theorem dX3_bound_19 : decode cX3_bound 19 = .ok (.aload_n 0, 1) := by decide +kernel
theorem dX3_bound_20 : decode cX3_bound 20 = .ok (.iload_n 1, 1) := by decide +kernel
theorem dX3_bound_21 : decode cX3_bound 21 = .ok (.putfield 44, 3) := by decide +kernel
theorem dX3_bound_24 : decode cX3_bound 24 = .ok (.iload_n 2, 1) := by decide +kernel
theorem dX3_bound_25 : decode cX3_bound 25 = .ok (.ireturn, 1) := by decide +kernel
theorem dX3_expert_0 : decode cX3_expert 0 = .ok (.iload_n 1, 1) := by decide +kernel
theorem dX3_expert_1 : decode cX3_expert 1 = .ok (.invokestatic 61, 3) := by decide +kernel
theorem dX3_expert_4 : decode cX3_expert 4 = .ok (.ifCond .ne 6, 3) := by decide +kernel
theorem dX3_expert_7 : decode cX3_expert 7 = .ok (.bipush (-101), 2) := by decide +kernel
theorem dX3_expert_9 : decode cX3_expert 9 = .ok (.ireturn, 1) := by decide +kernel
theorem dX3_expert_10 : decode cX3_expert 10 = .ok (.aload_n 0, 1) := by decide +kernel
theorem dX3_expert_11 : decode cX3_expert 11 = .ok (.getfield 30, 3) := by decide +kernel
theorem dX3_expert_14 : decode cX3_expert 14 = .ok (.iload_n 1, 1) := by decide +kernel
theorem dX3_expert_15 : decode cX3_expert 15 = .ok (.baload, 1) := by decide +kernel
theorem dX3_expert_16 : decode cX3_expert 16 = .ok (.iload_n 2, 1) := by decide +kernel
theorem dX3_expert_17 : decode cX3_expert 17 = .ok (.if_icmp .eq 7, 3) := by decide +kernel
theorem dX3_expert_20 : decode cX3_expert 20 = .ok (.iconst 1, 1) := by decide +kernel
theorem dX3_expert_21 : decode cX3_expert 21 = .ok (.goto 4, 3) := by decide +kernel
theorem dX3_expert_24 : decode cX3_expert 24 = .ok (.iconst 0, 1) := by decide +kernel
theorem dX3_expert_25 : decode cX3_expert 25 = .ok (.istore_n 3, 1) := by decide +kernel
theorem dX3_expert_26 : decode cX3_expert 26 = .ok (.aload_n 0, 1) := by decide +kernel
theorem dX3_expert_27 : decode cX3_expert 27 = .ok (.getfield 30, 3) := by decide +kernel
theorem dX3_expert_30 : decode cX3_expert 30 = .ok (.iload_n 1, 1) := by decide +kernel
theorem dX3_expert_31 : decode cX3_expert 31 = .ok (.iload_n 2, 1) := by decide +kernel
theorem dX3_expert_32 : decode cX3_expert 32 = .ok (.bastore, 1) := by decide +kernel
theorem dX3_expert_33 : decode cX3_expert 33 = .ok (.iload_n 3, 1) := by decide +kernel
theorem dX3_expert_34 : decode cX3_expert 34 = .ok (.ifCond .eq 7, 3) := by decide +kernel
theorem dX3_expert_37 : decode cX3_expert 37 = .ok (.iconst 1, 1) := by decide +kernel
theorem dX3_expert_38 : decode cX3_expert 38 = .ok (.goto 4, 3) := by decide +kernel
theorem dX3_expert_41 : decode cX3_expert 41 = .ok (.iconst 0, 1) := by decide +kernel
theorem dX3_expert_42 : decode cX3_expert 42 = .ok (.ireturn, 1) := by decide +kernel
theorem dX3_person_0 : decode cX3_person 0 = .ok (.iload_n 1, 1) := by decide +kernel
theorem dX3_person_1 : decode cX3_person 1 = .ok (.invokestatic 61, 3) := by decide +kernel
theorem dX3_person_4 : decode cX3_person 4 = .ok (.ifCond .ne 6, 3) := by decide +kernel
theorem dX3_person_7 : decode cX3_person 7 = .ok (.bipush (-101), 2) := by decide +kernel
theorem dX3_person_9 : decode cX3_person 9 = .ok (.ireturn, 1) := by decide +kernel
theorem dX3_person_10 : decode cX3_person 10 = .ok (.iload_n 2, 1) := by decide +kernel
theorem dX3_person_11 : decode cX3_person 11 = .ok (.tableswitch 68 0 3 #[29, 36, 45, 59], 29) := by decide +kernel
theorem dX3_person_40 : decode cX3_person 40 = .ok (.aload_n 0, 1) := by decide +kernel
theorem dX3_person_41 : decode cX3_person 41 = .ok (.getfield 34, 3) := by decide +kernel
theorem dX3_person_44 : decode cX3_person 44 = .ok (.iload_n 1, 1) := by decide +kernel
theorem dX3_person_45 : decode cX3_person 45 = .ok (.iaload, 1) := by decide +kernel
theorem dX3_person_46 : decode cX3_person 46 = .ok (.ireturn, 1) := by decide +kernel
theorem dX3_person_47 : decode cX3_person 47 = .ok (.aload_n 0, 1) := by decide +kernel
theorem dX3_person_48 : decode cX3_person 48 = .ok (.getfield 10, 3) := by decide +kernel
theorem dX3_person_51 : decode cX3_person 51 = .ok (.iload_n 1, 1) := by decide +kernel
theorem dX3_person_52 : decode cX3_person 52 = .ok (.invokevirtual 87, 3) := by decide +kernel
theorem dX3_person_55 : decode cX3_person 55 = .ok (.ireturn, 1) := by decide +kernel
theorem dX3_person_56 : decode cX3_person 56 = .ok (.aload_n 0, 1) := by decide +kernel
theorem dX3_person_57 : decode cX3_person 57 = .ok (.iload_n 1, 1) := by decide +kernel
theorem dX3_person_58 : decode cX3_person 58 = .ok (.invokevirtual 90, 3) := by decide +kernel
theorem dX3_person_61 : decode cX3_person 61 = .ok (.ifCond .eq 7, 3) := by decide +kernel
theorem dX3_person_64 : decode cX3_person 64 = .ok (.iconst 1, 1) := by decide +kernel
theorem dX3_person_65 : decode cX3_person 65 = .ok (.goto 4, 3) := by decide +kernel
theorem dX3_person_68 : decode cX3_person 68 = .ok (.iconst 0, 1) := by decide +kernel
theorem dX3_person_69 : decode cX3_person 69 = .ok (.ireturn, 1) := by decide +kernel
theorem dX3_person_70 : decode cX3_person 70 = .ok (.aload_n 0, 1) := by decide +kernel
theorem dX3_person_71 : decode cX3_person 71 = .ok (.getfield 10, 3) := by decide +kernel
theorem dX3_person_74 : decode cX3_person 74 = .ok (.iload_n 1, 1) := by decide +kernel
theorem dX3_person_75 : decode cX3_person 75 = .ok (.invokevirtual 93, 3) := by decide +kernel
theorem dX3_person_78 : decode cX3_person 78 = .ok (.ireturn, 1) := by decide +kernel
theorem dX3_person_79 : decode cX3_person 79 = .ok (.bipush (-102), 2) := by decide +kernel
theorem dX3_person_81 : decode cX3_person 81 = .ok (.ireturn, 1) := by decide +kernel
theorem dX3_rule_0 : decode cX3_rule 0 = .ok (.iload_n 1, 1) := by decide +kernel
theorem dX3_rule_1 : decode cX3_rule 1 = .ok (.ifCond .lt 22, 3) := by decide +kernel
theorem dX3_rule_4 : decode cX3_rule 4 = .ok (.iload_n 1, 1) := by decide +kernel
theorem dX3_rule_5 : decode cX3_rule 5 = .ok (.iconst 4, 1) := by decide +kernel
theorem dX3_rule_6 : decode cX3_rule 6 = .ok (.if_icmp .ge 17, 3) := by decide +kernel
theorem dX3_rule_9 : decode cX3_rule 9 = .ok (.iload_n 2, 1) := by decide +kernel
theorem dX3_rule_10 : decode cX3_rule 10 = .ok (.invokestatic 96, 3) := by decide +kernel
theorem dX3_rule_13 : decode cX3_rule 13 = .ok (.ifCond .eq 10, 3) := by decide +kernel
theorem dX3_rule_16 : decode cX3_rule 16 = .ok (.iload_n 3, 1) := by decide +kernel
theorem dX3_rule_17 : decode cX3_rule 17 = .ok (.invokestatic 96, 3) := by decide +kernel
theorem dX3_rule_20 : decode cX3_rule 20 = .ok (.ifCond .ne 6, 3) := by decide +kernel
theorem dX3_rule_23 : decode cX3_rule 23 = .ok (.bipush (-102), 2) := by decide +kernel
theorem dX3_rule_25 : decode cX3_rule 25 = .ok (.ireturn, 1) := by decide +kernel
theorem dX3_rule_26 : decode cX3_rule 26 = .ok (.aload_n 0, 1) := by decide +kernel
theorem dX3_rule_27 : decode cX3_rule 27 = .ok (.getfield 19, 3) := by decide +kernel
theorem dX3_rule_30 : decode cX3_rule 30 = .ok (.iload_n 1, 1) := by decide +kernel
theorem dX3_rule_31 : decode cX3_rule 31 = .ok (.iload_n 2, 1) := by decide +kernel
theorem dX3_rule_32 : decode cX3_rule 32 = .ok (.iload_n 3, 1) := by decide +kernel
theorem dX3_rule_33 : decode cX3_rule 33 = .ok (.iload 4, 2) := by decide +kernel
theorem dX3_rule_35 : decode cX3_rule 35 = .ok (.invokevirtual 99, 3) := by decide +kernel
theorem dX3_rule_38 : decode cX3_rule 38 = .ok (.ireturn, 1) := by decide +kernel
theorem dX3_turn_0 : decode cX3_turn 0 = .ok (.aload_n 0, 1) := by decide +kernel
theorem dX3_turn_1 : decode cX3_turn 1 = .ok (.getfield 19, 3) := by decide +kernel
theorem dX3_turn_4 : decode cX3_turn 4 = .ok (.iload_n 1, 1) := by decide +kernel
theorem dX3_turn_5 : decode cX3_turn 5 = .ok (.invokevirtual 102, 3) := by decide +kernel
theorem dX3_turn_8 : decode cX3_turn 8 = .ok (.ifCond .ne 6, 3) := by decide +kernel
theorem dX3_turn_11 : decode cX3_turn 11 = .ok (.bipush (-101), 2) := by decide +kernel
theorem dX3_turn_13 : decode cX3_turn 13 = .ok (.ireturn, 1) := by decide +kernel
theorem dX3_turn_14 : decode cX3_turn 14 = .ok (.aload_n 0, 1) := by decide +kernel
theorem dX3_turn_15 : decode cX3_turn 15 = .ok (.getfield 19, 3) := by decide +kernel
theorem dX3_turn_18 : decode cX3_turn 18 = .ok (.iload_n 1, 1) := by decide +kernel
theorem dX3_turn_19 : decode cX3_turn 19 = .ok (.invokevirtual 105, 3) := by decide +kernel
theorem dX3_turn_22 : decode cX3_turn 22 = .ok (.iload_n 2, 1) := by decide +kernel
theorem dX3_turn_23 : decode cX3_turn 23 = .ok (.if_icmp .eq 7, 3) := by decide +kernel
theorem dX3_turn_26 : decode cX3_turn 26 = .ok (.iconst 1, 1) := by decide +kernel
theorem dX3_turn_27 : decode cX3_turn 27 = .ok (.goto 4, 3) := by decide +kernel
theorem dX3_turn_30 : decode cX3_turn 30 = .ok (.iconst 0, 1) := by decide +kernel
theorem dX3_turn_31 : decode cX3_turn 31 = .ok (.istore_n 3, 1) := by decide +kernel
theorem dX3_turn_32 : decode cX3_turn 32 = .ok (.aload_n 0, 1) := by decide +kernel
theorem dX3_turn_33 : decode cX3_turn 33 = .ok (.getfield 19, 3) := by decide +kernel
theorem dX3_turn_36 : decode cX3_turn 36 = .ok (.iload_n 1, 1) := by decide +kernel
theorem dX3_turn_37 : decode cX3_turn 37 = .ok (.iload_n 2, 1) := by decide +kernel
theorem dX3_turn_38 : decode cX3_turn 38 = .ok (.invokevirtual 108, 3) := by decide +kernel
theorem dX3_turn_41 : decode cX3_turn 41 = .ok (.iload_n 3, 1) := by decide +kernel
theorem dX3_turn_42 : decode cX3_turn 42 = .ok (.ifCond .eq 7, 3) := by decide +kernel
theorem dX3_turn_45 : decode cX3_turn 45 = .ok (.iconst 1, 1) := by decide +kernel
theorem dX3_turn_46 : decode cX3_turn 46 = .ok (.goto 4, 3) := by decide +kernel
theorem dX3_turn_49 : decode cX3_turn 49 = .ok (.iconst 0, 1) := by decide +kernel
theorem dX3_turn_50 : decode cX3_turn 50 = .ok (.ireturn, 1) := by decide +kernel
theorem dX3_table_0 : decode cX3_table 0 = .ok (.iload_n 1, 1) := by decide +kernel
theorem dX3_table_1 : decode cX3_table 1 = .ok (.invokestatic 112, 3) := by decide +kernel
theorem dX3_table_4 : decode cX3_table 4 = .ok (.ifCond .ne 6, 3) := by decide +kernel
theorem dX3_table_7 : decode cX3_table 7 = .ok (.bipush (-102), 2) := by decide +kernel
theorem dX3_table_9 : decode cX3_table 9 = .ok (.ireturn, 1) := by decide +kernel
theorem dX3_table_10 : decode cX3_table 10 = .ok (.aload_n 0, 1) := by decide +kernel
theorem dX3_table_11 : decode cX3_table 11 = .ok (.getfield 19, 3) := by decide +kernel
theorem dX3_table_14 : decode cX3_table 14 = .ok (.iload_n 1, 1) := by decide +kernel
theorem dX3_table_15 : decode cX3_table 15 = .ok (.iload_n 2, 1) := by decide +kernel
theorem dX3_table_16 : decode cX3_table 16 = .ok (.invokevirtual 115, 3) := by decide +kernel
theorem dX3_table_19 : decode cX3_table 19 = .ok (.ireturn, 1) := by decide +kernel
theorem dX3_says_0 : decode cX3_says 0 = .ok (.aload_n 0, 1) := by decide +kernel
theorem dX3_says_1 : decode cX3_says 1 = .ok (.getfield 19, 3) := by decide +kernel
theorem dX3_says_4 : decode cX3_says 4 = .ok (.iload_n 1, 1) := by decide +kernel
theorem dX3_says_5 : decode cX3_says 5 = .ok (.invokevirtual 102, 3) := by decide +kernel
theorem dX3_says_8 : decode cX3_says 8 = .ok (.ifCond .eq 14, 3) := by decide +kernel
theorem dX3_says_11 : decode cX3_says 11 = .ok (.aload_n 0, 1) := by decide +kernel
theorem dX3_says_12 : decode cX3_says 12 = .ok (.getfield 10, 3) := by decide +kernel
theorem dX3_says_15 : decode cX3_says 15 = .ok (.iload_n 2, 1) := by decide +kernel
theorem dX3_says_16 : decode cX3_says 16 = .ok (.invokevirtual 65, 3) := by decide +kernel
theorem dX3_says_19 : decode cX3_says 19 = .ok (.ifCond .ne 13, 3) := by decide +kernel
theorem dX3_says_22 : decode cX3_says 22 = .ok (.new 118, 3) := by decide +kernel
theorem dX3_says_25 : decode cX3_says 25 = .ok (.dup, 1) := by decide +kernel
theorem dX3_says_26 : decode cX3_says 26 = .ok (.ldc 120, 2) := by decide +kernel
theorem dX3_says_28 : decode cX3_says 28 = .ok (.invokespecial 122, 3) := by decide +kernel
theorem dX3_says_31 : decode cX3_says 31 = .ok (.athrow, 1) := by decide +kernel
theorem dX3_says_32 : decode cX3_says 32 = .ok (.aload_n 0, 1) := by decide +kernel
theorem dX3_says_33 : decode cX3_says 33 = .ok (.getfield 19, 3) := by decide +kernel
theorem dX3_says_36 : decode cX3_says 36 = .ok (.iload_n 1, 1) := by decide +kernel
theorem dX3_says_37 : decode cX3_says 37 = .ok (.aload_n 0, 1) := by decide +kernel
theorem dX3_says_38 : decode cX3_says 38 = .ok (.getfield 10, 3) := by decide +kernel
theorem dX3_says_41 : decode cX3_says 41 = .ok (.iload_n 2, 1) := by decide +kernel
theorem dX3_says_42 : decode cX3_says 42 = .ok (.invokevirtual 125, 3) := by decide +kernel
theorem dX3_says_45 : decode cX3_says 45 = .ok (.istore_n 3, 1) := by decide +kernel
theorem dX3_says_46 : decode cX3_says 46 = .ok (.iload_n 3, 1) := by decide +kernel
theorem dX3_says_47 : decode cX3_says 47 = .ok (.bipush (-2), 2) := by decide +kernel
theorem dX3_says_49 : decode cX3_says 49 = .ok (.if_icmp .ne 13, 3) := by decide +kernel
theorem dX3_says_52 : decode cX3_says 52 = .ok (.new 129, 3) := by decide +kernel
theorem dX3_says_55 : decode cX3_says 55 = .ok (.dup, 1) := by decide +kernel
theorem dX3_says_56 : decode cX3_says 56 = .ok (.ldc 131, 2) := by decide +kernel
theorem dX3_says_58 : decode cX3_says 58 = .ok (.invokespecial 133, 3) := by decide +kernel
theorem dX3_says_61 : decode cX3_says 61 = .ok (.athrow, 1) := by decide +kernel
theorem dX3_says_62 : decode cX3_says 62 = .ok (.iload_n 3, 1) := by decide +kernel
theorem dX3_says_63 : decode cX3_says 63 = .ok (.bipush (-3), 2) := by decide +kernel
theorem dX3_says_65 : decode cX3_says 65 = .ok (.if_icmp .ne 13, 3) := by decide +kernel
theorem dX3_says_68 : decode cX3_says 68 = .ok (.new 134, 3) := by decide +kernel
theorem dX3_says_71 : decode cX3_says 71 = .ok (.dup, 1) := by decide +kernel
theorem dX3_says_72 : decode cX3_says 72 = .ok (.ldc 136, 2) := by decide +kernel
theorem dX3_says_74 : decode cX3_says 74 = .ok (.invokespecial 138, 3) := by decide +kernel
theorem dX3_says_77 : decode cX3_says 77 = .ok (.athrow, 1) := by decide +kernel
theorem dX3_says_78 : decode cX3_says 78 = .ok (.iload_n 3, 1) := by decide +kernel
theorem dX3_says_79 : decode cX3_says 79 = .ok (.ireturn, 1) := by decide +kernel
theorem dX3_abstains_0 : decode cX3_abstains 0 = .ok (.aload_n 0, 1) := by decide +kernel
theorem dX3_abstains_1 : decode cX3_abstains 1 = .ok (.getfield 19, 3) := by decide +kernel
theorem dX3_abstains_4 : decode cX3_abstains 4 = .ok (.iload_n 1, 1) := by decide +kernel
theorem dX3_abstains_5 : decode cX3_abstains 5 = .ok (.invokevirtual 102, 3) := by decide +kernel
theorem dX3_abstains_8 : decode cX3_abstains 8 = .ok (.ifCond .ne 6, 3) := by decide +kernel
theorem dX3_abstains_11 : decode cX3_abstains 11 = .ok (.bipush (-101), 2) := by decide +kernel
theorem dX3_abstains_13 : decode cX3_abstains 13 = .ok (.ireturn, 1) := by decide +kernel
theorem dX3_abstains_14 : decode cX3_abstains 14 = .ok (.iconst 0, 1) := by decide +kernel
theorem dX3_abstains_15 : decode cX3_abstains 15 = .ok (.istore_n 2, 1) := by decide +kernel
theorem dX3_abstains_16 : decode cX3_abstains 16 = .ok (.iconst 0, 1) := by decide +kernel
theorem dX3_abstains_17 : decode cX3_abstains 17 = .ok (.istore_n 3, 1) := by decide +kernel
theorem dX3_abstains_18 : decode cX3_abstains 18 = .ok (.iload_n 3, 1) := by decide +kernel
theorem dX3_abstains_19 : decode cX3_abstains 19 = .ok (.aload_n 0, 1) := by decide +kernel
theorem dX3_abstains_20 : decode cX3_abstains 20 = .ok (.getfield 10, 3) := by decide +kernel
theorem dX3_abstains_23 : decode cX3_abstains 23 = .ok (.invokevirtual 139, 3) := by decide +kernel
theorem dX3_abstains_26 : decode cX3_abstains 26 = .ok (.if_icmp .ge 31, 3) := by decide +kernel
theorem dX3_abstains_29 : decode cX3_abstains 29 = .ok (.aload_n 0, 1) := by decide +kernel
theorem dX3_abstains_30 : decode cX3_abstains 30 = .ok (.getfield 19, 3) := by decide +kernel
theorem dX3_abstains_33 : decode cX3_abstains 33 = .ok (.iload_n 1, 1) := by decide +kernel
theorem dX3_abstains_34 : decode cX3_abstains 34 = .ok (.aload_n 0, 1) := by decide +kernel
theorem dX3_abstains_35 : decode cX3_abstains 35 = .ok (.getfield 10, 3) := by decide +kernel
theorem dX3_abstains_38 : decode cX3_abstains 38 = .ok (.iload_n 3, 1) := by decide +kernel
theorem dX3_abstains_39 : decode cX3_abstains 39 = .ok (.invokevirtual 125, 3) := by decide +kernel
theorem dX3_abstains_42 : decode cX3_abstains 42 = .ok (.invokestatic 68, 3) := by decide +kernel
theorem dX3_abstains_45 : decode cX3_abstains 45 = .ok (.ifCond .ne 6, 3) := by decide +kernel
theorem dX3_abstains_48 : decode cX3_abstains 48 = .ok (.iinc 2 1, 3) := by decide +kernel
theorem dX3_abstains_51 : decode cX3_abstains 51 = .ok (.iinc 3 1, 3) := by decide +kernel
theorem dX3_abstains_54 : decode cX3_abstains 54 = .ok (.goto (-36), 3) := by decide +kernel
theorem dX3_abstains_57 : decode cX3_abstains 57 = .ok (.iload_n 2, 1) := by decide +kernel
theorem dX3_abstains_58 : decode cX3_abstains 58 = .ok (.ireturn, 1) := by decide +kernel
theorem dX3_votes_0 : decode cX3_votes 0 = .ok (.aload_n 0, 1) := by decide +kernel
theorem dX3_votes_1 : decode cX3_votes 1 = .ok (.getfield 10, 3) := by decide +kernel
theorem dX3_votes_4 : decode cX3_votes 4 = .ok (.iload_n 1, 1) := by decide +kernel
theorem dX3_votes_5 : decode cX3_votes 5 = .ok (.invokevirtual 65, 3) := by decide +kernel
theorem dX3_votes_8 : decode cX3_votes 8 = .ok (.ifCond .ne 6, 3) := by decide +kernel
theorem dX3_votes_11 : decode cX3_votes 11 = .ok (.bipush (-101), 2) := by decide +kernel
theorem dX3_votes_13 : decode cX3_votes 13 = .ok (.ireturn, 1) := by decide +kernel
theorem dX3_votes_14 : decode cX3_votes 14 = .ok (.iload_n 2, 1) := by decide +kernel
theorem dX3_votes_15 : decode cX3_votes 15 = .ok (.invokestatic 68, 3) := by decide +kernel
theorem dX3_votes_18 : decode cX3_votes 18 = .ok (.ifCond .ne 6, 3) := by decide +kernel
theorem dX3_votes_21 : decode cX3_votes 21 = .ok (.bipush (-102), 2) := by decide +kernel
theorem dX3_votes_23 : decode cX3_votes 23 = .ok (.ireturn, 1) := by decide +kernel
theorem dX3_votes_24 : decode cX3_votes 24 = .ok (.aload_n 0, 1) := by decide +kernel
theorem dX3_votes_25 : decode cX3_votes 25 = .ok (.iload_n 1, 1) := by decide +kernel
theorem dX3_votes_26 : decode cX3_votes 26 = .ok (.invokevirtual 143, 3) := by decide +kernel
theorem dX3_votes_29 : decode cX3_votes 29 = .ok (.aload_n 0, 1) := by decide +kernel
theorem dX3_votes_30 : decode cX3_votes 30 = .ok (.getfield 48, 3) := by decide +kernel
theorem dX3_votes_33 : decode cX3_votes 33 = .ok (.iload_n 2, 1) := by decide +kernel
theorem dX3_votes_34 : decode cX3_votes 34 = .ok (.iaload, 1) := by decide +kernel
theorem dX3_votes_35 : decode cX3_votes 35 = .ok (.ireturn, 1) := by decide +kernel
theorem dX3_decided_0 : decode cX3_decided 0 = .ok (.aload_n 0, 1) := by decide +kernel
theorem dX3_decided_1 : decode cX3_decided 1 = .ok (.getfield 10, 3) := by decide +kernel
theorem dX3_decided_4 : decode cX3_decided 4 = .ok (.iload_n 1, 1) := by decide +kernel
theorem dX3_decided_5 : decode cX3_decided 5 = .ok (.invokevirtual 65, 3) := by decide +kernel
theorem dX3_decided_8 : decode cX3_decided 8 = .ok (.ifCond .ne 6, 3) := by decide +kernel
theorem dX3_decided_11 : decode cX3_decided 11 = .ok (.bipush (-101), 2) := by decide +kernel
theorem dX3_decided_13 : decode cX3_decided 13 = .ok (.ireturn, 1) := by decide +kernel
theorem dX3_decided_14 : decode cX3_decided 14 = .ok (.aload_n 0, 1) := by decide +kernel
theorem dX3_decided_15 : decode cX3_decided 15 = .ok (.iload_n 1, 1) := by decide +kernel
theorem dX3_decided_16 : decode cX3_decided 16 = .ok (.invokevirtual 147, 3) := by decide +kernel
theorem dX3_decided_19 : decode cX3_decided 19 = .ok (.ireturn, 1) := by decide +kernel
theorem dX3_learn_0 : decode cX3_learn 0 = .ok (.iload_n 1, 1) := by decide +kernel
theorem dX3_learn_1 : decode cX3_learn 1 = .ok (.iconst 1, 1) := by decide +kernel
theorem dX3_learn_2 : decode cX3_learn 2 = .ok (.if_icmp .lt 9, 3) := by decide +kernel
theorem dX3_learn_5 : decode cX3_learn 5 = .ok (.iload_n 1, 1) := by decide +kernel
theorem dX3_learn_6 : decode cX3_learn 6 = .ok (.bipush 20, 2) := by decide +kernel
theorem dX3_learn_8 : decode cX3_learn 8 = .ok (.if_icmp .le 6, 3) := by decide +kernel
theorem dX3_learn_11 : decode cX3_learn 11 = .ok (.bipush (-102), 2) := by decide +kernel
theorem dX3_learn_13 : decode cX3_learn 13 = .ok (.ireturn, 1) := by decide +kernel
theorem dX3_learn_14 : decode cX3_learn 14 = .ok (.aload_n 0, 1) := by decide +kernel
theorem dX3_learn_15 : decode cX3_learn 15 = .ok (.getfield 34, 3) := by decide +kernel
theorem dX3_learn_18 : decode cX3_learn 18 = .ok (.bipush 10, 2) := by decide +kernel
theorem dX3_learn_20 : decode cX3_learn 20 = .ok (.invokestatic 38, 3) := by decide +kernel
theorem dX3_learn_23 : decode cX3_learn 23 = .ok (.iconst 1, 1) := by decide +kernel
theorem dX3_learn_24 : decode cX3_learn 24 = .ok (.istore_n 2, 1) := by decide +kernel
theorem dX3_learn_25 : decode cX3_learn 25 = .ok (.iload_n 2, 1) := by decide +kernel
theorem dX3_learn_26 : decode cX3_learn 26 = .ok (.iload_n 1, 1) := by decide +kernel
theorem dX3_learn_27 : decode cX3_learn 27 = .ok (.if_icmp .ge 18, 3) := by decide +kernel
theorem dX3_learn_30 : decode cX3_learn 30 = .ok (.aload_n 0, 1) := by decide +kernel
theorem dX3_learn_31 : decode cX3_learn 31 = .ok (.invokevirtual 150, 3) := by decide +kernel
theorem dX3_learn_34 : decode cX3_learn 34 = .ok (.ifCond .ne 5, 3) := by decide +kernel
theorem dX3_learn_37 : decode cX3_learn 37 = .ok (.iload_n 2, 1) := by decide +kernel
theorem dX3_learn_38 : decode cX3_learn 38 = .ok (.ireturn, 1) := by decide +kernel
theorem dX3_learn_39 : decode cX3_learn 39 = .ok (.iinc 2 1, 3) := by decide +kernel
theorem dX3_learn_42 : decode cX3_learn 42 = .ok (.goto (-17), 3) := by decide +kernel
theorem dX3_learn_45 : decode cX3_learn 45 = .ok (.aload_n 0, 1) := by decide +kernel
theorem dX3_learn_46 : decode cX3_learn 46 = .ok (.invokevirtual 150, 3) := by decide +kernel
theorem dX3_learn_49 : decode cX3_learn 49 = .ok (.pop, 1) := by decide +kernel
theorem dX3_learn_50 : decode cX3_learn 50 = .ok (.iload_n 1, 1) := by decide +kernel
theorem dX3_learn_51 : decode cX3_learn 51 = .ok (.ireturn, 1) := by decide +kernel
theorem dX3_agree_0 : decode cX3_agree 0 = .ok (.iload_n 1, 1) := by decide +kernel
theorem dX3_agree_1 : decode cX3_agree 1 = .ok (.invokestatic 61, 3) := by decide +kernel
theorem dX3_agree_4 : decode cX3_agree 4 = .ok (.ifCond .eq 15, 3) := by decide +kernel
theorem dX3_agree_7 : decode cX3_agree 7 = .ok (.iload_n 2, 1) := by decide +kernel
theorem dX3_agree_8 : decode cX3_agree 8 = .ok (.invokestatic 61, 3) := by decide +kernel
theorem dX3_agree_11 : decode cX3_agree 11 = .ok (.ifCond .eq 8, 3) := by decide +kernel
theorem dX3_agree_14 : decode cX3_agree 14 = .ok (.iload_n 1, 1) := by decide +kernel
theorem dX3_agree_15 : decode cX3_agree 15 = .ok (.iload_n 2, 1) := by decide +kernel
theorem dX3_agree_16 : decode cX3_agree 16 = .ok (.if_icmp .ne 13, 3) := by decide +kernel
theorem dX3_agree_19 : decode cX3_agree 19 = .ok (.new 118, 3) := by decide +kernel
theorem dX3_agree_22 : decode cX3_agree 22 = .ok (.dup, 1) := by decide +kernel
theorem dX3_agree_23 : decode cX3_agree 23 = .ok (.ldc 154, 2) := by decide +kernel
theorem dX3_agree_25 : decode cX3_agree 25 = .ok (.invokespecial 122, 3) := by decide +kernel
theorem dX3_agree_28 : decode cX3_agree 28 = .ok (.athrow, 1) := by decide +kernel
theorem dX3_agree_29 : decode cX3_agree 29 = .ok (.iload_n 3, 1) := by decide +kernel
theorem dX3_agree_30 : decode cX3_agree 30 = .ok (.ifCond .lt 8, 3) := by decide +kernel
theorem dX3_agree_33 : decode cX3_agree 33 = .ok (.iload_n 3, 1) := by decide +kernel
theorem dX3_agree_34 : decode cX3_agree 34 = .ok (.iconst 4, 1) := by decide +kernel
theorem dX3_agree_35 : decode cX3_agree 35 = .ok (.if_icmp .lt 13, 3) := by decide +kernel
theorem dX3_agree_38 : decode cX3_agree 38 = .ok (.new 118, 3) := by decide +kernel
theorem dX3_agree_41 : decode cX3_agree 41 = .ok (.dup, 1) := by decide +kernel
theorem dX3_agree_42 : decode cX3_agree 42 = .ok (.ldc 156, 2) := by decide +kernel
theorem dX3_agree_44 : decode cX3_agree 44 = .ok (.invokespecial 122, 3) := by decide +kernel
theorem dX3_agree_47 : decode cX3_agree 47 = .ok (.athrow, 1) := by decide +kernel
theorem dX3_agree_48 : decode cX3_agree 48 = .ok (.aload_n 0, 1) := by decide +kernel
theorem dX3_agree_49 : decode cX3_agree 49 = .ok (.getfield 26, 3) := by decide +kernel
theorem dX3_agree_52 : decode cX3_agree 52 = .ok (.aload_n 0, 1) := by decide +kernel
theorem dX3_agree_53 : decode cX3_agree 53 = .ok (.getfield 10, 3) := by decide +kernel
theorem dX3_agree_56 : decode cX3_agree 56 = .ok (.iload_n 1, 1) := by decide +kernel
theorem dX3_agree_57 : decode cX3_agree 57 = .ok (.iload_n 2, 1) := by decide +kernel
theorem dX3_agree_58 : decode cX3_agree 58 = .ok (.invokevirtual 158, 3) := by decide +kernel
theorem dX3_agree_61 : decode cX3_agree 61 = .ok (.aload_n 0, 1) := by decide +kernel
theorem dX3_agree_62 : decode cX3_agree 62 = .ok (.iload_n 3, 1) := by decide +kernel
theorem dX3_agree_63 : decode cX3_agree 63 = .ok (.invokevirtual 162, 3) := by decide +kernel
theorem dX3_agree_66 : decode cX3_agree 66 = .ok (.lreturn, 1) := by decide +kernel
theorem dX3_all_0 : decode cX3_all 0 = .ok (.iload_n 1, 1) := by decide +kernel
theorem dX3_all_1 : decode cX3_all 1 = .ok (.ifCond .lt 8, 3) := by decide +kernel
theorem dX3_all_4 : decode cX3_all 4 = .ok (.iload_n 1, 1) := by decide +kernel
theorem dX3_all_5 : decode cX3_all 5 = .ok (.iconst 4, 1) := by decide +kernel
theorem dX3_all_6 : decode cX3_all 6 = .ok (.if_icmp .lt 13, 3) := by decide +kernel
theorem dX3_all_9 : decode cX3_all 9 = .ok (.new 118, 3) := by decide +kernel
theorem dX3_all_12 : decode cX3_all 12 = .ok (.dup, 1) := by decide +kernel
theorem dX3_all_13 : decode cX3_all 13 = .ok (.ldc 156, 2) := by decide +kernel
theorem dX3_all_15 : decode cX3_all 15 = .ok (.invokespecial 122, 3) := by decide +kernel
theorem dX3_all_18 : decode cX3_all 18 = .ok (.athrow, 1) := by decide +kernel
theorem dX3_all_19 : decode cX3_all 19 = .ok (.aload_n 0, 1) := by decide +kernel
theorem dX3_all_20 : decode cX3_all 20 = .ok (.getfield 26, 3) := by decide +kernel
theorem dX3_all_23 : decode cX3_all 23 = .ok (.aload_n 0, 1) := by decide +kernel
theorem dX3_all_24 : decode cX3_all 24 = .ok (.getfield 10, 3) := by decide +kernel
theorem dX3_all_27 : decode cX3_all 27 = .ok (.invokevirtual 166, 3) := by decide +kernel
theorem dX3_all_30 : decode cX3_all 30 = .ok (.aload_n 0, 1) := by decide +kernel
theorem dX3_all_31 : decode cX3_all 31 = .ok (.iload_n 1, 1) := by decide +kernel
theorem dX3_all_32 : decode cX3_all 32 = .ok (.invokevirtual 162, 3) := by decide +kernel
theorem dX3_all_35 : decode cX3_all 35 = .ok (.lreturn, 1) := by decide +kernel
theorem dX3_next_0 : decode cX3_next 0 = .ok (.iload_n 1, 1) := by decide +kernel
theorem dX3_next_1 : decode cX3_next 1 = .ok (.invokestatic 61, 3) := by decide +kernel
theorem dX3_next_4 : decode cX3_next 4 = .ok (.ifCond .ne 6, 3) := by decide +kernel
theorem dX3_next_7 : decode cX3_next 7 = .ok (.bipush (-101), 2) := by decide +kernel
theorem dX3_next_9 : decode cX3_next 9 = .ok (.ireturn, 1) := by decide +kernel
theorem dX3_next_10 : decode cX3_next 10 = .ok (.aload_n 0, 1) := by decide +kernel
theorem dX3_next_11 : decode cX3_next 11 = .ok (.iload_n 1, 1) := by decide +kernel
theorem dX3_next_12 : decode cX3_next 12 = .ok (.invokevirtual 90, 3) := by decide +kernel
theorem dX3_next_15 : decode cX3_next 15 = .ok (.ifCond .eq 5, 3) := by decide +kernel
theorem dX3_next_18 : decode cX3_next 18 = .ok (.iconst (-1), 1) := by decide +kernel
theorem dX3_next_19 : decode cX3_next 19 = .ok (.ireturn, 1) := by decide +kernel
theorem dX3_next_20 : decode cX3_next 20 = .ok (.iconst (-1), 1) := by decide +kernel
theorem dX3_next_21 : decode cX3_next 21 = .ok (.istore_n 2, 1) := by decide +kernel
theorem dX3_next_22 : decode cX3_next 22 = .ok (.iconst 0, 1) := by decide +kernel
theorem dX3_next_23 : decode cX3_next 23 = .ok (.istore_n 3, 1) := by decide +kernel
theorem dX3_next_24 : decode cX3_next 24 = .ok (.iconst 0, 1) := by decide +kernel
theorem dX3_next_25 : decode cX3_next 25 = .ok (.istore 4, 2) := by decide +kernel
theorem dX3_next_27 : decode cX3_next 27 = .ok (.iconst 0, 1) := by decide +kernel
theorem dX3_next_28 : decode cX3_next 28 = .ok (.istore 5, 2) := by decide +kernel
theorem dX3_next_30 : decode cX3_next 30 = .ok (.iload 5, 2) := by decide +kernel
theorem dX3_next_32 : decode cX3_next 32 = .ok (.aload_n 0, 1) := by decide +kernel
theorem dX3_next_33 : decode cX3_next 33 = .ok (.getfield 10, 3) := by decide +kernel
theorem dX3_next_36 : decode cX3_next 36 = .ok (.invokevirtual 139, 3) := by decide +kernel
theorem dX3_next_39 : decode cX3_next 39 = .ok (.if_icmp .ge 96, 3) := by decide +kernel
theorem dX3_next_42 : decode cX3_next 42 = .ok (.aload_n 0, 1) := by decide +kernel
theorem dX3_next_43 : decode cX3_next 43 = .ok (.getfield 10, 3) := by decide +kernel
theorem dX3_next_46 : decode cX3_next 46 = .ok (.iload_n 1, 1) := by decide +kernel
theorem dX3_next_47 : decode cX3_next 47 = .ok (.iload 5, 2) := by decide +kernel
theorem dX3_next_49 : decode cX3_next 49 = .ok (.invokevirtual 71, 3) := by decide +kernel
theorem dX3_next_52 : decode cX3_next 52 = .ok (.iconst (-1), 1) := by decide +kernel
theorem dX3_next_53 : decode cX3_next 53 = .ok (.if_icmp .ne 76, 3) := by decide +kernel
theorem dX3_next_56 : decode cX3_next 56 = .ok (.aload_n 0, 1) := by decide +kernel
theorem dX3_next_57 : decode cX3_next 57 = .ok (.getfield 10, 3) := by decide +kernel
theorem dX3_next_60 : decode cX3_next 60 = .ok (.iload 5, 2) := by decide +kernel
theorem dX3_next_62 : decode cX3_next 62 = .ok (.invokevirtual 79, 3) := by decide +kernel
theorem dX3_next_65 : decode cX3_next 65 = .ok (.iconst (-1), 1) := by decide +kernel
theorem dX3_next_66 : decode cX3_next 66 = .ok (.if_icmp .eq 6, 3) := by decide +kernel
theorem dX3_next_69 : decode cX3_next 69 = .ok (.goto 60, 3) := by decide +kernel
theorem dX3_next_72 : decode cX3_next 72 = .ok (.aload_n 0, 1) := by decide +kernel
theorem dX3_next_73 : decode cX3_next 73 = .ok (.iload 5, 2) := by decide +kernel
theorem dX3_next_75 : decode cX3_next 75 = .ok (.invokevirtual 143, 3) := by decide +kernel
theorem dX3_next_78 : decode cX3_next 78 = .ok (.aload_n 0, 1) := by decide +kernel
theorem dX3_next_79 : decode cX3_next 79 = .ok (.invokevirtual 170, 3) := by decide +kernel
theorem dX3_next_82 : decode cX3_next 82 = .ok (.istore 6, 2) := by decide +kernel
theorem dX3_next_84 : decode cX3_next 84 = .ok (.aload_n 0, 1) := by decide +kernel
theorem dX3_next_85 : decode cX3_next 85 = .ok (.getfield 10, 3) := by decide +kernel
theorem dX3_next_88 : decode cX3_next 88 = .ok (.iload 5, 2) := by decide +kernel
theorem dX3_next_90 : decode cX3_next 90 = .ok (.invokevirtual 173, 3) := by decide +kernel
theorem dX3_next_93 : decode cX3_next 93 = .ok (.istore 7, 2) := by decide +kernel
theorem dX3_next_95 : decode cX3_next 95 = .ok (.iload_n 2, 1) := by decide +kernel
theorem dX3_next_96 : decode cX3_next 96 = .ok (.iconst (-1), 1) := by decide +kernel
theorem dX3_next_97 : decode cX3_next 97 = .ok (.if_icmp .eq 22, 3) := by decide +kernel
theorem dX3_next_100 : decode cX3_next 100 = .ok (.iload 6, 2) := by decide +kernel
theorem dX3_next_102 : decode cX3_next 102 = .ok (.iload_n 3, 1) := by decide +kernel
theorem dX3_next_103 : decode cX3_next 103 = .ok (.if_icmp .lt 16, 3) := by decide +kernel
theorem dX3_next_106 : decode cX3_next 106 = .ok (.iload 6, 2) := by decide +kernel
theorem dX3_next_108 : decode cX3_next 108 = .ok (.iload_n 3, 1) := by decide +kernel
theorem dX3_next_109 : decode cX3_next 109 = .ok (.if_icmp .ne 20, 3) := by decide +kernel
theorem dX3_next_112 : decode cX3_next 112 = .ok (.iload 7, 2) := by decide +kernel
theorem dX3_next_114 : decode cX3_next 114 = .ok (.iload 4, 2) := by decide +kernel
theorem dX3_next_116 : decode cX3_next 116 = .ok (.if_icmp .ge 13, 3) := by decide +kernel
theorem dX3_next_119 : decode cX3_next 119 = .ok (.iload 5, 2) := by decide +kernel
theorem dX3_next_121 : decode cX3_next 121 = .ok (.istore_n 2, 1) := by decide +kernel
theorem dX3_next_122 : decode cX3_next 122 = .ok (.iload 6, 2) := by decide +kernel
theorem dX3_next_124 : decode cX3_next 124 = .ok (.istore_n 3, 1) := by decide +kernel
theorem dX3_next_125 : decode cX3_next 125 = .ok (.iload 7, 2) := by decide +kernel
theorem dX3_next_127 : decode cX3_next 127 = .ok (.istore 4, 2) := by decide +kernel
theorem dX3_next_129 : decode cX3_next 129 = .ok (.iinc 5 1, 3) := by decide +kernel
theorem dX3_next_132 : decode cX3_next 132 = .ok (.goto (-102), 3) := by decide +kernel
theorem dX3_next_135 : decode cX3_next 135 = .ok (.iload_n 2, 1) := by decide +kernel
theorem dX3_next_136 : decode cX3_next 136 = .ok (.ireturn, 1) := by decide +kernel
theorem dX3_about_0 : decode cX3_about 0 = .ok (.iload_n 1, 1) := by decide +kernel
theorem dX3_about_1 : decode cX3_about 1 = .ok (.tableswitch 96 0 7 #[47, 55, 60, 68, 73, 81, 86, 91], 47) := by decide +kernel
theorem dX3_about_48 : decode cX3_about 48 = .ok (.aload_n 0, 1) := by decide +kernel
theorem dX3_about_49 : decode cX3_about 49 = .ok (.getfield 10, 3) := by decide +kernel
theorem dX3_about_52 : decode cX3_about 52 = .ok (.invokevirtual 139, 3) := by decide +kernel
theorem dX3_about_55 : decode cX3_about 55 = .ok (.ireturn, 1) := by decide +kernel
theorem dX3_about_56 : decode cX3_about 56 = .ok (.aload_n 0, 1) := by decide +kernel
theorem dX3_about_57 : decode cX3_about 57 = .ok (.invokevirtual 176, 3) := by decide +kernel
theorem dX3_about_60 : decode cX3_about 60 = .ok (.ireturn, 1) := by decide +kernel
theorem dX3_about_61 : decode cX3_about 61 = .ok (.aload_n 0, 1) := by decide +kernel
theorem dX3_about_62 : decode cX3_about 62 = .ok (.getfield 19, 3) := by decide +kernel
theorem dX3_about_65 : decode cX3_about 65 = .ok (.invokevirtual 179, 3) := by decide +kernel
theorem dX3_about_68 : decode cX3_about 68 = .ok (.ireturn, 1) := by decide +kernel
theorem dX3_about_69 : decode cX3_about 69 = .ok (.aload_n 0, 1) := by decide +kernel
theorem dX3_about_70 : decode cX3_about 70 = .ok (.invokevirtual 180, 3) := by decide +kernel
theorem dX3_about_73 : decode cX3_about 73 = .ok (.ireturn, 1) := by decide +kernel
theorem dX3_about_74 : decode cX3_about 74 = .ok (.aload_n 0, 1) := by decide +kernel
theorem dX3_about_75 : decode cX3_about 75 = .ok (.getfield 10, 3) := by decide +kernel
theorem dX3_about_78 : decode cX3_about 78 = .ok (.invokevirtual 183, 3) := by decide +kernel
theorem dX3_about_81 : decode cX3_about 81 = .ok (.ireturn, 1) := by decide +kernel
theorem dX3_about_82 : decode cX3_about 82 = .ok (.aload_n 0, 1) := by decide +kernel
theorem dX3_about_83 : decode cX3_about 83 = .ok (.getfield 44, 3) := by decide +kernel
theorem dX3_about_86 : decode cX3_about 86 = .ok (.ireturn, 1) := by decide +kernel
theorem dX3_about_87 : decode cX3_about 87 = .ok (.aload_n 0, 1) := by decide +kernel
theorem dX3_about_88 : decode cX3_about 88 = .ok (.invokevirtual 186, 3) := by decide +kernel
theorem dX3_about_91 : decode cX3_about 91 = .ok (.ireturn, 1) := by decide +kernel
theorem dX3_about_92 : decode cX3_about 92 = .ok (.aload_n 0, 1) := by decide +kernel
theorem dX3_about_93 : decode cX3_about 93 = .ok (.invokevirtual 189, 3) := by decide +kernel
theorem dX3_about_96 : decode cX3_about 96 = .ok (.ireturn, 1) := by decide +kernel
theorem dX3_about_97 : decode cX3_about 97 = .ok (.bipush (-102), 2) := by decide +kernel
theorem dX3_about_99 : decode cX3_about 99 = .ok (.ireturn, 1) := by decide +kernel
theorem dX3_isPerson_0 : decode cX3_isPerson 0 = .ok (.iload_n 0, 1) := by decide +kernel
theorem dX3_isPerson_1 : decode cX3_isPerson 1 = .ok (.ifCond .lt 13, 3) := by decide +kernel
theorem dX3_isPerson_4 : decode cX3_isPerson 4 = .ok (.iload_n 0, 1) := by decide +kernel
theorem dX3_isPerson_5 : decode cX3_isPerson 5 = .ok (.bipush 8, 2) := by decide +kernel
theorem dX3_isPerson_7 : decode cX3_isPerson 7 = .ok (.if_icmp .ge 7, 3) := by decide +kernel
theorem dX3_isPerson_10 : decode cX3_isPerson 10 = .ok (.iconst 1, 1) := by decide +kernel
theorem dX3_isPerson_11 : decode cX3_isPerson 11 = .ok (.goto 4, 3) := by decide +kernel
theorem dX3_isPerson_14 : decode cX3_isPerson 14 = .ok (.iconst 0, 1) := by decide +kernel
theorem dX3_isPerson_15 : decode cX3_isPerson 15 = .ok (.ireturn, 1) := by decide +kernel
theorem dX3_isLabel_0 : decode cX3_isLabel 0 = .ok (.iload_n 0, 1) := by decide +kernel
theorem dX3_isLabel_1 : decode cX3_isLabel 1 = .ok (.ifCond .lt 12, 3) := by decide +kernel
theorem dX3_isLabel_4 : decode cX3_isLabel 4 = .ok (.iload_n 0, 1) := by decide +kernel
theorem dX3_isLabel_5 : decode cX3_isLabel 5 = .ok (.iconst 5, 1) := by decide +kernel
theorem dX3_isLabel_6 : decode cX3_isLabel 6 = .ok (.if_icmp .ge 7, 3) := by decide +kernel
theorem dX3_isLabel_9 : decode cX3_isLabel 9 = .ok (.iconst 1, 1) := by decide +kernel
theorem dX3_isLabel_10 : decode cX3_isLabel 10 = .ok (.goto 4, 3) := by decide +kernel
theorem dX3_isLabel_13 : decode cX3_isLabel 13 = .ok (.iconst 0, 1) := by decide +kernel
theorem dX3_isLabel_14 : decode cX3_isLabel 14 = .ok (.ireturn, 1) := by decide +kernel
theorem dX3_isFeature_0 : decode cX3_isFeature 0 = .ok (.iload_n 0, 1) := by decide +kernel
theorem dX3_isFeature_1 : decode cX3_isFeature 1 = .ok (.ifCond .lt 12, 3) := by decide +kernel
theorem dX3_isFeature_4 : decode cX3_isFeature 4 = .ok (.iload_n 0, 1) := by decide +kernel
theorem dX3_isFeature_5 : decode cX3_isFeature 5 = .ok (.iconst 4, 1) := by decide +kernel
theorem dX3_isFeature_6 : decode cX3_isFeature 6 = .ok (.if_icmp .ge 7, 3) := by decide +kernel
theorem dX3_isFeature_9 : decode cX3_isFeature 9 = .ok (.iconst 1, 1) := by decide +kernel
theorem dX3_isFeature_10 : decode cX3_isFeature 10 = .ok (.goto 4, 3) := by decide +kernel
theorem dX3_isFeature_13 : decode cX3_isFeature 13 = .ok (.iconst 0, 1) := by decide +kernel
theorem dX3_isFeature_14 : decode cX3_isFeature 14 = .ok (.ireturn, 1) := by decide +kernel
theorem dX3_isPlace_0 : decode cX3_isPlace 0 = .ok (.iload_n 0, 1) := by decide +kernel
theorem dX3_isPlace_1 : decode cX3_isPlace 1 = .ok (.ifCond .lt 13, 3) := by decide +kernel
theorem dX3_isPlace_4 : decode cX3_isPlace 4 = .ok (.iload_n 0, 1) := by decide +kernel
theorem dX3_isPlace_5 : decode cX3_isPlace 5 = .ok (.bipush 8, 2) := by decide +kernel
theorem dX3_isPlace_7 : decode cX3_isPlace 7 = .ok (.if_icmp .ge 7, 3) := by decide +kernel
theorem dX3_isPlace_10 : decode cX3_isPlace 10 = .ok (.iconst 1, 1) := by decide +kernel
theorem dX3_isPlace_11 : decode cX3_isPlace 11 = .ok (.goto 4, 3) := by decide +kernel
theorem dX3_isPlace_14 : decode cX3_isPlace 14 = .ok (.iconst 0, 1) := by decide +kernel
theorem dX3_isPlace_15 : decode cX3_isPlace 15 = .ok (.ireturn, 1) := by decide +kernel
theorem dX3_isBarred_0 : decode cX3_isBarred 0 = .ok (.aload_n 0, 1) := by decide +kernel
theorem dX3_isBarred_1 : decode cX3_isBarred 1 = .ok (.getfield 10, 3) := by decide +kernel
theorem dX3_isBarred_4 : decode cX3_isBarred 4 = .ok (.iload_n 1, 1) := by decide +kernel
theorem dX3_isBarred_5 : decode cX3_isBarred 5 = .ok (.invokevirtual 87, 3) := by decide +kernel
theorem dX3_isBarred_8 : decode cX3_isBarred 8 = .ok (.aload_n 0, 1) := by decide +kernel
theorem dX3_isBarred_9 : decode cX3_isBarred 9 = .ok (.getfield 44, 3) := by decide +kernel
theorem dX3_isBarred_12 : decode cX3_isBarred 12 = .ok (.if_icmp .lt 7, 3) := by decide +kernel
theorem dX3_isBarred_15 : decode cX3_isBarred 15 = .ok (.iconst 1, 1) := by decide +kernel
theorem dX3_isBarred_16 : decode cX3_isBarred 16 = .ok (.goto 4, 3) := by decide +kernel
theorem dX3_isBarred_19 : decode cX3_isBarred 19 = .ok (.iconst 0, 1) := by decide +kernel
theorem dX3_isBarred_20 : decode cX3_isBarred 20 = .ok (.ireturn, 1) := by decide +kernel
theorem dX3_countVotes_0 : decode cX3_countVotes 0 = .ok (.aload_n 0, 1) := by decide +kernel
theorem dX3_countVotes_1 : decode cX3_countVotes 1 = .ok (.getfield 48, 3) := by decide +kernel
theorem dX3_countVotes_4 : decode cX3_countVotes 4 = .ok (.iconst 0, 1) := by decide +kernel
theorem dX3_countVotes_5 : decode cX3_countVotes 5 = .ok (.invokestatic 38, 3) := by decide +kernel
theorem dX3_countVotes_8 : decode cX3_countVotes 8 = .ok (.iconst 0, 1) := by decide +kernel
theorem dX3_countVotes_9 : decode cX3_countVotes 9 = .ok (.istore_n 2, 1) := by decide +kernel
theorem dX3_countVotes_10 : decode cX3_countVotes 10 = .ok (.iload_n 2, 1) := by decide +kernel
theorem dX3_countVotes_11 : decode cX3_countVotes 11 = .ok (.bipush 8, 2) := by decide +kernel
theorem dX3_countVotes_13 : decode cX3_countVotes 13 = .ok (.if_icmp .ge 49, 3) := by decide +kernel
theorem dX3_countVotes_16 : decode cX3_countVotes 16 = .ok (.aload_n 0, 1) := by decide +kernel
theorem dX3_countVotes_17 : decode cX3_countVotes 17 = .ok (.getfield 10, 3) := by decide +kernel
theorem dX3_countVotes_20 : decode cX3_countVotes 20 = .ok (.iload_n 2, 1) := by decide +kernel
theorem dX3_countVotes_21 : decode cX3_countVotes 21 = .ok (.iload_n 1, 1) := by decide +kernel
theorem dX3_countVotes_22 : decode cX3_countVotes 22 = .ok (.invokevirtual 71, 3) := by decide +kernel
theorem dX3_countVotes_25 : decode cX3_countVotes 25 = .ok (.istore_n 3, 1) := by decide +kernel
theorem dX3_countVotes_26 : decode cX3_countVotes 26 = .ok (.iload_n 3, 1) := by decide +kernel
theorem dX3_countVotes_27 : decode cX3_countVotes 27 = .ok (.invokestatic 68, 3) := by decide +kernel
theorem dX3_countVotes_30 : decode cX3_countVotes 30 = .ok (.ifCond .eq 26, 3) := by decide +kernel
theorem dX3_countVotes_33 : decode cX3_countVotes 33 = .ok (.aload_n 0, 1) := by decide +kernel
theorem dX3_countVotes_34 : decode cX3_countVotes 34 = .ok (.iload_n 2, 1) := by decide +kernel
theorem dX3_countVotes_35 : decode cX3_countVotes 35 = .ok (.invokevirtual 90, 3) := by decide +kernel
theorem dX3_countVotes_38 : decode cX3_countVotes 38 = .ok (.ifCond .ne 18, 3) := by decide +kernel
theorem dX3_countVotes_41 : decode cX3_countVotes 41 = .ok (.aload_n 0, 1) := by decide +kernel
theorem dX3_countVotes_42 : decode cX3_countVotes 42 = .ok (.getfield 48, 3) := by decide +kernel
theorem dX3_countVotes_45 : decode cX3_countVotes 45 = .ok (.iload_n 3, 1) := by decide +kernel
theorem dX3_countVotes_46 : decode cX3_countVotes 46 = .ok (.dup2, 1) := by decide +kernel
theorem dX3_countVotes_47 : decode cX3_countVotes 47 = .ok (.iaload, 1) := by decide +kernel
theorem dX3_countVotes_48 : decode cX3_countVotes 48 = .ok (.aload_n 0, 1) := by decide +kernel
theorem dX3_countVotes_49 : decode cX3_countVotes 49 = .ok (.getfield 34, 3) := by decide +kernel
theorem dX3_countVotes_52 : decode cX3_countVotes 52 = .ok (.iload_n 2, 1) := by decide +kernel
theorem dX3_countVotes_53 : decode cX3_countVotes 53 = .ok (.iaload, 1) := by decide +kernel
theorem dX3_countVotes_54 : decode cX3_countVotes 54 = .ok (.iadd, 1) := by decide +kernel
theorem dX3_countVotes_55 : decode cX3_countVotes 55 = .ok (.iastore, 1) := by decide +kernel
theorem dX3_countVotes_56 : decode cX3_countVotes 56 = .ok (.iinc 2 1, 3) := by decide +kernel
theorem dX3_countVotes_59 : decode cX3_countVotes 59 = .ok (.goto (-49), 3) := by decide +kernel
theorem dX3_countVotes_62 : decode cX3_countVotes 62 = .ok (.iconst 0, 1) := by decide +kernel
theorem dX3_countVotes_63 : decode cX3_countVotes 63 = .ok (.istore_n 2, 1) := by decide +kernel
theorem dX3_countVotes_64 : decode cX3_countVotes 64 = .ok (.iload_n 2, 1) := by decide +kernel
theorem dX3_countVotes_65 : decode cX3_countVotes 65 = .ok (.aload_n 0, 1) := by decide +kernel
theorem dX3_countVotes_66 : decode cX3_countVotes 66 = .ok (.getfield 19, 3) := by decide +kernel
theorem dX3_countVotes_69 : decode cX3_countVotes 69 = .ok (.invokevirtual 179, 3) := by decide +kernel
theorem dX3_countVotes_72 : decode cX3_countVotes 72 = .ok (.if_icmp .ge 55, 3) := by decide +kernel
theorem dX3_countVotes_75 : decode cX3_countVotes 75 = .ok (.aload_n 0, 1) := by decide +kernel
theorem dX3_countVotes_76 : decode cX3_countVotes 76 = .ok (.getfield 19, 3) := by decide +kernel
theorem dX3_countVotes_79 : decode cX3_countVotes 79 = .ok (.iload_n 2, 1) := by decide +kernel
theorem dX3_countVotes_80 : decode cX3_countVotes 80 = .ok (.invokevirtual 105, 3) := by decide +kernel
theorem dX3_countVotes_83 : decode cX3_countVotes 83 = .ok (.ifCond .eq 19, 3) := by decide +kernel
theorem dX3_countVotes_86 : decode cX3_countVotes 86 = .ok (.aload_n 0, 1) := by decide +kernel
theorem dX3_countVotes_87 : decode cX3_countVotes 87 = .ok (.getfield 19, 3) := by decide +kernel
theorem dX3_countVotes_90 : decode cX3_countVotes 90 = .ok (.iload_n 2, 1) := by decide +kernel
theorem dX3_countVotes_91 : decode cX3_countVotes 91 = .ok (.aload_n 0, 1) := by decide +kernel
theorem dX3_countVotes_92 : decode cX3_countVotes 92 = .ok (.getfield 10, 3) := by decide +kernel
theorem dX3_countVotes_95 : decode cX3_countVotes 95 = .ok (.iload_n 1, 1) := by decide +kernel
theorem dX3_countVotes_96 : decode cX3_countVotes 96 = .ok (.invokevirtual 125, 3) := by decide +kernel
theorem dX3_countVotes_99 : decode cX3_countVotes 99 = .ok (.goto 4, 3) := by decide +kernel
theorem dX3_countVotes_102 : decode cX3_countVotes 102 = .ok (.iconst (-1), 1) := by decide +kernel
theorem dX3_countVotes_103 : decode cX3_countVotes 103 = .ok (.istore_n 3, 1) := by decide +kernel
theorem dX3_countVotes_104 : decode cX3_countVotes 104 = .ok (.iload_n 3, 1) := by decide +kernel
theorem dX3_countVotes_105 : decode cX3_countVotes 105 = .ok (.invokestatic 68, 3) := by decide +kernel
theorem dX3_countVotes_108 : decode cX3_countVotes 108 = .ok (.ifCond .eq 13, 3) := by decide +kernel
theorem dX3_countVotes_111 : decode cX3_countVotes 111 = .ok (.aload_n 0, 1) := by decide +kernel
theorem dX3_countVotes_112 : decode cX3_countVotes 112 = .ok (.getfield 48, 3) := by decide +kernel
theorem dX3_countVotes_115 : decode cX3_countVotes 115 = .ok (.iload_n 3, 1) := by decide +kernel
theorem dX3_countVotes_116 : decode cX3_countVotes 116 = .ok (.dup2, 1) := by decide +kernel
theorem dX3_countVotes_117 : decode cX3_countVotes 117 = .ok (.iaload, 1) := by decide +kernel
theorem dX3_countVotes_118 : decode cX3_countVotes 118 = .ok (.iconst 1, 1) := by decide +kernel
theorem dX3_countVotes_119 : decode cX3_countVotes 119 = .ok (.iadd, 1) := by decide +kernel
theorem dX3_countVotes_120 : decode cX3_countVotes 120 = .ok (.iastore, 1) := by decide +kernel
theorem dX3_countVotes_121 : decode cX3_countVotes 121 = .ok (.iinc 2 1, 3) := by decide +kernel
theorem dX3_countVotes_124 : decode cX3_countVotes 124 = .ok (.goto (-60), 3) := by decide +kernel
theorem dX3_countVotes_127 : decode cX3_countVotes 127 = .ok (.return_, 1) := by decide +kernel
theorem dX3_decide_0 : decode cX3_decide 0 = .ok (.aload_n 0, 1) := by decide +kernel
theorem dX3_decide_1 : decode cX3_decide 1 = .ok (.getfield 10, 3) := by decide +kernel
theorem dX3_decide_4 : decode cX3_decide 4 = .ok (.iload_n 1, 1) := by decide +kernel
theorem dX3_decide_5 : decode cX3_decide 5 = .ok (.invokevirtual 79, 3) := by decide +kernel
theorem dX3_decide_8 : decode cX3_decide 8 = .ok (.iconst (-1), 1) := by decide +kernel
theorem dX3_decide_9 : decode cX3_decide 9 = .ok (.if_icmp .eq 12, 3) := by decide +kernel
theorem dX3_decide_12 : decode cX3_decide 12 = .ok (.aload_n 0, 1) := by decide +kernel
theorem dX3_decide_13 : decode cX3_decide 13 = .ok (.getfield 10, 3) := by decide +kernel
theorem dX3_decide_16 : decode cX3_decide 16 = .ok (.iload_n 1, 1) := by decide +kernel
theorem dX3_decide_17 : decode cX3_decide 17 = .ok (.invokevirtual 79, 3) := by decide +kernel
theorem dX3_decide_20 : decode cX3_decide 20 = .ok (.ireturn, 1) := by decide +kernel
theorem dX3_decide_21 : decode cX3_decide 21 = .ok (.aload_n 0, 1) := by decide +kernel
theorem dX3_decide_22 : decode cX3_decide 22 = .ok (.iload_n 1, 1) := by decide +kernel
theorem dX3_decide_23 : decode cX3_decide 23 = .ok (.invokevirtual 143, 3) := by decide +kernel
theorem dX3_decide_26 : decode cX3_decide 26 = .ok (.aload_n 0, 1) := by decide +kernel
theorem dX3_decide_27 : decode cX3_decide 27 = .ok (.invokevirtual 192, 3) := by decide +kernel
theorem dX3_decide_30 : decode cX3_decide 30 = .ok (.istore_n 2, 1) := by decide +kernel
theorem dX3_decide_31 : decode cX3_decide 31 = .ok (.iload_n 2, 1) := by decide +kernel
theorem dX3_decide_32 : decode cX3_decide 32 = .ok (.iconst (-1), 1) := by decide +kernel
theorem dX3_decide_33 : decode cX3_decide 33 = .ok (.if_icmp .eq 7, 3) := by decide +kernel
theorem dX3_decide_36 : decode cX3_decide 36 = .ok (.iload_n 2, 1) := by decide +kernel
theorem dX3_decide_37 : decode cX3_decide 37 = .ok (.goto 8, 3) := by decide +kernel
theorem dX3_decide_40 : decode cX3_decide 40 = .ok (.aload_n 0, 1) := by decide +kernel
theorem dX3_decide_41 : decode cX3_decide 41 = .ok (.iload_n 1, 1) := by decide +kernel
theorem dX3_decide_42 : decode cX3_decide 42 = .ok (.invokevirtual 195, 3) := by decide +kernel
theorem dX3_decide_45 : decode cX3_decide 45 = .ok (.ireturn, 1) := by decide +kernel
theorem dX3_winnerInTally_0 : decode cX3_winnerInTally 0 = .ok (.iconst (-1), 1) := by decide +kernel
theorem dX3_winnerInTally_1 : decode cX3_winnerInTally 1 = .ok (.istore_n 1, 1) := by decide +kernel
theorem dX3_winnerInTally_2 : decode cX3_winnerInTally 2 = .ok (.iconst 0, 1) := by decide +kernel
theorem dX3_winnerInTally_3 : decode cX3_winnerInTally 3 = .ok (.istore_n 2, 1) := by decide +kernel
theorem dX3_winnerInTally_4 : decode cX3_winnerInTally 4 = .ok (.iconst 0, 1) := by decide +kernel
theorem dX3_winnerInTally_5 : decode cX3_winnerInTally 5 = .ok (.istore_n 3, 1) := by decide +kernel
theorem dX3_winnerInTally_6 : decode cX3_winnerInTally 6 = .ok (.iload_n 3, 1) := by decide +kernel
theorem dX3_winnerInTally_7 : decode cX3_winnerInTally 7 = .ok (.iconst 5, 1) := by decide +kernel
theorem dX3_winnerInTally_8 : decode cX3_winnerInTally 8 = .ok (.if_icmp .ge 43, 3) := by decide +kernel
theorem dX3_winnerInTally_11 : decode cX3_winnerInTally 11 = .ok (.aload_n 0, 1) := by decide +kernel
theorem dX3_winnerInTally_12 : decode cX3_winnerInTally 12 = .ok (.getfield 48, 3) := by decide +kernel
theorem dX3_winnerInTally_15 : decode cX3_winnerInTally 15 = .ok (.iload_n 3, 1) := by decide +kernel
theorem dX3_winnerInTally_16 : decode cX3_winnerInTally 16 = .ok (.iaload, 1) := by decide +kernel
theorem dX3_winnerInTally_17 : decode cX3_winnerInTally 17 = .ok (.iload_n 2, 1) := by decide +kernel
theorem dX3_winnerInTally_18 : decode cX3_winnerInTally 18 = .ok (.if_icmp .le 15, 3) := by decide +kernel
theorem dX3_winnerInTally_21 : decode cX3_winnerInTally 21 = .ok (.aload_n 0, 1) := by decide +kernel
theorem dX3_winnerInTally_22 : decode cX3_winnerInTally 22 = .ok (.getfield 48, 3) := by decide +kernel
theorem dX3_winnerInTally_25 : decode cX3_winnerInTally 25 = .ok (.iload_n 3, 1) := by decide +kernel
theorem dX3_winnerInTally_26 : decode cX3_winnerInTally 26 = .ok (.iaload, 1) := by decide +kernel
theorem dX3_winnerInTally_27 : decode cX3_winnerInTally 27 = .ok (.istore_n 2, 1) := by decide +kernel
theorem dX3_winnerInTally_28 : decode cX3_winnerInTally 28 = .ok (.iload_n 3, 1) := by decide +kernel
theorem dX3_winnerInTally_29 : decode cX3_winnerInTally 29 = .ok (.istore_n 1, 1) := by decide +kernel
theorem dX3_winnerInTally_30 : decode cX3_winnerInTally 30 = .ok (.goto 15, 3) := by decide +kernel
theorem dX3_winnerInTally_33 : decode cX3_winnerInTally 33 = .ok (.aload_n 0, 1) := by decide +kernel
theorem dX3_winnerInTally_34 : decode cX3_winnerInTally 34 = .ok (.getfield 48, 3) := by decide +kernel
theorem dX3_winnerInTally_37 : decode cX3_winnerInTally 37 = .ok (.iload_n 3, 1) := by decide +kernel
theorem dX3_winnerInTally_38 : decode cX3_winnerInTally 38 = .ok (.iaload, 1) := by decide +kernel
theorem dX3_winnerInTally_39 : decode cX3_winnerInTally 39 = .ok (.iload_n 2, 1) := by decide +kernel
theorem dX3_winnerInTally_40 : decode cX3_winnerInTally 40 = .ok (.if_icmp .ne 5, 3) := by decide +kernel
theorem dX3_winnerInTally_43 : decode cX3_winnerInTally 43 = .ok (.iconst (-1), 1) := by decide +kernel
theorem dX3_winnerInTally_44 : decode cX3_winnerInTally 44 = .ok (.istore_n 1, 1) := by decide +kernel
theorem dX3_winnerInTally_45 : decode cX3_winnerInTally 45 = .ok (.iinc 3 1, 3) := by decide +kernel
theorem dX3_winnerInTally_48 : decode cX3_winnerInTally 48 = .ok (.goto (-42), 3) := by decide +kernel
theorem dX3_winnerInTally_51 : decode cX3_winnerInTally 51 = .ok (.iload_n 1, 1) := by decide +kernel
theorem dX3_winnerInTally_52 : decode cX3_winnerInTally 52 = .ok (.ireturn, 1) := by decide +kernel
theorem dX3_expertOn_0 : decode cX3_expertOn 0 = .ok (.iconst 0, 1) := by decide +kernel
theorem dX3_expertOn_1 : decode cX3_expertOn 1 = .ok (.istore_n 2, 1) := by decide +kernel
theorem dX3_expertOn_2 : decode cX3_expertOn 2 = .ok (.iload_n 2, 1) := by decide +kernel
theorem dX3_expertOn_3 : decode cX3_expertOn 3 = .ok (.bipush 8, 2) := by decide +kernel
theorem dX3_expertOn_5 : decode cX3_expertOn 5 = .ok (.if_icmp .ge 43, 3) := by decide +kernel
theorem dX3_expertOn_8 : decode cX3_expertOn 8 = .ok (.aload_n 0, 1) := by decide +kernel
theorem dX3_expertOn_9 : decode cX3_expertOn 9 = .ok (.getfield 10, 3) := by decide +kernel
theorem dX3_expertOn_12 : decode cX3_expertOn 12 = .ok (.iload_n 2, 1) := by decide +kernel
theorem dX3_expertOn_13 : decode cX3_expertOn 13 = .ok (.iload_n 1, 1) := by decide +kernel
theorem dX3_expertOn_14 : decode cX3_expertOn 14 = .ok (.invokevirtual 71, 3) := by decide +kernel
theorem dX3_expertOn_17 : decode cX3_expertOn 17 = .ok (.istore_n 3, 1) := by decide +kernel
theorem dX3_expertOn_18 : decode cX3_expertOn 18 = .ok (.aload_n 0, 1) := by decide +kernel
theorem dX3_expertOn_19 : decode cX3_expertOn 19 = .ok (.getfield 30, 3) := by decide +kernel
theorem dX3_expertOn_22 : decode cX3_expertOn 22 = .ok (.iload_n 2, 1) := by decide +kernel
theorem dX3_expertOn_23 : decode cX3_expertOn 23 = .ok (.baload, 1) := by decide +kernel
theorem dX3_expertOn_24 : decode cX3_expertOn 24 = .ok (.ifCond .eq 18, 3) := by decide +kernel
theorem dX3_expertOn_27 : decode cX3_expertOn 27 = .ok (.iload_n 3, 1) := by decide +kernel
theorem dX3_expertOn_28 : decode cX3_expertOn 28 = .ok (.iconst (-1), 1) := by decide +kernel
theorem dX3_expertOn_29 : decode cX3_expertOn 29 = .ok (.if_icmp .eq 13, 3) := by decide +kernel
theorem dX3_expertOn_32 : decode cX3_expertOn 32 = .ok (.aload_n 0, 1) := by decide +kernel
theorem dX3_expertOn_33 : decode cX3_expertOn 33 = .ok (.iload_n 2, 1) := by decide +kernel
theorem dX3_expertOn_34 : decode cX3_expertOn 34 = .ok (.invokevirtual 90, 3) := by decide +kernel
theorem dX3_expertOn_37 : decode cX3_expertOn 37 = .ok (.ifCond .ne 5, 3) := by decide +kernel
theorem dX3_expertOn_40 : decode cX3_expertOn 40 = .ok (.iload_n 3, 1) := by decide +kernel
theorem dX3_expertOn_41 : decode cX3_expertOn 41 = .ok (.ireturn, 1) := by decide +kernel
theorem dX3_expertOn_42 : decode cX3_expertOn 42 = .ok (.iinc 2 1, 3) := by decide +kernel
theorem dX3_expertOn_45 : decode cX3_expertOn 45 = .ok (.goto (-43), 3) := by decide +kernel
theorem dX3_expertOn_48 : decode cX3_expertOn 48 = .ok (.iconst (-1), 1) := by decide +kernel
theorem dX3_expertOn_49 : decode cX3_expertOn 49 = .ok (.ireturn, 1) := by decide +kernel
theorem dX3_leadInTally_0 : decode cX3_leadInTally 0 = .ok (.iconst 0, 1) := by decide +kernel
theorem dX3_leadInTally_1 : decode cX3_leadInTally 1 = .ok (.istore_n 1, 1) := by decide +kernel
theorem dX3_leadInTally_2 : decode cX3_leadInTally 2 = .ok (.iconst 0, 1) := by decide +kernel
theorem dX3_leadInTally_3 : decode cX3_leadInTally 3 = .ok (.istore_n 2, 1) := by decide +kernel
theorem dX3_leadInTally_4 : decode cX3_leadInTally 4 = .ok (.iconst 0, 1) := by decide +kernel
theorem dX3_leadInTally_5 : decode cX3_leadInTally 5 = .ok (.istore_n 3, 1) := by decide +kernel
theorem dX3_leadInTally_6 : decode cX3_leadInTally 6 = .ok (.iload_n 3, 1) := by decide +kernel
theorem dX3_leadInTally_7 : decode cX3_leadInTally 7 = .ok (.iconst 5, 1) := by decide +kernel
theorem dX3_leadInTally_8 : decode cX3_leadInTally 8 = .ok (.if_icmp .ge 48, 3) := by decide +kernel
theorem dX3_leadInTally_11 : decode cX3_leadInTally 11 = .ok (.aload_n 0, 1) := by decide +kernel
theorem dX3_leadInTally_12 : decode cX3_leadInTally 12 = .ok (.getfield 48, 3) := by decide +kernel
theorem dX3_leadInTally_15 : decode cX3_leadInTally 15 = .ok (.iload_n 3, 1) := by decide +kernel
theorem dX3_leadInTally_16 : decode cX3_leadInTally 16 = .ok (.iaload, 1) := by decide +kernel
theorem dX3_leadInTally_17 : decode cX3_leadInTally 17 = .ok (.iload_n 1, 1) := by decide +kernel
theorem dX3_leadInTally_18 : decode cX3_leadInTally 18 = .ok (.if_icmp .le 15, 3) := by decide +kernel
theorem dX3_leadInTally_21 : decode cX3_leadInTally 21 = .ok (.iload_n 1, 1) := by decide +kernel
theorem dX3_leadInTally_22 : decode cX3_leadInTally 22 = .ok (.istore_n 2, 1) := by decide +kernel
theorem dX3_leadInTally_23 : decode cX3_leadInTally 23 = .ok (.aload_n 0, 1) := by decide +kernel
theorem dX3_leadInTally_24 : decode cX3_leadInTally 24 = .ok (.getfield 48, 3) := by decide +kernel
theorem dX3_leadInTally_27 : decode cX3_leadInTally 27 = .ok (.iload_n 3, 1) := by decide +kernel
theorem dX3_leadInTally_28 : decode cX3_leadInTally 28 = .ok (.iaload, 1) := by decide +kernel
theorem dX3_leadInTally_29 : decode cX3_leadInTally 29 = .ok (.istore_n 1, 1) := by decide +kernel
theorem dX3_leadInTally_30 : decode cX3_leadInTally 30 = .ok (.goto 20, 3) := by decide +kernel
theorem dX3_leadInTally_33 : decode cX3_leadInTally 33 = .ok (.aload_n 0, 1) := by decide +kernel
theorem dX3_leadInTally_34 : decode cX3_leadInTally 34 = .ok (.getfield 48, 3) := by decide +kernel
theorem dX3_leadInTally_37 : decode cX3_leadInTally 37 = .ok (.iload_n 3, 1) := by decide +kernel
theorem dX3_leadInTally_38 : decode cX3_leadInTally 38 = .ok (.iaload, 1) := by decide +kernel
theorem dX3_leadInTally_39 : decode cX3_leadInTally 39 = .ok (.iload_n 2, 1) := by decide +kernel
theorem dX3_leadInTally_40 : decode cX3_leadInTally 40 = .ok (.if_icmp .le 10, 3) := by decide +kernel
theorem dX3_leadInTally_43 : decode cX3_leadInTally 43 = .ok (.aload_n 0, 1) := by decide +kernel
theorem dX3_leadInTally_44 : decode cX3_leadInTally 44 = .ok (.getfield 48, 3) := by decide +kernel
theorem dX3_leadInTally_47 : decode cX3_leadInTally 47 = .ok (.iload_n 3, 1) := by decide +kernel
theorem dX3_leadInTally_48 : decode cX3_leadInTally 48 = .ok (.iaload, 1) := by decide +kernel
theorem dX3_leadInTally_49 : decode cX3_leadInTally 49 = .ok (.istore_n 2, 1) := by decide +kernel
theorem dX3_leadInTally_50 : decode cX3_leadInTally 50 = .ok (.iinc 3 1, 3) := by decide +kernel
theorem dX3_leadInTally_53 : decode cX3_leadInTally 53 = .ok (.goto (-47), 3) := by decide +kernel
theorem dX3_leadInTally_56 : decode cX3_leadInTally 56 = .ok (.iload_n 1, 1) := by decide +kernel
theorem dX3_leadInTally_57 : decode cX3_leadInTally 57 = .ok (.iload_n 2, 1) := by decide +kernel
theorem dX3_leadInTally_58 : decode cX3_leadInTally 58 = .ok (.isub, 1) := by decide +kernel
theorem dX3_leadInTally_59 : decode cX3_leadInTally 59 = .ok (.ireturn, 1) := by decide +kernel
theorem dX3_learnRound_0 : decode cX3_learnRound 0 = .ok (.iconst 0, 1) := by decide +kernel
theorem dX3_learnRound_1 : decode cX3_learnRound 1 = .ok (.istore_n 1, 1) := by decide +kernel
theorem dX3_learnRound_2 : decode cX3_learnRound 2 = .ok (.iload_n 1, 1) := by decide +kernel
theorem dX3_learnRound_3 : decode cX3_learnRound 3 = .ok (.aload_n 0, 1) := by decide +kernel
theorem dX3_learnRound_4 : decode cX3_learnRound 4 = .ok (.getfield 10, 3) := by decide +kernel
theorem dX3_learnRound_7 : decode cX3_learnRound 7 = .ok (.invokevirtual 139, 3) := by decide +kernel
theorem dX3_learnRound_10 : decode cX3_learnRound 10 = .ok (.if_icmp .ge 20, 3) := by decide +kernel
theorem dX3_learnRound_13 : decode cX3_learnRound 13 = .ok (.aload_n 0, 1) := by decide +kernel
theorem dX3_learnRound_14 : decode cX3_learnRound 14 = .ok (.getfield 51, 3) := by decide +kernel
theorem dX3_learnRound_17 : decode cX3_learnRound 17 = .ok (.iload_n 1, 1) := by decide +kernel
theorem dX3_learnRound_18 : decode cX3_learnRound 18 = .ok (.aload_n 0, 1) := by decide +kernel
theorem dX3_learnRound_19 : decode cX3_learnRound 19 = .ok (.iload_n 1, 1) := by decide +kernel
theorem dX3_learnRound_20 : decode cX3_learnRound 20 = .ok (.invokevirtual 147, 3) := by decide +kernel
theorem dX3_learnRound_23 : decode cX3_learnRound 23 = .ok (.iastore, 1) := by decide +kernel
theorem dX3_learnRound_24 : decode cX3_learnRound 24 = .ok (.iinc 1 1, 3) := by decide +kernel
theorem dX3_learnRound_27 : decode cX3_learnRound 27 = .ok (.goto (-25), 3) := by decide +kernel
theorem dX3_learnRound_30 : decode cX3_learnRound 30 = .ok (.iconst 0, 1) := by decide +kernel
theorem dX3_learnRound_31 : decode cX3_learnRound 31 = .ok (.istore_n 1, 1) := by decide +kernel
theorem dX3_learnRound_32 : decode cX3_learnRound 32 = .ok (.iconst 0, 1) := by decide +kernel
theorem dX3_learnRound_33 : decode cX3_learnRound 33 = .ok (.istore_n 2, 1) := by decide +kernel
theorem dX3_learnRound_34 : decode cX3_learnRound 34 = .ok (.iload_n 2, 1) := by decide +kernel
theorem dX3_learnRound_35 : decode cX3_learnRound 35 = .ok (.bipush 8, 2) := by decide +kernel
theorem dX3_learnRound_37 : decode cX3_learnRound 37 = .ok (.if_icmp .ge 37, 3) := by decide +kernel
theorem dX3_learnRound_40 : decode cX3_learnRound 40 = .ok (.aload_n 0, 1) := by decide +kernel
theorem dX3_learnRound_41 : decode cX3_learnRound 41 = .ok (.getfield 54, 3) := by decide +kernel
theorem dX3_learnRound_44 : decode cX3_learnRound 44 = .ok (.iload_n 2, 1) := by decide +kernel
theorem dX3_learnRound_45 : decode cX3_learnRound 45 = .ok (.aload_n 0, 1) := by decide +kernel
theorem dX3_learnRound_46 : decode cX3_learnRound 46 = .ok (.iload_n 2, 1) := by decide +kernel
theorem dX3_learnRound_47 : decode cX3_learnRound 47 = .ok (.invokevirtual 198, 3) := by decide +kernel
theorem dX3_learnRound_50 : decode cX3_learnRound 50 = .ok (.iastore, 1) := by decide +kernel
theorem dX3_learnRound_51 : decode cX3_learnRound 51 = .ok (.aload_n 0, 1) := by decide +kernel
theorem dX3_learnRound_52 : decode cX3_learnRound 52 = .ok (.getfield 54, 3) := by decide +kernel
theorem dX3_learnRound_55 : decode cX3_learnRound 55 = .ok (.iload_n 2, 1) := by decide +kernel
theorem dX3_learnRound_56 : decode cX3_learnRound 56 = .ok (.iaload, 1) := by decide +kernel
theorem dX3_learnRound_57 : decode cX3_learnRound 57 = .ok (.aload_n 0, 1) := by decide +kernel
theorem dX3_learnRound_58 : decode cX3_learnRound 58 = .ok (.getfield 34, 3) := by decide +kernel
theorem dX3_learnRound_61 : decode cX3_learnRound 61 = .ok (.iload_n 2, 1) := by decide +kernel
theorem dX3_learnRound_62 : decode cX3_learnRound 62 = .ok (.iaload, 1) := by decide +kernel
theorem dX3_learnRound_63 : decode cX3_learnRound 63 = .ok (.if_icmp .eq 5, 3) := by decide +kernel
theorem dX3_learnRound_66 : decode cX3_learnRound 66 = .ok (.iconst 1, 1) := by decide +kernel
theorem dX3_learnRound_67 : decode cX3_learnRound 67 = .ok (.istore_n 1, 1) := by decide +kernel
theorem dX3_learnRound_68 : decode cX3_learnRound 68 = .ok (.iinc 2 1, 3) := by decide +kernel
theorem dX3_learnRound_71 : decode cX3_learnRound 71 = .ok (.goto (-37), 3) := by decide +kernel
theorem dX3_learnRound_74 : decode cX3_learnRound 74 = .ok (.aload_n 0, 1) := by decide +kernel
theorem dX3_learnRound_75 : decode cX3_learnRound 75 = .ok (.getfield 54, 3) := by decide +kernel
theorem dX3_learnRound_78 : decode cX3_learnRound 78 = .ok (.iconst 0, 1) := by decide +kernel
theorem dX3_learnRound_79 : decode cX3_learnRound 79 = .ok (.aload_n 0, 1) := by decide +kernel
theorem dX3_learnRound_80 : decode cX3_learnRound 80 = .ok (.getfield 34, 3) := by decide +kernel
theorem dX3_learnRound_83 : decode cX3_learnRound 83 = .ok (.iconst 0, 1) := by decide +kernel
theorem dX3_learnRound_84 : decode cX3_learnRound 84 = .ok (.bipush 8, 2) := by decide +kernel
theorem dX3_learnRound_86 : decode cX3_learnRound 86 = .ok (.invokestatic 201, 3) := by decide +kernel
theorem dX3_learnRound_89 : decode cX3_learnRound 89 = .ok (.iload_n 1, 1) := by decide +kernel
theorem dX3_learnRound_90 : decode cX3_learnRound 90 = .ok (.ireturn, 1) := by decide +kernel
theorem dX3_earnedTrust_0 : decode cX3_earnedTrust 0 = .ok (.iconst 0, 1) := by decide +kernel
theorem dX3_earnedTrust_1 : decode cX3_earnedTrust 1 = .ok (.istore_n 2, 1) := by decide +kernel
theorem dX3_earnedTrust_2 : decode cX3_earnedTrust 2 = .ok (.iconst 0, 1) := by decide +kernel
theorem dX3_earnedTrust_3 : decode cX3_earnedTrust 3 = .ok (.istore_n 3, 1) := by decide +kernel
theorem dX3_earnedTrust_4 : decode cX3_earnedTrust 4 = .ok (.iconst 0, 1) := by decide +kernel
theorem dX3_earnedTrust_5 : decode cX3_earnedTrust 5 = .ok (.istore 4, 2) := by decide +kernel
theorem dX3_earnedTrust_7 : decode cX3_earnedTrust 7 = .ok (.iload 4, 2) := by decide +kernel
theorem dX3_earnedTrust_9 : decode cX3_earnedTrust 9 = .ok (.aload_n 0, 1) := by decide +kernel
theorem dX3_earnedTrust_10 : decode cX3_earnedTrust 10 = .ok (.getfield 10, 3) := by decide +kernel
theorem dX3_earnedTrust_13 : decode cX3_earnedTrust 13 = .ok (.invokevirtual 139, 3) := by decide +kernel
theorem dX3_earnedTrust_16 : decode cX3_earnedTrust 16 = .ok (.if_icmp .ge 59, 3) := by decide +kernel
theorem dX3_earnedTrust_19 : decode cX3_earnedTrust 19 = .ok (.aload_n 0, 1) := by decide +kernel
theorem dX3_earnedTrust_20 : decode cX3_earnedTrust 20 = .ok (.getfield 10, 3) := by decide +kernel
theorem dX3_earnedTrust_23 : decode cX3_earnedTrust 23 = .ok (.iload_n 1, 1) := by decide +kernel
theorem dX3_earnedTrust_24 : decode cX3_earnedTrust 24 = .ok (.iload 4, 2) := by decide +kernel
theorem dX3_earnedTrust_26 : decode cX3_earnedTrust 26 = .ok (.invokevirtual 71, 3) := by decide +kernel
theorem dX3_earnedTrust_29 : decode cX3_earnedTrust 29 = .ok (.istore 5, 2) := by decide +kernel
theorem dX3_earnedTrust_31 : decode cX3_earnedTrust 31 = .ok (.iload 5, 2) := by decide +kernel
theorem dX3_earnedTrust_33 : decode cX3_earnedTrust 33 = .ok (.iconst (-1), 1) := by decide +kernel
theorem dX3_earnedTrust_34 : decode cX3_earnedTrust 34 = .ok (.if_icmp .eq 35, 3) := by decide +kernel
theorem dX3_earnedTrust_37 : decode cX3_earnedTrust 37 = .ok (.aload_n 0, 1) := by decide +kernel
theorem dX3_earnedTrust_38 : decode cX3_earnedTrust 38 = .ok (.getfield 51, 3) := by decide +kernel
theorem dX3_earnedTrust_41 : decode cX3_earnedTrust 41 = .ok (.iload 4, 2) := by decide +kernel
theorem dX3_earnedTrust_43 : decode cX3_earnedTrust 43 = .ok (.iaload, 1) := by decide +kernel
theorem dX3_earnedTrust_44 : decode cX3_earnedTrust 44 = .ok (.iconst (-1), 1) := by decide +kernel
theorem dX3_earnedTrust_45 : decode cX3_earnedTrust 45 = .ok (.if_icmp .ne 6, 3) := by decide +kernel
theorem dX3_earnedTrust_48 : decode cX3_earnedTrust 48 = .ok (.goto 21, 3) := by decide +kernel
theorem dX3_earnedTrust_51 : decode cX3_earnedTrust 51 = .ok (.iinc 2 1, 3) := by decide +kernel
theorem dX3_earnedTrust_54 : decode cX3_earnedTrust 54 = .ok (.iload 5, 2) := by decide +kernel
theorem dX3_earnedTrust_56 : decode cX3_earnedTrust 56 = .ok (.aload_n 0, 1) := by decide +kernel
theorem dX3_earnedTrust_57 : decode cX3_earnedTrust 57 = .ok (.getfield 51, 3) := by decide +kernel
theorem dX3_earnedTrust_60 : decode cX3_earnedTrust 60 = .ok (.iload 4, 2) := by decide +kernel
theorem dX3_earnedTrust_62 : decode cX3_earnedTrust 62 = .ok (.iaload, 1) := by decide +kernel
theorem dX3_earnedTrust_63 : decode cX3_earnedTrust 63 = .ok (.if_icmp .ne 6, 3) := by decide +kernel
theorem dX3_earnedTrust_66 : decode cX3_earnedTrust 66 = .ok (.iinc 3 1, 3) := by decide +kernel
theorem dX3_earnedTrust_69 : decode cX3_earnedTrust 69 = .ok (.iinc 4 1, 3) := by decide +kernel
theorem dX3_earnedTrust_72 : decode cX3_earnedTrust 72 = .ok (.goto (-65), 3) := by decide +kernel
theorem dX3_earnedTrust_75 : decode cX3_earnedTrust 75 = .ok (.iload_n 2, 1) := by decide +kernel
theorem dX3_earnedTrust_76 : decode cX3_earnedTrust 76 = .ok (.ifCond .ne 7, 3) := by decide +kernel
theorem dX3_earnedTrust_79 : decode cX3_earnedTrust 79 = .ok (.iconst 1, 1) := by decide +kernel
theorem dX3_earnedTrust_80 : decode cX3_earnedTrust 80 = .ok (.goto 11, 3) := by decide +kernel
theorem dX3_earnedTrust_83 : decode cX3_earnedTrust 83 = .ok (.iconst 1, 1) := by decide +kernel
theorem dX3_earnedTrust_84 : decode cX3_earnedTrust 84 = .ok (.bipush 9, 2) := by decide +kernel
theorem dX3_earnedTrust_86 : decode cX3_earnedTrust 86 = .ok (.iload_n 3, 1) := by decide +kernel
theorem dX3_earnedTrust_87 : decode cX3_earnedTrust 87 = .ok (.imul, 1) := by decide +kernel
theorem dX3_earnedTrust_88 : decode cX3_earnedTrust 88 = .ok (.iload_n 2, 1) := by decide +kernel
theorem dX3_earnedTrust_89 : decode cX3_earnedTrust 89 = .ok (.idiv, 1) := by decide +kernel
theorem dX3_earnedTrust_90 : decode cX3_earnedTrust 90 = .ok (.iadd, 1) := by decide +kernel
theorem dX3_earnedTrust_91 : decode cX3_earnedTrust 91 = .ok (.ireturn, 1) := by decide +kernel
theorem dX3_partOfAgreement_0 : decode cX3_partOfAgreement 0 = .ok (.iload_n 1, 1) := by decide +kernel
theorem dX3_partOfAgreement_1 : decode cX3_partOfAgreement 1 = .ok (.iconst 2, 1) := by decide +kernel
theorem dX3_partOfAgreement_2 : decode cX3_partOfAgreement 2 = .ok (.if_icmp .ne 12, 3) := by decide +kernel
theorem dX3_partOfAgreement_5 : decode cX3_partOfAgreement 5 = .ok (.aload_n 0, 1) := by decide +kernel
theorem dX3_partOfAgreement_6 : decode cX3_partOfAgreement 6 = .ok (.getfield 26, 3) := by decide +kernel
theorem dX3_partOfAgreement_9 : decode cX3_partOfAgreement 9 = .ok (.invokevirtual 207, 3) := by decide +kernel
theorem dX3_partOfAgreement_12 : decode cX3_partOfAgreement 12 = .ok (.i2l, 1) := by decide +kernel
theorem dX3_partOfAgreement_13 : decode cX3_partOfAgreement 13 = .ok (.lreturn, 1) := by decide +kernel
theorem dX3_partOfAgreement_14 : decode cX3_partOfAgreement 14 = .ok (.iload_n 1, 1) := by decide +kernel
theorem dX3_partOfAgreement_15 : decode cX3_partOfAgreement 15 = .ok (.iconst 3, 1) := by decide +kernel
theorem dX3_partOfAgreement_16 : decode cX3_partOfAgreement 16 = .ok (.if_icmp .ne 12, 3) := by decide +kernel
theorem dX3_partOfAgreement_19 : decode cX3_partOfAgreement 19 = .ok (.aload_n 0, 1) := by decide +kernel
theorem dX3_partOfAgreement_20 : decode cX3_partOfAgreement 20 = .ok (.getfield 26, 3) := by decide +kernel
theorem dX3_partOfAgreement_23 : decode cX3_partOfAgreement 23 = .ok (.invokevirtual 210, 3) := by decide +kernel
theorem dX3_partOfAgreement_26 : decode cX3_partOfAgreement 26 = .ok (.i2l, 1) := by decide +kernel
theorem dX3_partOfAgreement_27 : decode cX3_partOfAgreement 27 = .ok (.lreturn, 1) := by decide +kernel
theorem dX3_partOfAgreement_28 : decode cX3_partOfAgreement 28 = .ok (.aload_n 0, 1) := by decide +kernel
theorem dX3_partOfAgreement_29 : decode cX3_partOfAgreement 29 = .ok (.getfield 26, 3) := by decide +kernel
theorem dX3_partOfAgreement_32 : decode cX3_partOfAgreement 32 = .ok (.invokevirtual 213, 3) := by decide +kernel
theorem dX3_partOfAgreement_35 : decode cX3_partOfAgreement 35 = .ok (.lconst 0, 1) := by decide +kernel
theorem dX3_partOfAgreement_36 : decode cX3_partOfAgreement 36 = .ok (.lcmp, 1) := by decide +kernel
theorem dX3_partOfAgreement_37 : decode cX3_partOfAgreement 37 = .ok (.ifCond .ne 13, 3) := by decide +kernel
theorem dX3_partOfAgreement_40 : decode cX3_partOfAgreement 40 = .ok (.new 129, 3) := by decide +kernel
theorem dX3_partOfAgreement_43 : decode cX3_partOfAgreement 43 = .ok (.dup, 1) := by decide +kernel
theorem dX3_partOfAgreement_44 : decode cX3_partOfAgreement 44 = .ok (.ldc 217, 2) := by decide +kernel
theorem dX3_partOfAgreement_46 : decode cX3_partOfAgreement 46 = .ok (.invokespecial 133, 3) := by decide +kernel
theorem dX3_partOfAgreement_49 : decode cX3_partOfAgreement 49 = .ok (.athrow, 1) := by decide +kernel
theorem dX3_partOfAgreement_50 : decode cX3_partOfAgreement 50 = .ok (.iload_n 1, 1) := by decide +kernel
theorem dX3_partOfAgreement_51 : decode cX3_partOfAgreement 51 = .ok (.ifCond .ne 13, 3) := by decide +kernel
theorem dX3_partOfAgreement_54 : decode cX3_partOfAgreement 54 = .ok (.aload_n 0, 1) := by decide +kernel
theorem dX3_partOfAgreement_55 : decode cX3_partOfAgreement 55 = .ok (.getfield 26, 3) := by decide +kernel
theorem dX3_partOfAgreement_58 : decode cX3_partOfAgreement 58 = .ok (.invokevirtual 219, 3) := by decide +kernel
theorem dX3_partOfAgreement_61 : decode cX3_partOfAgreement 61 = .ok (.goto 10, 3) := by decide +kernel
theorem dX3_partOfAgreement_64 : decode cX3_partOfAgreement 64 = .ok (.aload_n 0, 1) := by decide +kernel
theorem dX3_partOfAgreement_65 : decode cX3_partOfAgreement 65 = .ok (.getfield 26, 3) := by decide +kernel
theorem dX3_partOfAgreement_68 : decode cX3_partOfAgreement 68 = .ok (.invokevirtual 213, 3) := by decide +kernel
theorem dX3_partOfAgreement_71 : decode cX3_partOfAgreement 71 = .ok (.lreturn, 1) := by decide +kernel
theorem dX3_countLabellings_0 : decode cX3_countLabellings 0 = .ok (.iconst 0, 1) := by decide +kernel
theorem dX3_countLabellings_1 : decode cX3_countLabellings 1 = .ok (.istore_n 1, 1) := by decide +kernel
theorem dX3_countLabellings_2 : decode cX3_countLabellings 2 = .ok (.iconst 0, 1) := by decide +kernel
theorem dX3_countLabellings_3 : decode cX3_countLabellings 3 = .ok (.istore_n 2, 1) := by decide +kernel
theorem dX3_countLabellings_4 : decode cX3_countLabellings 4 = .ok (.iload_n 2, 1) := by decide +kernel
theorem dX3_countLabellings_5 : decode cX3_countLabellings 5 = .ok (.bipush 8, 2) := by decide +kernel
theorem dX3_countLabellings_7 : decode cX3_countLabellings 7 = .ok (.if_icmp .ge 20, 3) := by decide +kernel
theorem dX3_countLabellings_10 : decode cX3_countLabellings 10 = .ok (.iload_n 1, 1) := by decide +kernel
theorem dX3_countLabellings_11 : decode cX3_countLabellings 11 = .ok (.aload_n 0, 1) := by decide +kernel
theorem dX3_countLabellings_12 : decode cX3_countLabellings 12 = .ok (.getfield 10, 3) := by decide +kernel
theorem dX3_countLabellings_15 : decode cX3_countLabellings 15 = .ok (.iload_n 2, 1) := by decide +kernel
theorem dX3_countLabellings_16 : decode cX3_countLabellings 16 = .ok (.invokevirtual 93, 3) := by decide +kernel
theorem dX3_countLabellings_19 : decode cX3_countLabellings 19 = .ok (.iadd, 1) := by decide +kernel
theorem dX3_countLabellings_20 : decode cX3_countLabellings 20 = .ok (.istore_n 1, 1) := by decide +kernel
theorem dX3_countLabellings_21 : decode cX3_countLabellings 21 = .ok (.iinc 2 1, 3) := by decide +kernel
theorem dX3_countLabellings_24 : decode cX3_countLabellings 24 = .ok (.goto (-20), 3) := by decide +kernel
theorem dX3_countLabellings_27 : decode cX3_countLabellings 27 = .ok (.iload_n 1, 1) := by decide +kernel
theorem dX3_countLabellings_28 : decode cX3_countLabellings 28 = .ok (.ireturn, 1) := by decide +kernel
theorem dX3_countDecided_0 : decode cX3_countDecided 0 = .ok (.iconst 0, 1) := by decide +kernel
theorem dX3_countDecided_1 : decode cX3_countDecided 1 = .ok (.istore_n 1, 1) := by decide +kernel
theorem dX3_countDecided_2 : decode cX3_countDecided 2 = .ok (.iconst 0, 1) := by decide +kernel
theorem dX3_countDecided_3 : decode cX3_countDecided 3 = .ok (.istore_n 2, 1) := by decide +kernel
theorem dX3_countDecided_4 : decode cX3_countDecided 4 = .ok (.iload_n 2, 1) := by decide +kernel
theorem dX3_countDecided_5 : decode cX3_countDecided 5 = .ok (.aload_n 0, 1) := by decide +kernel
theorem dX3_countDecided_6 : decode cX3_countDecided 6 = .ok (.getfield 10, 3) := by decide +kernel
theorem dX3_countDecided_9 : decode cX3_countDecided 9 = .ok (.invokevirtual 139, 3) := by decide +kernel
theorem dX3_countDecided_12 : decode cX3_countDecided 12 = .ok (.if_icmp .ge 21, 3) := by decide +kernel
theorem dX3_countDecided_15 : decode cX3_countDecided 15 = .ok (.aload_n 0, 1) := by decide +kernel
theorem dX3_countDecided_16 : decode cX3_countDecided 16 = .ok (.iload_n 2, 1) := by decide +kernel
theorem dX3_countDecided_17 : decode cX3_countDecided 17 = .ok (.invokevirtual 147, 3) := by decide +kernel
theorem dX3_countDecided_20 : decode cX3_countDecided 20 = .ok (.iconst (-1), 1) := by decide +kernel
theorem dX3_countDecided_21 : decode cX3_countDecided 21 = .ok (.if_icmp .eq 6, 3) := by decide +kernel
theorem dX3_countDecided_24 : decode cX3_countDecided 24 = .ok (.iinc 1 1, 3) := by decide +kernel
theorem dX3_countDecided_27 : decode cX3_countDecided 27 = .ok (.iinc 2 1, 3) := by decide +kernel
theorem dX3_countDecided_30 : decode cX3_countDecided 30 = .ok (.goto (-26), 3) := by decide +kernel
theorem dX3_countDecided_33 : decode cX3_countDecided 33 = .ok (.iload_n 1, 1) := by decide +kernel
theorem dX3_countDecided_34 : decode cX3_countDecided 34 = .ok (.ireturn, 1) := by decide +kernel
theorem dX3_countBarred_0 : decode cX3_countBarred 0 = .ok (.iconst 0, 1) := by decide +kernel
theorem dX3_countBarred_1 : decode cX3_countBarred 1 = .ok (.istore_n 1, 1) := by decide +kernel
theorem dX3_countBarred_2 : decode cX3_countBarred 2 = .ok (.iconst 0, 1) := by decide +kernel
theorem dX3_countBarred_3 : decode cX3_countBarred 3 = .ok (.istore_n 2, 1) := by decide +kernel
theorem dX3_countBarred_4 : decode cX3_countBarred 4 = .ok (.iload_n 2, 1) := by decide +kernel
theorem dX3_countBarred_5 : decode cX3_countBarred 5 = .ok (.bipush 8, 2) := by decide +kernel
theorem dX3_countBarred_7 : decode cX3_countBarred 7 = .ok (.if_icmp .ge 20, 3) := by decide +kernel
theorem dX3_countBarred_10 : decode cX3_countBarred 10 = .ok (.aload_n 0, 1) := by decide +kernel
theorem dX3_countBarred_11 : decode cX3_countBarred 11 = .ok (.iload_n 2, 1) := by decide +kernel
theorem dX3_countBarred_12 : decode cX3_countBarred 12 = .ok (.invokevirtual 90, 3) := by decide +kernel
theorem dX3_countBarred_15 : decode cX3_countBarred 15 = .ok (.ifCond .eq 6, 3) := by decide +kernel
theorem dX3_countBarred_18 : decode cX3_countBarred 18 = .ok (.iinc 1 1, 3) := by decide +kernel
theorem dX3_countBarred_21 : decode cX3_countBarred 21 = .ok (.iinc 2 1, 3) := by decide +kernel
theorem dX3_countBarred_24 : decode cX3_countBarred 24 = .ok (.goto (-20), 3) := by decide +kernel
theorem dX3_countBarred_27 : decode cX3_countBarred 27 = .ok (.iload_n 1, 1) := by decide +kernel
theorem dX3_countBarred_28 : decode cX3_countBarred 28 = .ok (.ireturn, 1) := by decide +kernel
theorem dX3_countDisputed_0 : decode cX3_countDisputed 0 = .ok (.iconst 0, 1) := by decide +kernel
theorem dX3_countDisputed_1 : decode cX3_countDisputed 1 = .ok (.istore_n 1, 1) := by decide +kernel
