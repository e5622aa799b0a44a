theorem dX3_countDisputed_2 : decode cX3_countDisputed 2 = .ok (.iconst 0, 1) := by decide +kernel
theorem dX3_countDisputed_3 : decode cX3_countDisputed 3 = .ok (.istore_n 2, 1) := by decide +kernel
theorem dX3_countDisputed_4 : decode cX3_countDisputed 4 = .ok (.iload_n 2, 1) := by decide +kernel
theorem dX3_countDisputed_5 : decode cX3_countDisputed 5 = .ok (.aload_n 0, 1) := by decide +kernel
theorem dX3_countDisputed_6 : decode cX3_countDisputed 6 = .ok (.getfield 10, 3) := by decide +kernel
theorem dX3_countDisputed_9 : decode cX3_countDisputed 9 = .ok (.invokevirtual 139, 3) := by decide +kernel
theorem dX3_countDisputed_12 : decode cX3_countDisputed 12 = .ok (.if_icmp .ge 20, 3) := by decide +kernel
theorem dX3_countDisputed_15 : decode cX3_countDisputed 15 = .ok (.aload_n 0, 1) := by decide +kernel
theorem dX3_countDisputed_16 : decode cX3_countDisputed 16 = .ok (.iload_n 2, 1) := by decide +kernel
theorem dX3_countDisputed_17 : decode cX3_countDisputed 17 = .ok (.invokevirtual 222, 3) := by decide +kernel
theorem dX3_countDisputed_20 : decode cX3_countDisputed 20 = .ok (.ifCond .eq 6, 3) := by decide +kernel
theorem dX3_countDisputed_23 : decode cX3_countDisputed 23 = .ok (.iinc 1 1, 3) := by decide +kernel
theorem dX3_countDisputed_26 : decode cX3_countDisputed 26 = .ok (.iinc 2 1, 3) := by decide +kernel
theorem dX3_countDisputed_29 : decode cX3_countDisputed 29 = .ok (.goto (-25), 3) := by decide +kernel
theorem dX3_countDisputed_32 : decode cX3_countDisputed 32 = .ok (.iload_n 1, 1) := by decide +kernel
theorem dX3_countDisputed_33 : decode cX3_countDisputed 33 = .ok (.ireturn, 1) := by decide +kernel
theorem dX3_isDisputed_0 : decode cX3_isDisputed 0 = .ok (.iconst (-1), 1) := by decide +kernel
theorem dX3_isDisputed_1 : decode cX3_isDisputed 1 = .ok (.istore_n 2, 1) := by decide +kernel
theorem dX3_isDisputed_2 : decode cX3_isDisputed 2 = .ok (.iconst 0, 1) := by decide +kernel
theorem dX3_isDisputed_3 : decode cX3_isDisputed 3 = .ok (.istore_n 3, 1) := by decide +kernel
theorem dX3_isDisputed_4 : decode cX3_isDisputed 4 = .ok (.iload_n 3, 1) := by decide +kernel
theorem dX3_isDisputed_5 : decode cX3_isDisputed 5 = .ok (.aload_n 0, 1) := by decide +kernel
theorem dX3_isDisputed_6 : decode cX3_isDisputed 6 = .ok (.getfield 19, 3) := by decide +kernel
theorem dX3_isDisputed_9 : decode cX3_isDisputed 9 = .ok (.invokevirtual 179, 3) := by decide +kernel
theorem dX3_isDisputed_12 : decode cX3_isDisputed 12 = .ok (.if_icmp .ge 66, 3) := by decide +kernel
theorem dX3_isDisputed_15 : decode cX3_isDisputed 15 = .ok (.aload_n 0, 1) := by decide +kernel
theorem dX3_isDisputed_16 : decode cX3_isDisputed 16 = .ok (.getfield 19, 3) := by decide +kernel
theorem dX3_isDisputed_19 : decode cX3_isDisputed 19 = .ok (.iload_n 3, 1) := by decide +kernel
theorem dX3_isDisputed_20 : decode cX3_isDisputed 20 = .ok (.invokevirtual 105, 3) := by decide +kernel
theorem dX3_isDisputed_23 : decode cX3_isDisputed 23 = .ok (.ifCond .eq 19, 3) := by decide +kernel
theorem dX3_isDisputed_26 : decode cX3_isDisputed 26 = .ok (.aload_n 0, 1) := by decide +kernel
theorem dX3_isDisputed_27 : decode cX3_isDisputed 27 = .ok (.getfield 19, 3) := by decide +kernel
theorem dX3_isDisputed_30 : decode cX3_isDisputed 30 = .ok (.iload_n 3, 1) := by decide +kernel
theorem dX3_isDisputed_31 : decode cX3_isDisputed 31 = .ok (.aload_n 0, 1) := by decide +kernel
theorem dX3_isDisputed_32 : decode cX3_isDisputed 32 = .ok (.getfield 10, 3) := by decide +kernel
theorem dX3_isDisputed_35 : decode cX3_isDisputed 35 = .ok (.iload_n 1, 1) := by decide +kernel
theorem dX3_isDisputed_36 : decode cX3_isDisputed 36 = .ok (.invokevirtual 125, 3) := by decide +kernel
theorem dX3_isDisputed_39 : decode cX3_isDisputed 39 = .ok (.goto 4, 3) := by decide +kernel
theorem dX3_isDisputed_42 : decode cX3_isDisputed 42 = .ok (.iconst (-1), 1) := by decide +kernel
theorem dX3_isDisputed_43 : decode cX3_isDisputed 43 = .ok (.istore 4, 2) := by decide +kernel
theorem dX3_isDisputed_45 : decode cX3_isDisputed 45 = .ok (.iload 4, 2) := by decide +kernel
theorem dX3_isDisputed_47 : decode cX3_isDisputed 47 = .ok (.invokestatic 68, 3) := by decide +kernel
theorem dX3_isDisputed_50 : decode cX3_isDisputed 50 = .ok (.ifCond .ne 6, 3) := by decide +kernel
theorem dX3_isDisputed_53 : decode cX3_isDisputed 53 = .ok (.goto 19, 3) := by decide +kernel
theorem dX3_isDisputed_56 : decode cX3_isDisputed 56 = .ok (.iload_n 2, 1) := by decide +kernel
theorem dX3_isDisputed_57 : decode cX3_isDisputed 57 = .ok (.iconst (-1), 1) := by decide +kernel
theorem dX3_isDisputed_58 : decode cX3_isDisputed 58 = .ok (.if_icmp .eq 11, 3) := by decide +kernel
theorem dX3_isDisputed_61 : decode cX3_isDisputed 61 = .ok (.iload 4, 2) := by decide +kernel
theorem dX3_isDisputed_63 : decode cX3_isDisputed 63 = .ok (.iload_n 2, 1) := by decide +kernel
theorem dX3_isDisputed_64 : decode cX3_isDisputed 64 = .ok (.if_icmp .eq 5, 3) := by decide +kernel
theorem dX3_isDisputed_67 : decode cX3_isDisputed 67 = .ok (.iconst 1, 1) := by decide +kernel
theorem dX3_isDisputed_68 : decode cX3_isDisputed 68 = .ok (.ireturn, 1) := by decide +kernel
theorem dX3_isDisputed_69 : decode cX3_isDisputed 69 = .ok (.iload 4, 2) := by decide +kernel
theorem dX3_isDisputed_71 : decode cX3_isDisputed 71 = .ok (.istore_n 2, 1) := by decide +kernel
theorem dX3_isDisputed_72 : decode cX3_isDisputed 72 = .ok (.iinc 3 1, 3) := by decide +kernel
theorem dX3_isDisputed_75 : decode cX3_isDisputed 75 = .ok (.goto (-71), 3) := by decide +kernel
theorem dX3_isDisputed_78 : decode cX3_isDisputed 78 = .ok (.iconst 0, 1) := by decide +kernel
theorem dX3_isDisputed_79 : decode cX3_isDisputed 79 = .ok (.ireturn, 1) := by decide +kernel
theorem dX4_thrown_0 : decode cX4_thrown 0 = .ok (.aload_n 0, 1) := by decide +kernel
theorem dX4_thrown_1 : decode cX4_thrown 1 = .ok (.getfield 1, 3) := by decide +kernel
theorem dX4_thrown_4 : decode cX4_thrown 4 = .ok (.ireturn, 1) := by decide +kernel
theorem dX4_init_0 : decode cX4_init 0 = .ok (.aload_n 0, 1) := by decide +kernel
theorem dX4_init_1 : decode cX4_init 1 = .ok (.invokespecial 7, 3) := by decide +kernel
theorem dX4_init_4 : decode cX4_init 4 = .ok (.aload_n 0, 1) := by decide +kernel
theorem dX4_init_5 : decode cX4_init 5 = .ok (.sipush 160, 3) := by decide +kernel
theorem dX4_init_8 : decode cX4_init 8 = .ok (.newarray .int, 2) := by decide +kernel
theorem dX4_init_10 : decode cX4_init 10 = .ok (.putfield 13, 3) := by decide +kernel
theorem dX4_init_13 : decode cX4_init 13 = .ok (.aload_n 0, 1) := by decide +kernel
theorem dX4_init_14 : decode cX4_init 14 = .ok (.sipush 320, 3) := by decide +kernel
theorem dX4_init_17 : decode cX4_init 17 = .ok (.newarray .int, 2) := by decide +kernel
theorem dX4_init_19 : decode cX4_init 19 = .ok (.putfield 17, 3) := by decide +kernel
theorem dX4_init_22 : decode cX4_init 22 = .ok (.aload_n 0, 1) := by decide +kernel
theorem dX4_init_23 : decode cX4_init 23 = .ok (.bipush 40, 2) := by decide +kernel
theorem dX4_init_25 : decode cX4_init 25 = .ok (.newarray .int, 2) := by decide +kernel
theorem dX4_init_27 : decode cX4_init 27 = .ok (.putfield 20, 3) := by decide +kernel
theorem dX4_init_30 : decode cX4_init 30 = .ok (.aload_n 0, 1) := by decide +kernel
theorem dX4_init_31 : decode cX4_init 31 = .ok (.iconst 3, 1) := by decide +kernel
theorem dX4_init_32 : decode cX4_init 32 = .ok (.putfield 23, 3) := by decide +kernel
theorem dX4_init_35 : decode cX4_init 35 = .ok (.aload_n 0, 1) := by decide +kernel
theorem dX4_init_36 : decode cX4_init 36 = .ok (.bipush 8, 2) := by decide +kernel
theorem dX4_init_38 : decode cX4_init 38 = .ok (.newarray .boolean, 2) := by decide +kernel
theorem dX4_init_40 : decode cX4_init 40 = .ok (.putfield 26, 3) := by decide +kernel
theorem dX4_init_43 : decode cX4_init 43 = .ok (.aload_n 0, 1) := by decide +kernel
theorem dX4_init_44 : decode cX4_init 44 = .ok (.bipush 8, 2) := by decide +kernel
theorem dX4_init_46 : decode cX4_init 46 = .ok (.newarray .int, 2) := by decide +kernel
theorem dX4_init_48 : decode cX4_init 48 = .ok (.dup, 1) := by decide +kernel
theorem dX4_init_49 : decode cX4_init 49 = .ok (.iconst 0, 1) := by decide +kernel
theorem dX4_init_50 : decode cX4_init 50 = .ok (.bipush 10, 2) := by decide +kernel
theorem dX4_init_52 : decode cX4_init 52 = .ok (.iastore, 1) := by decide +kernel
theorem dX4_init_53 : decode cX4_init 53 = .ok (.dup, 1) := by decide +kernel
theorem dX4_init_54 : decode cX4_init 54 = .ok (.iconst 1, 1) := by decide +kernel
theorem dX4_init_55 : decode cX4_init 55 = .ok (.bipush 10, 2) := by decide +kernel
theorem dX4_init_57 : decode cX4_init 57 = .ok (.iastore, 1) := by decide +kernel
theorem dX4_init_58 : decode cX4_init 58 = .ok (.dup, 1) := by decide +kernel
theorem dX4_init_59 : decode cX4_init 59 = .ok (.iconst 2, 1) := by decide +kernel
theorem dX4_init_60 : decode cX4_init 60 = .ok (.bipush 10, 2) := by decide +kernel
theorem dX4_init_62 : decode cX4_init 62 = .ok (.iastore, 1) := by decide +kernel
theorem dX4_init_63 : decode cX4_init 63 = .ok (.dup, 1) := by decide +kernel
theorem dX4_init_64 : decode cX4_init 64 = .ok (.iconst 3, 1) := by decide +kernel
theorem dX4_init_65 : decode cX4_init 65 = .ok (.bipush 10, 2) := by decide +kernel
theorem dX4_init_67 : decode cX4_init 67 = .ok (.iastore, 1) := by decide +kernel
theorem dX4_init_68 : decode cX4_init 68 = .ok (.dup, 1) := by decide +kernel
theorem dX4_init_69 : decode cX4_init 69 = .ok (.iconst 4, 1) := by decide +kernel
theorem dX4_init_70 : decode cX4_init 70 = .ok (.bipush 10, 2) := by decide +kernel
theorem dX4_init_72 : decode cX4_init 72 = .ok (.iastore, 1) := by decide +kernel
theorem dX4_init_73 : decode cX4_init 73 = .ok (.dup, 1) := by decide +kernel
theorem dX4_init_74 : decode cX4_init 74 = .ok (.iconst 5, 1) := by decide +kernel
theorem dX4_init_75 : decode cX4_init 75 = .ok (.bipush 10, 2) := by decide +kernel
theorem dX4_init_77 : decode cX4_init 77 = .ok (.iastore, 1) := by decide +kernel
theorem dX4_init_78 : decode cX4_init 78 = .ok (.dup, 1) := by decide +kernel
theorem dX4_init_79 : decode cX4_init 79 = .ok (.bipush 6, 2) := by decide +kernel
theorem dX4_init_81 : decode cX4_init 81 = .ok (.bipush 10, 2) := by decide +kernel
theorem dX4_init_83 : decode cX4_init 83 = .ok (.iastore, 1) := by decide +kernel
theorem dX4_init_84 : decode cX4_init 84 = .ok (.dup, 1) := by decide +kernel
theorem dX4_init_85 : decode cX4_init 85 = .ok (.bipush 7, 2) := by decide +kernel
theorem dX4_init_87 : decode cX4_init 87 = .ok (.bipush 10, 2) := by decide +kernel
theorem dX4_init_89 : decode cX4_init 89 = .ok (.iastore, 1) := by decide +kernel
theorem dX4_init_90 : decode cX4_init 90 = .ok (.putfield 30, 3) := by decide +kernel
theorem dX4_init_93 : decode cX4_init 93 = .ok (.aload_n 0, 1) := by decide +kernel
theorem dX4_init_94 : decode cX4_init 94 = .ok (.bipush 8, 2) := by decide +kernel
theorem dX4_init_96 : decode cX4_init 96 = .ok (.newarray .int, 2) := by decide +kernel
theorem dX4_init_98 : decode cX4_init 98 = .ok (.putfield 33, 3) := by decide +kernel
theorem dX4_init_101 : decode cX4_init 101 = .ok (.aload_n 0, 1) := by decide +kernel
theorem dX4_init_102 : decode cX4_init 102 = .ok (.bipush 6, 2) := by decide +kernel
theorem dX4_init_104 : decode cX4_init 104 = .ok (.newarray .int, 2) := by decide +kernel
theorem dX4_init_106 : decode cX4_init 106 = .ok (.putfield 36, 3) := by decide +kernel
theorem dX4_init_109 : decode cX4_init 109 = .ok (.aload_n 0, 1) := by decide +kernel
theorem dX4_init_110 : decode cX4_init 110 = .ok (.bipush 6, 2) := by decide +kernel
theorem dX4_init_112 : decode cX4_init 112 = .ok (.newarray .int, 2) := by decide +kernel
theorem dX4_init_114 : decode cX4_init 114 = .ok (.putfield 39, 3) := by decide +kernel
theorem dX4_init_117 : decode cX4_init 117 = .ok (.aload_n 0, 1) := by decide +kernel
theorem dX4_init_118 : decode cX4_init 118 = .ok (.bipush 6, 2) := by decide +kernel
theorem dX4_init_120 : decode cX4_init 120 = .ok (.newarray .int, 2) := by decide +kernel
theorem dX4_init_122 : decode cX4_init 122 = .ok (.putfield 42, 3) := by decide +kernel
theorem dX4_init_125 : decode cX4_init 125 = .ok (.aload_n 0, 1) := by decide +kernel
theorem dX4_init_126 : decode cX4_init 126 = .ok (.bipush 6, 2) := by decide +kernel
theorem dX4_init_128 : decode cX4_init 128 = .ok (.newarray .int, 2) := by decide +kernel
theorem dX4_init_130 : decode cX4_init 130 = .ok (.putfield 45, 3) := by decide +kernel
theorem dX4_init_133 : decode cX4_init 133 = .ok (.aload_n 0, 1) := by decide +kernel
theorem dX4_init_134 : decode cX4_init 134 = .ok (.bipush 6, 2) := by decide +kernel
theorem dX4_init_136 : decode cX4_init 136 = .ok (.newarray .boolean, 2) := by decide +kernel
theorem dX4_init_138 : decode cX4_init 138 = .ok (.putfield 48, 3) := by decide +kernel
theorem dX4_init_141 : decode cX4_init 141 = .ok (.aload_n 0, 1) := by decide +kernel
theorem dX4_init_142 : decode cX4_init 142 = .ok (.bipush 8, 2) := by decide +kernel
theorem dX4_init_144 : decode cX4_init 144 = .ok (.newarray .int, 2) := by decide +kernel
theorem dX4_init_146 : decode cX4_init 146 = .ok (.putfield 51, 3) := by decide +kernel
theorem dX4_init_149 : decode cX4_init 149 = .ok (.aload_n 0, 1) := by decide +kernel
theorem dX4_init_150 : decode cX4_init 150 = .ok (.bipush 40, 2) := by decide +kernel
theorem dX4_init_152 : decode cX4_init 152 = .ok (.newarray .int, 2) := by decide +kernel
theorem dX4_init_154 : decode cX4_init 154 = .ok (.putfield 54, 3) := by decide +kernel
theorem dX4_init_157 : decode cX4_init 157 = .ok (.aload_n 0, 1) := by decide +kernel
theorem dX4_init_158 : decode cX4_init 158 = .ok (.iconst 0, 1) := by decide +kernel
theorem dX4_init_159 : decode cX4_init 159 = .ok (.putfield 1, 3) := by decide +kernel
theorem dX4_init_162 : decode cX4_init 162 = .ok (.return_, 1) := by decide +kernel
theorem dX4_in_0 : decode cX4_in 0 = .ok (.iload_n 0, 1) := by decide +kernel
theorem dX4_in_1 : decode cX4_in 1 = .ok (.iload_n 1, 1) := by decide +kernel
theorem dX4_in_2 : decode cX4_in 2 = .ok (.if_icmp .lt 12, 3) := by decide +kernel
theorem dX4_in_5 : decode cX4_in 5 = .ok (.iload_n 0, 1) := by decide +kernel
theorem dX4_in_6 : decode cX4_in 6 = .ok (.iload_n 2, 1) := by decide +kernel
theorem dX4_in_7 : decode cX4_in 7 = .ok (.if_icmp .gt 7, 3) := by decide +kernel
theorem dX4_in_10 : decode cX4_in 10 = .ok (.iconst 1, 1) := by decide +kernel
theorem dX4_in_11 : decode cX4_in 11 = .ok (.goto 4, 3) := by decide +kernel
theorem dX4_in_14 : decode cX4_in 14 = .ok (.iconst 0, 1) := by decide +kernel
theorem dX4_in_15 : decode cX4_in 15 = .ok (.ireturn, 1) := by decide +kernel
theorem dX4_isRow_0 : decode cX4_isRow 0 = .ok (.iload_n 1, 1) := by decide +kernel
theorem dX4_isRow_1 : decode cX4_isRow 1 = .ok (.iconst 0, 1) := by decide +kernel
theorem dX4_isRow_2 : decode cX4_isRow 2 = .ok (.aload_n 0, 1) := by decide +kernel
theorem dX4_isRow_3 : decode cX4_isRow 3 = .ok (.getfield 57, 3) := by decide +kernel
theorem dX4_isRow_6 : decode cX4_isRow 6 = .ok (.iconst 1, 1) := by decide +kernel
theorem dX4_isRow_7 : decode cX4_isRow 7 = .ok (.isub, 1) := by decide +kernel
theorem dX4_isRow_8 : decode cX4_isRow 8 = .ok (.invokestatic 60, 3) := by decide +kernel
theorem dX4_isRow_11 : decode cX4_isRow 11 = .ok (.ireturn, 1) := by decide +kernel
theorem dX4_isPerson_0 : decode cX4_isPerson 0 = .ok (.iload_n 0, 1) := by decide +kernel
theorem dX4_isPerson_1 : decode cX4_isPerson 1 = .ok (.iconst 0, 1) := by decide +kernel
theorem dX4_isPerson_2 : decode cX4_isPerson 2 = .ok (.bipush 7, 2) := by decide +kernel
theorem dX4_isPerson_4 : decode cX4_isPerson 4 = .ok (.invokestatic 60, 3) := by decide +kernel
theorem dX4_isPerson_7 : decode cX4_isPerson 7 = .ok (.ireturn, 1) := by decide +kernel
theorem dX4_row_0 : decode cX4_row 0 = .ok (.aload_n 0, 1) := by decide +kernel
theorem dX4_row_1 : decode cX4_row 1 = .ok (.getfield 57, 3) := by decide +kernel
theorem dX4_row_4 : decode cX4_row 4 = .ok (.bipush 40, 2) := by decide +kernel
theorem dX4_row_6 : decode cX4_row 6 = .ok (.if_icmp .ne 6, 3) := by decide +kernel
theorem dX4_row_9 : decode cX4_row 9 = .ok (.bipush (-104), 2) := by decide +kernel
theorem dX4_row_11 : decode cX4_row 11 = .ok (.ireturn, 1) := by decide +kernel
theorem dX4_row_12 : decode cX4_row 12 = .ok (.aload_n 0, 1) := by decide +kernel
theorem dX4_row_13 : decode cX4_row 13 = .ok (.getfield 13, 3) := by decide +kernel
theorem dX4_row_16 : decode cX4_row 16 = .ok (.iconst 4, 1) := by decide +kernel
theorem dX4_row_17 : decode cX4_row 17 = .ok (.aload_n 0, 1) := by decide +kernel
theorem dX4_row_18 : decode cX4_row 18 = .ok (.getfield 57, 3) := by decide +kernel
theorem dX4_row_21 : decode cX4_row 21 = .ok (.imul, 1) := by decide +kernel
theorem dX4_row_22 : decode cX4_row 22 = .ok (.iload_n 1, 1) := by decide +kernel
theorem dX4_row_23 : decode cX4_row 23 = .ok (.iastore, 1) := by decide +kernel
theorem dX4_row_24 : decode cX4_row 24 = .ok (.aload_n 0, 1) := by decide +kernel
theorem dX4_row_25 : decode cX4_row 25 = .ok (.getfield 13, 3) := by decide +kernel
theorem dX4_row_28 : decode cX4_row 28 = .ok (.iconst 4, 1) := by decide +kernel
theorem dX4_row_29 : decode cX4_row 29 = .ok (.aload_n 0, 1) := by decide +kernel
theorem dX4_row_30 : decode cX4_row 30 = .ok (.getfield 57, 3) := by decide +kernel
theorem dX4_row_33 : decode cX4_row 33 = .ok (.imul, 1) := by decide +kernel
theorem dX4_row_34 : decode cX4_row 34 = .ok (.iconst 1, 1) := by decide +kernel
theorem dX4_row_35 : decode cX4_row 35 = .ok (.iadd, 1) := by decide +kernel
theorem dX4_row_36 : decode cX4_row 36 = .ok (.iload_n 2, 1) := by decide +kernel
theorem dX4_row_37 : decode cX4_row 37 = .ok (.iastore, 1) := by decide +kernel
theorem dX4_row_38 : decode cX4_row 38 = .ok (.aload_n 0, 1) := by decide +kernel
theorem dX4_row_39 : decode cX4_row 39 = .ok (.getfield 13, 3) := by decide +kernel
theorem dX4_row_42 : decode cX4_row 42 = .ok (.iconst 4, 1) := by decide +kernel
theorem dX4_row_43 : decode cX4_row 43 = .ok (.aload_n 0, 1) := by decide +kernel
theorem dX4_row_44 : decode cX4_row 44 = .ok (.getfield 57, 3) := by decide +kernel
theorem dX4_row_47 : decode cX4_row 47 = .ok (.imul, 1) := by decide +kernel
theorem dX4_row_48 : decode cX4_row 48 = .ok (.iconst 2, 1) := by decide +kernel
theorem dX4_row_49 : decode cX4_row 49 = .ok (.iadd, 1) := by decide +kernel
theorem dX4_row_50 : decode cX4_row 50 = .ok (.iload_n 3, 1) := by decide +kernel
theorem dX4_row_51 : decode cX4_row 51 = .ok (.iastore, 1) := by decide +kernel
theorem dX4_row_52 : decode cX4_row 52 = .ok (.aload_n 0, 1) := by decide +kernel
theorem dX4_row_53 : decode cX4_row 53 = .ok (.getfield 13, 3) := by decide +kernel
theorem dX4_row_56 : decode cX4_row 56 = .ok (.iconst 4, 1) := by decide +kernel
theorem dX4_row_57 : decode cX4_row 57 = .ok (.aload_n 0, 1) := by decide +kernel
theorem dX4_row_58 : decode cX4_row 58 = .ok (.getfield 57, 3) := by decide +kernel
theorem dX4_row_61 : decode cX4_row 61 = .ok (.imul, 1) := by decide +kernel
theorem dX4_row_62 : decode cX4_row 62 = .ok (.iconst 3, 1) := by decide +kernel
theorem dX4_row_63 : decode cX4_row 63 = .ok (.iadd, 1) := by decide +kernel
theorem dX4_row_64 : decode cX4_row 64 = .ok (.iload 4, 2) := by decide +kernel
theorem dX4_row_66 : decode cX4_row 66 = .ok (.iastore, 1) := by decide +kernel
theorem dX4_row_67 : decode cX4_row 67 = .ok (.aload_n 0, 1) := by decide +kernel
theorem dX4_row_68 : decode cX4_row 68 = .ok (.getfield 20, 3) := by decide +kernel
theorem dX4_row_71 : decode cX4_row 71 = .ok (.aload_n 0, 1) := by decide +kernel
theorem dX4_row_72 : decode cX4_row 72 = .ok (.getfield 57, 3) := by decide +kernel
theorem dX4_row_75 : decode cX4_row 75 = .ok (.iconst (-1), 1) := by decide +kernel
theorem dX4_row_76 : decode cX4_row 76 = .ok (.iastore, 1) := by decide +kernel
theorem dX4_row_77 : decode cX4_row 77 = .ok (.aload_n 0, 1) := by decide +kernel
theorem dX4_row_78 : decode cX4_row 78 = .ok (.dup, 1) := by decide +kernel
theorem dX4_row_79 : decode cX4_row 79 = .ok (.getfield 57, 3) := by decide +kernel
theorem dX4_row_82 : decode cX4_row 82 = .ok (.iconst 1, 1) := by decide +kernel
theorem dX4_row_83 : decode cX4_row 83 = .ok (.iadd, 1) := by decide +kernel
theorem dX4_row_84 : decode cX4_row 84 = .ok (.putfield 57, 3) := by decide +kernel
theorem dX4_row_87 : decode cX4_row 87 = .ok (.aload_n 0, 1) := by decide +kernel
theorem dX4_row_88 : decode cX4_row 88 = .ok (.getfield 57, 3) := by decide +kernel
theorem dX4_row_91 : decode cX4_row 91 = .ok (.iconst 1, 1) := by decide +kernel
theorem dX4_row_92 : decode cX4_row 92 = .ok (.isub, 1) := by decide +kernel
theorem dX4_row_93 : decode cX4_row 93 = .ok (.ireturn, 1) := by decide +kernel
theorem dX4_label_0 : decode cX4_label 0 = .ok (.iload_n 1, 1) := by decide +kernel
theorem dX4_label_1 : decode cX4_label 1 = .ok (.invokestatic 64, 3) := by decide +kernel
theorem dX4_label_4 : decode cX4_label 4 = .ok (.ifCond .eq 11, 3) := by decide +kernel
theorem dX4_label_7 : decode cX4_label 7 = .ok (.aload_n 0, 1) := by decide +kernel
theorem dX4_label_8 : decode cX4_label 8 = .ok (.iload_n 2, 1) := by decide +kernel
theorem dX4_label_9 : decode cX4_label 9 = .ok (.invokevirtual 68, 3) := by decide +kernel
theorem dX4_label_12 : decode cX4_label 12 = .ok (.ifCond .ne 6, 3) := by decide +kernel
theorem dX4_label_15 : decode cX4_label 15 = .ok (.bipush (-101), 2) := by decide +kernel
theorem dX4_label_17 : decode cX4_label 17 = .ok (.ireturn, 1) := by decide +kernel
theorem dX4_label_18 : decode cX4_label 18 = .ok (.iload_n 3, 1) := by decide +kernel
theorem dX4_label_19 : decode cX4_label 19 = .ok (.iconst 0, 1) := by decide +kernel
theorem dX4_label_20 : decode cX4_label 20 = .ok (.iconst 4, 1) := by decide +kernel
theorem dX4_label_21 : decode cX4_label 21 = .ok (.invokestatic 60, 3) := by decide +kernel
theorem dX4_label_24 : decode cX4_label 24 = .ok (.ifCond .ne 6, 3) := by decide +kernel
theorem dX4_label_27 : decode cX4_label 27 = .ok (.bipush (-102), 2) := by decide +kernel
theorem dX4_label_29 : decode cX4_label 29 = .ok (.ireturn, 1) := by decide +kernel
theorem dX4_label_30 : decode cX4_label 30 = .ok (.aload_n 0, 1) := by decide +kernel
theorem dX4_label_31 : decode cX4_label 31 = .ok (.getfield 17, 3) := by decide +kernel
theorem dX4_label_34 : decode cX4_label 34 = .ok (.bipush 8, 2) := by decide +kernel
theorem dX4_label_36 : decode cX4_label 36 = .ok (.iload_n 2, 1) := by decide +kernel
theorem dX4_label_37 : decode cX4_label 37 = .ok (.imul, 1) := by decide +kernel
theorem dX4_label_38 : decode cX4_label 38 = .ok (.iload_n 1, 1) := by decide +kernel
theorem dX4_label_39 : decode cX4_label 39 = .ok (.iadd, 1) := by decide +kernel
theorem dX4_label_40 : decode cX4_label 40 = .ok (.iaload, 1) := by decide +kernel
theorem dX4_label_41 : decode cX4_label 41 = .ok (.ifCond .le 5, 3) := by decide +kernel
theorem dX4_label_44 : decode cX4_label 44 = .ok (.iconst 0, 1) := by decide +kernel
theorem dX4_label_45 : decode cX4_label 45 = .ok (.ireturn, 1) := by decide +kernel
theorem dX4_label_46 : decode cX4_label 46 = .ok (.aload_n 0, 1) := by decide +kernel
theorem dX4_label_47 : decode cX4_label 47 = .ok (.getfield 17, 3) := by decide +kernel
theorem dX4_label_50 : decode cX4_label 50 = .ok (.bipush 8, 2) := by decide +kernel
theorem dX4_label_52 : decode cX4_label 52 = .ok (.iload_n 2, 1) := by decide +kernel
theorem dX4_label_53 : decode cX4_label 53 = .ok (.imul, 1) := by decide +kernel
theorem dX4_label_54 : decode cX4_label 54 = .ok (.iload_n 1, 1) := by decide +kernel
theorem dX4_label_55 : decode cX4_label 55 = .ok (.iadd, 1) := by decide +kernel
theorem dX4_label_56 : decode cX4_label 56 = .ok (.iload_n 3, 1) := by decide +kernel
theorem dX4_label_57 : decode cX4_label 57 = .ok (.iconst 1, 1) := by decide +kernel
theorem dX4_label_58 : decode cX4_label 58 = .ok (.iadd, 1) := by decide +kernel
theorem dX4_label_59 : decode cX4_label 59 = .ok (.iastore, 1) := by decide +kernel
theorem dX4_label_60 : decode cX4_label 60 = .ok (.iconst 1, 1) := by decide +kernel
theorem dX4_label_61 : decode cX4_label 61 = .ok (.ireturn, 1) := by decide +kernel
theorem dX4_said_0 : decode cX4_said 0 = .ok (.iload_n 1, 1) := by decide +kernel
theorem dX4_said_1 : decode cX4_said 1 = .ok (.invokestatic 64, 3) := by decide +kernel
theorem dX4_said_4 : decode cX4_said 4 = .ok (.ifCond .eq 11, 3) := by decide +kernel
theorem dX4_said_7 : decode cX4_said 7 = .ok (.aload_n 0, 1) := by decide +kernel
theorem dX4_said_8 : decode cX4_said 8 = .ok (.iload_n 2, 1) := by decide +kernel
theorem dX4_said_9 : decode cX4_said 9 = .ok (.invokevirtual 68, 3) := by decide +kernel
theorem dX4_said_12 : decode cX4_said 12 = .ok (.ifCond .ne 8, 3) := by decide +kernel
theorem dX4_said_15 : decode cX4_said 15 = .ok (.bipush (-101), 2) := by decide +kernel
theorem dX4_said_17 : decode cX4_said 17 = .ok (.goto 16, 3) := by decide +kernel
theorem dX4_said_20 : decode cX4_said 20 = .ok (.aload_n 0, 1) := by decide +kernel
theorem dX4_said_21 : decode cX4_said 21 = .ok (.getfield 17, 3) := by decide +kernel
theorem dX4_said_24 : decode cX4_said 24 = .ok (.bipush 8, 2) := by decide +kernel
theorem dX4_said_26 : decode cX4_said 26 = .ok (.iload_n 2, 1) := by decide +kernel
theorem dX4_said_27 : decode cX4_said 27 = .ok (.imul, 1) := by decide +kernel
theorem dX4_said_28 : decode cX4_said 28 = .ok (.iload_n 1, 1) := by decide +kernel
theorem dX4_said_29 : decode cX4_said 29 = .ok (.iadd, 1) := by decide +kernel
theorem dX4_said_30 : decode cX4_said 30 = .ok (.iaload, 1) := by decide +kernel
theorem dX4_said_31 : decode cX4_said 31 = .ok (.iconst 1, 1) := by decide +kernel
theorem dX4_said_32 : decode cX4_said 32 = .ok (.isub, 1) := by decide +kernel
theorem dX4_said_33 : decode cX4_said 33 = .ok (.ireturn, 1) := by decide +kernel
theorem dX4_gold_0 : decode cX4_gold 0 = .ok (.aload_n 0, 1) := by decide +kernel
theorem dX4_gold_1 : decode cX4_gold 1 = .ok (.iload_n 1, 1) := by decide +kernel
theorem dX4_gold_2 : decode cX4_gold 2 = .ok (.invokevirtual 68, 3) := by decide +kernel
theorem dX4_gold_5 : decode cX4_gold 5 = .ok (.ifCond .ne 6, 3) := by decide +kernel
theorem dX4_gold_8 : decode cX4_gold 8 = .ok (.bipush (-101), 2) := by decide +kernel
theorem dX4_gold_10 : decode cX4_gold 10 = .ok (.ireturn, 1) := by decide +kernel
theorem dX4_gold_11 : decode cX4_gold 11 = .ok (.iload_n 2, 1) := by decide +kernel
theorem dX4_gold_12 : decode cX4_gold 12 = .ok (.iconst (-1), 1) := by decide +kernel
theorem dX4_gold_13 : decode cX4_gold 13 = .ok (.iconst 4, 1) := by decide +kernel
theorem dX4_gold_14 : decode cX4_gold 14 = .ok (.invokestatic 60, 3) := by decide +kernel
theorem dX4_gold_17 : decode cX4_gold 17 = .ok (.ifCond .ne 6, 3) := by decide +kernel
theorem dX4_gold_20 : decode cX4_gold 20 = .ok (.bipush (-102), 2) := by decide +kernel
theorem dX4_gold_22 : decode cX4_gold 22 = .ok (.ireturn, 1) := by decide +kernel
theorem dX4_gold_23 : decode cX4_gold 23 = .ok (.aload_n 0, 1) := by decide +kernel
theorem dX4_gold_24 : decode cX4_gold 24 = .ok (.getfield 20, 3) := by decide +kernel
theorem dX4_gold_27 : decode cX4_gold 27 = .ok (.iload_n 1, 1) := by decide +kernel
theorem dX4_gold_28 : decode cX4_gold 28 = .ok (.iaload, 1) := by decide +kernel
theorem dX4_gold_29 : decode cX4_gold 29 = .ok (.istore_n 3, 1) := by decide +kernel
theorem dX4_gold_30 : decode cX4_gold 30 = .ok (.aload_n 0, 1) := by decide +kernel
theorem dX4_gold_31 : decode cX4_gold 31 = .ok (.getfield 20, 3) := by decide +kernel
theorem dX4_gold_34 : decode cX4_gold 34 = .ok (.iload_n 1, 1) := by decide +kernel
theorem dX4_gold_35 : decode cX4_gold 35 = .ok (.iload_n 2, 1) := by decide +kernel
theorem dX4_gold_36 : decode cX4_gold 36 = .ok (.iastore, 1) := by decide +kernel
theorem dX4_gold_37 : decode cX4_gold 37 = .ok (.iload_n 3, 1) := by decide +kernel
theorem dX4_gold_38 : decode cX4_gold 38 = .ok (.ireturn, 1) := by decide +kernel
theorem dX4_bound_0 : decode cX4_bound 0 = .ok (.iload_n 1, 1) := by decide +kernel
theorem dX4_bound_1 : decode cX4_bound 1 = .ok (.iconst 1, 1) := by decide +kernel
theorem dX4_bound_2 : decode cX4_bound 2 = .ok (.bipush 9, 2) := by decide +kernel
theorem dX4_bound_4 : decode cX4_bound 4 = .ok (.invokestatic 60, 3) := by decide +kernel
theorem dX4_bound_7 : decode cX4_bound 7 = .ok (.ifCond .ne 6, 3) := by decide +kernel
theorem dX4_bound_10 : decode cX4_bound 10 = .ok (.bipush (-102), 2) := by decide +kernel
theorem dX4_bound_12 : decode cX4_bound 12 = .ok (.ireturn, 1) := by decide +kernel
theorem dX4_bound_13 : decode cX4_bound 13 = .ok (.aload_n 0, 1) := by decide +kernel
theorem dX4_bound_14 : decode cX4_bound 14 = .ok (.getfield 23, 3) := by decide +kernel
theorem dX4_bound_17 : decode cX4_bound 17 = .ok (.istore_n 2, 1) := by decide +kernel
theorem dX4_bound_18 : decode cX4_bound 18 = .ok (.aload_n 0, 1) := by decide +kernel
theorem dX4_bound_19 : decode cX4_bound 19 = .ok (.iload_n 1, 1) := by decide +kernel
theorem dX4_bound_20 : decode cX4_bound 20 = .ok (.putfield 23, 3) := by decide +kernel
theorem dX4_bound_23 : decode cX4_bound 23 = .ok (.iload_n 2, 1) := by decide +kernel
theorem dX4_bound_24 : decode cX4_bound 24 = .ok (.ireturn, 1) := by decide +kernel
theorem dX4_expert_0 : decode cX4_expert 0 = .ok (.iload_n 1, 1) := by decide +kernel
theorem dX4_expert_1 : decode cX4_expert 1 = .ok (.invokestatic 64, 3) := by decide +kernel
theorem dX4_expert_4 : decode cX4_expert 4 = .ok (.ifCond .ne 6, 3) := by decide +kernel
theorem dX4_expert_7 : decode cX4_expert 7 = .ok (.bipush (-101), 2) := by decide +kernel
theorem dX4_expert_9 : decode cX4_expert 9 = .ok (.ireturn, 1) := by decide +kernel
theorem dX4_expert_10 : decode cX4_expert 10 = .ok (.aload_n 0, 1) := by decide +kernel
theorem dX4_expert_11 : decode cX4_expert 11 = .ok (.getfield 26, 3) := by decide +kernel
theorem dX4_expert_14 : decode cX4_expert 14 = .ok (.iload_n 1, 1) := by decide +kernel
theorem dX4_expert_15 : decode cX4_expert 15 = .ok (.baload, 1) := by decide +kernel
theorem dX4_expert_16 : decode cX4_expert 16 = .ok (.istore_n 3, 1) := by decide +kernel
theorem dX4_expert_17 : decode cX4_expert 17 = .ok (.aload_n 0, 1) := by decide +kernel
theorem dX4_expert_18 : decode cX4_expert 18 = .ok (.getfield 26, 3) := by decide +kernel
theorem dX4_expert_21 : decode cX4_expert 21 = .ok (.iload_n 1, 1) := by decide +kernel
theorem dX4_expert_22 : decode cX4_expert 22 = .ok (.iload_n 2, 1) := by decide +kernel
theorem dX4_expert_23 : decode cX4_expert 23 = .ok (.bastore, 1) := by decide +kernel
theorem dX4_expert_24 : decode cX4_expert 24 = .ok (.iload_n 3, 1) := by decide +kernel
theorem dX4_expert_25 : decode cX4_expert 25 = .ok (.iload_n 2, 1) := by decide +kernel
theorem dX4_expert_26 : decode cX4_expert 26 = .ok (.if_icmp .eq 7, 3) := by decide +kernel
theorem dX4_expert_29 : decode cX4_expert 29 = .ok (.iconst 1, 1) := by decide +kernel
theorem dX4_expert_30 : decode cX4_expert 30 = .ok (.goto 4, 3) := by decide +kernel
theorem dX4_expert_33 : decode cX4_expert 33 = .ok (.iconst 0, 1) := by decide +kernel
theorem dX4_expert_34 : decode cX4_expert 34 = .ok (.ireturn, 1) := by decide +kernel
theorem dX4_wrong_0 : decode cX4_wrong 0 = .ok (.iconst 0, 1) := by decide +kernel
theorem dX4_wrong_1 : decode cX4_wrong 1 = .ok (.istore_n 2, 1) := by decide +kernel
theorem dX4_wrong_2 : decode cX4_wrong 2 = .ok (.iconst 0, 1) := by decide +kernel
theorem dX4_wrong_3 : decode cX4_wrong 3 = .ok (.istore_n 3, 1) := by decide +kernel
theorem dX4_wrong_4 : decode cX4_wrong 4 = .ok (.iload_n 3, 1) := by decide +kernel
theorem dX4_wrong_5 : decode cX4_wrong 5 = .ok (.aload_n 0, 1) := by decide +kernel
theorem dX4_wrong_6 : decode cX4_wrong 6 = .ok (.getfield 57, 3) := by decide +kernel
theorem dX4_wrong_9 : decode cX4_wrong 9 = .ok (.if_icmp .ge 63, 3) := by decide +kernel
theorem dX4_wrong_12 : decode cX4_wrong 12 = .ok (.iload_n 2, 1) := by decide +kernel
theorem dX4_wrong_13 : decode cX4_wrong 13 = .ok (.aload_n 0, 1) := by decide +kernel
theorem dX4_wrong_14 : decode cX4_wrong 14 = .ok (.getfield 20, 3) := by decide +kernel
theorem dX4_wrong_17 : decode cX4_wrong 17 = .ok (.iload_n 3, 1) := by decide +kernel
theorem dX4_wrong_18 : decode cX4_wrong 18 = .ok (.iaload, 1) := by decide +kernel
theorem dX4_wrong_19 : decode cX4_wrong 19 = .ok (.iconst (-1), 1) := by decide +kernel
theorem dX4_wrong_20 : decode cX4_wrong 20 = .ok (.if_icmp .eq 43, 3) := by decide +kernel
theorem dX4_wrong_23 : decode cX4_wrong 23 = .ok (.aload_n 0, 1) := by decide +kernel
theorem dX4_wrong_24 : decode cX4_wrong 24 = .ok (.getfield 17, 3) := by decide +kernel
theorem dX4_wrong_27 : decode cX4_wrong 27 = .ok (.bipush 8, 2) := by decide +kernel
theorem dX4_wrong_29 : decode cX4_wrong 29 = .ok (.iload_n 3, 1) := by decide +kernel
theorem dX4_wrong_30 : decode cX4_wrong 30 = .ok (.imul, 1) := by decide +kernel
theorem dX4_wrong_31 : decode cX4_wrong 31 = .ok (.iload_n 1, 1) := by decide +kernel
theorem dX4_wrong_32 : decode cX4_wrong 32 = .ok (.iadd, 1) := by decide +kernel
theorem dX4_wrong_33 : decode cX4_wrong 33 = .ok (.iaload, 1) := by decide +kernel
theorem dX4_wrong_34 : decode cX4_wrong 34 = .ok (.ifCond .le 29, 3) := by decide +kernel
theorem dX4_wrong_37 : decode cX4_wrong 37 = .ok (.aload_n 0, 1) := by decide +kernel
theorem dX4_wrong_38 : decode cX4_wrong 38 = .ok (.getfield 17, 3) := by decide +kernel
theorem dX4_wrong_41 : decode cX4_wrong 41 = .ok (.bipush 8, 2) := by decide +kernel
theorem dX4_wrong_43 : decode cX4_wrong 43 = .ok (.iload_n 3, 1) := by decide +kernel
theorem dX4_wrong_44 : decode cX4_wrong 44 = .ok (.imul, 1) := by decide +kernel
theorem dX4_wrong_45 : decode cX4_wrong 45 = .ok (.iload_n 1, 1) := by decide +kernel
theorem dX4_wrong_46 : decode cX4_wrong 46 = .ok (.iadd, 1) := by decide +kernel
theorem dX4_wrong_47 : decode cX4_wrong 47 = .ok (.iaload, 1) := by decide +kernel
theorem dX4_wrong_48 : decode cX4_wrong 48 = .ok (.iconst 1, 1) := by decide +kernel
theorem dX4_wrong_49 : decode cX4_wrong 49 = .ok (.isub, 1) := by decide +kernel
theorem dX4_wrong_50 : decode cX4_wrong 50 = .ok (.aload_n 0, 1) := by decide +kernel
theorem dX4_wrong_51 : decode cX4_wrong 51 = .ok (.getfield 20, 3) := by decide +kernel
theorem dX4_wrong_54 : decode cX4_wrong 54 = .ok (.iload_n 3, 1) := by decide +kernel
theorem dX4_wrong_55 : decode cX4_wrong 55 = .ok (.iaload, 1) := by decide +kernel
theorem dX4_wrong_56 : decode cX4_wrong 56 = .ok (.if_icmp .eq 7, 3) := by decide +kernel
theorem dX4_wrong_59 : decode cX4_wrong 59 = .ok (.iconst 1, 1) := by decide +kernel
theorem dX4_wrong_60 : decode cX4_wrong 60 = .ok (.goto 4, 3) := by decide +kernel
theorem dX4_wrong_63 : decode cX4_wrong 63 = .ok (.iconst 0, 1) := by decide +kernel
theorem dX4_wrong_64 : decode cX4_wrong 64 = .ok (.iadd, 1) := by decide +kernel
theorem dX4_wrong_65 : decode cX4_wrong 65 = .ok (.istore_n 2, 1) := by decide +kernel
theorem dX4_wrong_66 : decode cX4_wrong 66 = .ok (.iinc 3 1, 3) := by decide +kernel
theorem dX4_wrong_69 : decode cX4_wrong 69 = .ok (.goto (-65), 3) := by decide +kernel
theorem dX4_wrong_72 : decode cX4_wrong 72 = .ok (.iload_n 2, 1) := by decide +kernel
theorem dX4_wrong_73 : decode cX4_wrong 73 = .ok (.ireturn, 1) := by decide +kernel
theorem dX4_isBarred_0 : decode cX4_isBarred 0 = .ok (.aload_n 0, 1) := by decide +kernel
theorem dX4_isBarred_1 : decode cX4_isBarred 1 = .ok (.iload_n 1, 1) := by decide +kernel
theorem dX4_isBarred_2 : decode cX4_isBarred 2 = .ok (.invokevirtual 71, 3) := by decide +kernel
theorem dX4_isBarred_5 : decode cX4_isBarred 5 = .ok (.aload_n 0, 1) := by decide +kernel
theorem dX4_isBarred_6 : decode cX4_isBarred 6 = .ok (.getfield 23, 3) := by decide +kernel
theorem dX4_isBarred_9 : decode cX4_isBarred 9 = .ok (.if_icmp .lt 7, 3) := by decide +kernel
theorem dX4_isBarred_12 : decode cX4_isBarred 12 = .ok (.iconst 1, 1) := by decide +kernel
theorem dX4_isBarred_13 : decode cX4_isBarred 13 = .ok (.goto 4, 3) := by decide +kernel
theorem dX4_isBarred_16 : decode cX4_isBarred 16 = .ok (.iconst 0, 1) := by decide +kernel
theorem dX4_isBarred_17 : decode cX4_isBarred 17 = .ok (.ireturn, 1) := by decide +kernel
theorem dX4_labelled_0 : decode cX4_labelled 0 = .ok (.iconst 0, 1) := by decide +kernel
theorem dX4_labelled_1 : decode cX4_labelled 1 = .ok (.istore_n 2, 1) := by decide +kernel
theorem dX4_labelled_2 : decode cX4_labelled 2 = .ok (.iconst 0, 1) := by decide +kernel
theorem dX4_labelled_3 : decode cX4_labelled 3 = .ok (.istore_n 3, 1) := by decide +kernel
theorem dX4_labelled_4 : decode cX4_labelled 4 = .ok (.iload_n 3, 1) := by decide +kernel
theorem dX4_labelled_5 : decode cX4_labelled 5 = .ok (.aload_n 0, 1) := by decide +kernel
theorem dX4_labelled_6 : decode cX4_labelled 6 = .ok (.getfield 57, 3) := by decide +kernel
theorem dX4_labelled_9 : decode cX4_labelled 9 = .ok (.if_icmp .ge 31, 3) := by decide +kernel
theorem dX4_labelled_12 : decode cX4_labelled 12 = .ok (.iload_n 2, 1) := by decide +kernel
theorem dX4_labelled_13 : decode cX4_labelled 13 = .ok (.aload_n 0, 1) := by decide +kernel
theorem dX4_labelled_14 : decode cX4_labelled 14 = .ok (.getfield 17, 3) := by decide +kernel
theorem dX4_labelled_17 : decode cX4_labelled 17 = .ok (.bipush 8, 2) := by decide +kernel
theorem dX4_labelled_19 : decode cX4_labelled 19 = .ok (.iload_n 3, 1) := by decide +kernel
theorem dX4_labelled_20 : decode cX4_labelled 20 = .ok (.imul, 1) := by decide +kernel
theorem dX4_labelled_21 : decode cX4_labelled 21 = .ok (.iload_n 1, 1) := by decide +kernel
theorem dX4_labelled_22 : decode cX4_labelled 22 = .ok (.iadd, 1) := by decide +kernel
theorem dX4_labelled_23 : decode cX4_labelled 23 = .ok (.iaload, 1) := by decide +kernel
theorem dX4_labelled_24 : decode cX4_labelled 24 = .ok (.ifCond .le 7, 3) := by decide +kernel
theorem dX4_labelled_27 : decode cX4_labelled 27 = .ok (.iconst 1, 1) := by decide +kernel
theorem dX4_labelled_28 : decode cX4_labelled 28 = .ok (.goto 4, 3) := by decide +kernel
theorem dX4_labelled_31 : decode cX4_labelled 31 = .ok (.iconst 0, 1) := by decide +kernel
theorem dX4_labelled_32 : decode cX4_labelled 32 = .ok (.iadd, 1) := by decide +kernel
theorem dX4_labelled_33 : decode cX4_labelled 33 = .ok (.istore_n 2, 1) := by decide +kernel
theorem dX4_labelled_34 : decode cX4_labelled 34 = .ok (.iinc 3 1, 3) := by decide +kernel
theorem dX4_labelled_37 : decode cX4_labelled 37 = .ok (.goto (-33), 3) := by decide +kernel
theorem dX4_labelled_40 : decode cX4_labelled 40 = .ok (.iload_n 2, 1) := by decide +kernel
theorem dX4_labelled_41 : decode cX4_labelled 41 = .ok (.ireturn, 1) := by decide +kernel
theorem dX4_person_0 : decode cX4_person 0 = .ok (.iload_n 1, 1) := by decide +kernel
theorem dX4_person_1 : decode cX4_person 1 = .ok (.invokestatic 64, 3) := by decide +kernel
theorem dX4_person_4 : decode cX4_person 4 = .ok (.ifCond .ne 6, 3) := by decide +kernel
theorem dX4_person_7 : decode cX4_person 7 = .ok (.bipush (-101), 2) := by decide +kernel
theorem dX4_person_9 : decode cX4_person 9 = .ok (.ireturn, 1) := by decide +kernel
theorem dX4_person_10 : decode cX4_person 10 = .ok (.iload_n 2, 1) := by decide +kernel
theorem dX4_person_11 : decode cX4_person 11 = .ok (.tableswitch 62 0 3 #[29, 36, 42, 56], 29) := by decide +kernel
theorem dX4_person_40 : decode cX4_person 40 = .ok (.aload_n 0, 1) := by decide +kernel
theorem dX4_person_41 : decode cX4_person 41 = .ok (.getfield 30, 3) := by decide +kernel
theorem dX4_person_44 : decode cX4_person 44 = .ok (.iload_n 1, 1) := by decide +kernel
theorem dX4_person_45 : decode cX4_person 45 = .ok (.iaload, 1) := by decide +kernel
theorem dX4_person_46 : decode cX4_person 46 = .ok (.ireturn, 1) := by decide +kernel
theorem dX4_person_47 : decode cX4_person 47 = .ok (.aload_n 0, 1) := by decide +kernel
theorem dX4_person_48 : decode cX4_person 48 = .ok (.iload_n 1, 1) := by decide +kernel
theorem dX4_person_49 : decode cX4_person 49 = .ok (.invokevirtual 71, 3) := by decide +kernel
theorem dX4_person_52 : decode cX4_person 52 = .ok (.ireturn, 1) := by decide +kernel
theorem dX4_person_53 : decode cX4_person 53 = .ok (.aload_n 0, 1) := by decide +kernel
theorem dX4_person_54 : decode cX4_person 54 = .ok (.iload_n 1, 1) := by decide +kernel
theorem dX4_person_55 : decode cX4_person 55 = .ok (.invokevirtual 75, 3) := by decide +kernel
theorem dX4_person_58 : decode cX4_person 58 = .ok (.ifCond .eq 7, 3) := by decide +kernel
theorem dX4_person_61 : decode cX4_person 61 = .ok (.iconst 1, 1) := by decide +kernel
theorem dX4_person_62 : decode cX4_person 62 = .ok (.goto 4, 3) := by decide +kernel
theorem dX4_person_65 : decode cX4_person 65 = .ok (.iconst 0, 1) := by decide +kernel
theorem dX4_person_66 : decode cX4_person 66 = .ok (.ireturn, 1) := by decide +kernel
theorem dX4_person_67 : decode cX4_person 67 = .ok (.aload_n 0, 1) := by decide +kernel
theorem dX4_person_68 : decode cX4_person 68 = .ok (.iload_n 1, 1) := by decide +kernel
theorem dX4_person_69 : decode cX4_person 69 = .ok (.invokevirtual 78, 3) := by decide +kernel
theorem dX4_person_72 : decode cX4_person 72 = .ok (.ireturn, 1) := by decide +kernel
theorem dX4_person_73 : decode cX4_person 73 = .ok (.bipush (-102), 2) := by decide +kernel
theorem dX4_person_75 : decode cX4_person 75 = .ok (.ireturn, 1) := by decide +kernel
theorem dX4_rule_0 : decode cX4_rule 0 = .ok (.iload_n 1, 1) := by decide +kernel
theorem dX4_rule_1 : decode cX4_rule 1 = .ok (.iconst 0, 1) := by decide +kernel
theorem dX4_rule_2 : decode cX4_rule 2 = .ok (.iconst 3, 1) := by decide +kernel
theorem dX4_rule_3 : decode cX4_rule 3 = .ok (.invokestatic 60, 3) := by decide +kernel
theorem dX4_rule_6 : decode cX4_rule 6 = .ok (.ifCond .eq 21, 3) := by decide +kernel
theorem dX4_rule_9 : decode cX4_rule 9 = .ok (.iload_n 2, 1) := by decide +kernel
theorem dX4_rule_10 : decode cX4_rule 10 = .ok (.iconst 0, 1) := by decide +kernel
theorem dX4_rule_11 : decode cX4_rule 11 = .ok (.iconst 3, 1) := by decide +kernel
theorem dX4_rule_12 : decode cX4_rule 12 = .ok (.invokestatic 60, 3) := by decide +kernel
theorem dX4_rule_15 : decode cX4_rule 15 = .ok (.ifCond .eq 12, 3) := by decide +kernel
theorem dX4_rule_18 : decode cX4_rule 18 = .ok (.iload_n 3, 1) := by decide +kernel
theorem dX4_rule_19 : decode cX4_rule 19 = .ok (.iconst 0, 1) := by decide +kernel
theorem dX4_rule_20 : decode cX4_rule 20 = .ok (.iconst 3, 1) := by decide +kernel
theorem dX4_rule_21 : decode cX4_rule 21 = .ok (.invokestatic 60, 3) := by decide +kernel
theorem dX4_rule_24 : decode cX4_rule 24 = .ok (.ifCond .ne 6, 3) := by decide +kernel
theorem dX4_rule_27 : decode cX4_rule 27 = .ok (.bipush (-102), 2) := by decide +kernel
theorem dX4_rule_29 : decode cX4_rule 29 = .ok (.ireturn, 1) := by decide +kernel
theorem dX4_rule_30 : decode cX4_rule 30 = .ok (.aload_n 0, 1) := by decide +kernel
theorem dX4_rule_31 : decode cX4_rule 31 = .ok (.getfield 81, 3) := by decide +kernel
theorem dX4_rule_34 : decode cX4_rule 34 = .ok (.bipush 6, 2) := by decide +kernel
theorem dX4_rule_36 : decode cX4_rule 36 = .ok (.if_icmp .ne 6, 3) := by decide +kernel
theorem dX4_rule_39 : decode cX4_rule 39 = .ok (.bipush (-104), 2) := by decide +kernel
theorem dX4_rule_41 : decode cX4_rule 41 = .ok (.ireturn, 1) := by decide +kernel
theorem dX4_rule_42 : decode cX4_rule 42 = .ok (.aload_n 0, 1) := by decide +kernel
theorem dX4_rule_43 : decode cX4_rule 43 = .ok (.getfield 36, 3) := by decide +kernel
theorem dX4_rule_46 : decode cX4_rule 46 = .ok (.aload_n 0, 1) := by decide +kernel
theorem dX4_rule_47 : decode cX4_rule 47 = .ok (.getfield 81, 3) := by decide +kernel
theorem dX4_rule_50 : decode cX4_rule 50 = .ok (.iload_n 1, 1) := by decide +kernel
theorem dX4_rule_51 : decode cX4_rule 51 = .ok (.iastore, 1) := by decide +kernel
theorem dX4_rule_52 : decode cX4_rule 52 = .ok (.aload_n 0, 1) := by decide +kernel
theorem dX4_rule_53 : decode cX4_rule 53 = .ok (.getfield 39, 3) := by decide +kernel
theorem dX4_rule_56 : decode cX4_rule 56 = .ok (.aload_n 0, 1) := by decide +kernel
theorem dX4_rule_57 : decode cX4_rule 57 = .ok (.getfield 81, 3) := by decide +kernel
theorem dX4_rule_60 : decode cX4_rule 60 = .ok (.iload_n 2, 1) := by decide +kernel
theorem dX4_rule_61 : decode cX4_rule 61 = .ok (.iastore, 1) := by decide +kernel
theorem dX4_rule_62 : decode cX4_rule 62 = .ok (.aload_n 0, 1) := by decide +kernel
theorem dX4_rule_63 : decode cX4_rule 63 = .ok (.getfield 42, 3) := by decide +kernel
theorem dX4_rule_66 : decode cX4_rule 66 = .ok (.aload_n 0, 1) := by decide +kernel
theorem dX4_rule_67 : decode cX4_rule 67 = .ok (.getfield 81, 3) := by decide +kernel
theorem dX4_rule_70 : decode cX4_rule 70 = .ok (.iload_n 3, 1) := by decide +kernel
theorem dX4_rule_71 : decode cX4_rule 71 = .ok (.iastore, 1) := by decide +kernel
theorem dX4_rule_72 : decode cX4_rule 72 = .ok (.aload_n 0, 1) := by decide +kernel
theorem dX4_rule_73 : decode cX4_rule 73 = .ok (.getfield 45, 3) := by decide +kernel
theorem dX4_rule_76 : decode cX4_rule 76 = .ok (.aload_n 0, 1) := by decide +kernel
theorem dX4_rule_77 : decode cX4_rule 77 = .ok (.getfield 81, 3) := by decide +kernel
theorem dX4_rule_80 : decode cX4_rule 80 = .ok (.iload 4, 2) := by decide +kernel
theorem dX4_rule_82 : decode cX4_rule 82 = .ok (.iastore, 1) := by decide +kernel
theorem dX4_rule_83 : decode cX4_rule 83 = .ok (.aload_n 0, 1) := by decide +kernel
theorem dX4_rule_84 : decode cX4_rule 84 = .ok (.getfield 48, 3) := by decide +kernel
theorem dX4_rule_87 : decode cX4_rule 87 = .ok (.aload_n 0, 1) := by decide +kernel
theorem dX4_rule_88 : decode cX4_rule 88 = .ok (.getfield 81, 3) := by decide +kernel
theorem dX4_rule_91 : decode cX4_rule 91 = .ok (.iconst 1, 1) := by decide +kernel
theorem dX4_rule_92 : decode cX4_rule 92 = .ok (.bastore, 1) := by decide +kernel
theorem dX4_rule_93 : decode cX4_rule 93 = .ok (.aload_n 0, 1) := by decide +kernel
theorem dX4_rule_94 : decode cX4_rule 94 = .ok (.dup, 1) := by decide +kernel
theorem dX4_rule_95 : decode cX4_rule 95 = .ok (.getfield 81, 3) := by decide +kernel
theorem dX4_rule_98 : decode cX4_rule 98 = .ok (.iconst 1, 1) := by decide +kernel
theorem dX4_rule_99 : decode cX4_rule 99 = .ok (.iadd, 1) := by decide +kernel
theorem dX4_rule_100 : decode cX4_rule 100 = .ok (.putfield 81, 3) := by decide +kernel
theorem dX4_rule_103 : decode cX4_rule 103 = .ok (.aload_n 0, 1) := by decide +kernel
theorem dX4_rule_104 : decode cX4_rule 104 = .ok (.getfield 81, 3) := by decide +kernel
theorem dX4_rule_107 : decode cX4_rule 107 = .ok (.iconst 1, 1) := by decide +kernel
theorem dX4_rule_108 : decode cX4_rule 108 = .ok (.isub, 1) := by decide +kernel
theorem dX4_rule_109 : decode cX4_rule 109 = .ok (.ireturn, 1) := by decide +kernel
theorem dX4_turn_0 : decode cX4_turn 0 = .ok (.iload_n 1, 1) := by decide +kernel
theorem dX4_turn_1 : decode cX4_turn 1 = .ok (.iconst 0, 1) := by decide +kernel
theorem dX4_turn_2 : decode cX4_turn 2 = .ok (.aload_n 0, 1) := by decide +kernel
theorem dX4_turn_3 : decode cX4_turn 3 = .ok (.getfield 81, 3) := by decide +kernel
theorem dX4_turn_6 : decode cX4_turn 6 = .ok (.iconst 1, 1) := by decide +kernel
theorem dX4_turn_7 : decode cX4_turn 7 = .ok (.isub, 1) := by decide +kernel
theorem dX4_turn_8 : decode cX4_turn 8 = .ok (.invokestatic 60, 3) := by decide +kernel
theorem dX4_turn_11 : decode cX4_turn 11 = .ok (.ifCond .ne 6, 3) := by decide +kernel
theorem dX4_turn_14 : decode cX4_turn 14 = .ok (.bipush (-101), 2) := by decide +kernel
theorem dX4_turn_16 : decode cX4_turn 16 = .ok (.ireturn, 1) := by decide +kernel
theorem dX4_turn_17 : decode cX4_turn 17 = .ok (.aload_n 0, 1) := by decide +kernel
theorem dX4_turn_18 : decode cX4_turn 18 = .ok (.getfield 48, 3) := by decide +kernel
theorem dX4_turn_21 : decode cX4_turn 21 = .ok (.iload_n 1, 1) := by decide +kernel
theorem dX4_turn_22 : decode cX4_turn 22 = .ok (.baload, 1) := by decide +kernel
theorem dX4_turn_23 : decode cX4_turn 23 = .ok (.istore_n 3, 1) := by decide +kernel
theorem dX4_turn_24 : decode cX4_turn 24 = .ok (.aload_n 0, 1) := by decide +kernel
theorem dX4_turn_25 : decode cX4_turn 25 = .ok (.getfield 48, 3) := by decide +kernel
theorem dX4_turn_28 : decode cX4_turn 28 = .ok (.iload_n 1, 1) := by decide +kernel
theorem dX4_turn_29 : decode cX4_turn 29 = .ok (.iload_n 2, 1) := by decide +kernel
theorem dX4_turn_30 : decode cX4_turn 30 = .ok (.bastore, 1) := by decide +kernel
theorem dX4_turn_31 : decode cX4_turn 31 = .ok (.iload_n 3, 1) := by decide +kernel
theorem dX4_turn_32 : decode cX4_turn 32 = .ok (.iload_n 2, 1) := by decide +kernel
theorem dX4_turn_33 : decode cX4_turn 33 = .ok (.if_icmp .eq 7, 3) := by decide +kernel
theorem dX4_turn_36 : decode cX4_turn 36 = .ok (.iconst 1, 1) := by decide +kernel
theorem dX4_turn_37 : decode cX4_turn 37 = .ok (.goto 4, 3) := by decide +kernel
theorem dX4_turn_40 : decode cX4_turn 40 = .ok (.iconst 0, 1) := by decide +kernel
theorem dX4_turn_41 : decode cX4_turn 41 = .ok (.ireturn, 1) := by decide +kernel
theorem dX4_table_0 : decode cX4_table 0 = .ok (.iload_n 1, 1) := by decide +kernel
theorem dX4_table_1 : decode cX4_table 1 = .ok (.iconst 0, 1) := by decide +kernel
theorem dX4_table_2 : decode cX4_table 2 = .ok (.bipush 7, 2) := by decide +kernel
theorem dX4_table_4 : decode cX4_table 4 = .ok (.invokestatic 60, 3) := by decide +kernel
theorem dX4_table_7 : decode cX4_table 7 = .ok (.ifCond .ne 6, 3) := by decide +kernel
theorem dX4_table_10 : decode cX4_table 10 = .ok (.bipush (-102), 2) := by decide +kernel
theorem dX4_table_12 : decode cX4_table 12 = .ok (.ireturn, 1) := by decide +kernel
theorem dX4_table_13 : decode cX4_table 13 = .ok (.aload_n 0, 1) := by decide +kernel
theorem dX4_table_14 : decode cX4_table 14 = .ok (.getfield 51, 3) := by decide +kernel
theorem dX4_table_17 : decode cX4_table 17 = .ok (.iload_n 1, 1) := by decide +kernel
theorem dX4_table_18 : decode cX4_table 18 = .ok (.iaload, 1) := by decide +kernel
theorem dX4_table_19 : decode cX4_table 19 = .ok (.istore_n 3, 1) := by decide +kernel
theorem dX4_table_20 : decode cX4_table 20 = .ok (.aload_n 0, 1) := by decide +kernel
theorem dX4_table_21 : decode cX4_table 21 = .ok (.getfield 51, 3) := by decide +kernel
theorem dX4_table_24 : decode cX4_table 24 = .ok (.iload_n 1, 1) := by decide +kernel
theorem dX4_table_25 : decode cX4_table 25 = .ok (.iload_n 2, 1) := by decide +kernel
theorem dX4_table_26 : decode cX4_table 26 = .ok (.iastore, 1) := by decide +kernel
theorem dX4_table_27 : decode cX4_table 27 = .ok (.iload_n 3, 1) := by decide +kernel
theorem dX4_table_28 : decode cX4_table 28 = .ok (.ireturn, 1) := by decide +kernel
theorem dX4_saysOf_0 : decode cX4_saysOf 0 = .ok (.aload_n 0, 1) := by decide +kernel
theorem dX4_saysOf_1 : decode cX4_saysOf 1 = .ok (.getfield 13, 3) := by decide +kernel
theorem dX4_saysOf_4 : decode cX4_saysOf 4 = .ok (.iconst 4, 1) := by decide +kernel
theorem dX4_saysOf_5 : decode cX4_saysOf 5 = .ok (.iload_n 2, 1) := by decide +kernel
theorem dX4_saysOf_6 : decode cX4_saysOf 6 = .ok (.imul, 1) := by decide +kernel
theorem dX4_saysOf_7 : decode cX4_saysOf 7 = .ok (.aload_n 0, 1) := by decide +kernel
theorem dX4_saysOf_8 : decode cX4_saysOf 8 = .ok (.getfield 39, 3) := by decide +kernel
theorem dX4_saysOf_11 : decode cX4_saysOf 11 = .ok (.iload_n 1, 1) := by decide +kernel
theorem dX4_saysOf_12 : decode cX4_saysOf 12 = .ok (.iaload, 1) := by decide +kernel
theorem dX4_saysOf_13 : decode cX4_saysOf 13 = .ok (.iadd, 1) := by decide +kernel
theorem dX4_saysOf_14 : decode cX4_saysOf 14 = .ok (.iaload, 1) := by decide +kernel
theorem dX4_saysOf_15 : decode cX4_saysOf 15 = .ok (.istore_n 3, 1) := by decide +kernel
theorem dX4_saysOf_16 : decode cX4_saysOf 16 = .ok (.aload_n 0, 1) := by decide +kernel
theorem dX4_saysOf_17 : decode cX4_saysOf 17 = .ok (.getfield 13, 3) := by decide +kernel
theorem dX4_saysOf_20 : decode cX4_saysOf 20 = .ok (.iconst 4, 1) := by decide +kernel
theorem dX4_saysOf_21 : decode cX4_saysOf 21 = .ok (.iload_n 2, 1) := by decide +kernel
theorem dX4_saysOf_22 : decode cX4_saysOf 22 = .ok (.imul, 1) := by decide +kernel
theorem dX4_saysOf_23 : decode cX4_saysOf 23 = .ok (.aload_n 0, 1) := by decide +kernel
theorem dX4_saysOf_24 : decode cX4_saysOf 24 = .ok (.getfield 42, 3) := by decide +kernel
theorem dX4_saysOf_27 : decode cX4_saysOf 27 = .ok (.iload_n 1, 1) := by decide +kernel
theorem dX4_saysOf_28 : decode cX4_saysOf 28 = .ok (.iaload, 1) := by decide +kernel
theorem dX4_saysOf_29 : decode cX4_saysOf 29 = .ok (.iadd, 1) := by decide +kernel
theorem dX4_saysOf_30 : decode cX4_saysOf 30 = .ok (.iaload, 1) := by decide +kernel
theorem dX4_saysOf_31 : decode cX4_saysOf 31 = .ok (.istore 4, 2) := by decide +kernel
theorem dX4_saysOf_33 : decode cX4_saysOf 33 = .ok (.aload_n 0, 1) := by decide +kernel
theorem dX4_saysOf_34 : decode cX4_saysOf 34 = .ok (.getfield 36, 3) := by decide +kernel
theorem dX4_saysOf_37 : decode cX4_saysOf 37 = .ok (.iload_n 1, 1) := by decide +kernel
theorem dX4_saysOf_38 : decode cX4_saysOf 38 = .ok (.iaload, 1) := by decide +kernel
theorem dX4_saysOf_39 : decode cX4_saysOf 39 = .ok (.iconst 2, 1) := by decide +kernel
theorem dX4_saysOf_40 : decode cX4_saysOf 40 = .ok (.if_icmp .ge 36, 3) := by decide +kernel
theorem dX4_saysOf_43 : decode cX4_saysOf 43 = .ok (.iload 4, 2) := by decide +kernel
theorem dX4_saysOf_45 : decode cX4_saysOf 45 = .ok (.ifCond .ne 6, 3) := by decide +kernel
theorem dX4_saysOf_48 : decode cX4_saysOf 48 = .ok (.bipush (-2), 2) := by decide +kernel
theorem dX4_saysOf_50 : decode cX4_saysOf 50 = .ok (.ireturn, 1) := by decide +kernel
theorem dX4_saysOf_51 : decode cX4_saysOf 51 = .ok (.aload_n 0, 1) := by decide +kernel
theorem dX4_saysOf_52 : decode cX4_saysOf 52 = .ok (.getfield 36, 3) := by decide +kernel
theorem dX4_saysOf_55 : decode cX4_saysOf 55 = .ok (.iload_n 1, 1) := by decide +kernel
theorem dX4_saysOf_56 : decode cX4_saysOf 56 = .ok (.iaload, 1) := by decide +kernel
theorem dX4_saysOf_57 : decode cX4_saysOf 57 = .ok (.ifCond .ne 10, 3) := by decide +kernel
theorem dX4_saysOf_60 : decode cX4_saysOf 60 = .ok (.iload_n 3, 1) := by decide +kernel
theorem dX4_saysOf_61 : decode cX4_saysOf 61 = .ok (.iload 4, 2) := by decide +kernel
theorem dX4_saysOf_63 : decode cX4_saysOf 63 = .ok (.idiv, 1) := by decide +kernel
theorem dX4_saysOf_64 : decode cX4_saysOf 64 = .ok (.goto 7, 3) := by decide +kernel
theorem dX4_saysOf_67 : decode cX4_saysOf 67 = .ok (.iload_n 3, 1) := by decide +kernel
theorem dX4_saysOf_68 : decode cX4_saysOf 68 = .ok (.iload 4, 2) := by decide +kernel
theorem dX4_saysOf_70 : decode cX4_saysOf 70 = .ok (.irem, 1) := by decide +kernel
theorem dX4_saysOf_71 : decode cX4_saysOf 71 = .ok (.istore 5, 2) := by decide +kernel
theorem dX4_saysOf_73 : decode cX4_saysOf 73 = .ok (.goto 66, 3) := by decide +kernel
theorem dX4_saysOf_76 : decode cX4_saysOf 76 = .ok (.aload_n 0, 1) := by decide +kernel
theorem dX4_saysOf_77 : decode cX4_saysOf 77 = .ok (.getfield 36, 3) := by decide +kernel
theorem dX4_saysOf_80 : decode cX4_saysOf 80 = .ok (.iload_n 1, 1) := by decide +kernel
theorem dX4_saysOf_81 : decode cX4_saysOf 81 = .ok (.iaload, 1) := by decide +kernel
theorem dX4_saysOf_82 : decode cX4_saysOf 82 = .ok (.iconst 2, 1) := by decide +kernel
theorem dX4_saysOf_83 : decode cX4_saysOf 83 = .ok (.if_icmp .ne 39, 3) := by decide +kernel
theorem dX4_saysOf_86 : decode cX4_saysOf 86 = .ok (.iload_n 3, 1) := by decide +kernel
theorem dX4_saysOf_87 : decode cX4_saysOf 87 = .ok (.aload_n 0, 1) := by decide +kernel
theorem dX4_saysOf_88 : decode cX4_saysOf 88 = .ok (.getfield 45, 3) := by decide +kernel
theorem dX4_saysOf_91 : decode cX4_saysOf 91 = .ok (.iload_n 1, 1) := by decide +kernel
theorem dX4_saysOf_92 : decode cX4_saysOf 92 = .ok (.iaload, 1) := by decide +kernel
theorem dX4_saysOf_93 : decode cX4_saysOf 93 = .ok (.iadd, 1) := by decide +kernel
theorem dX4_saysOf_94 : decode cX4_saysOf 94 = .ok (.istore 6, 2) := by decide +kernel
theorem dX4_saysOf_96 : decode cX4_saysOf 96 = .ok (.iload 6, 2) := by decide +kernel
theorem dX4_saysOf_98 : decode cX4_saysOf 98 = .ok (.iconst 0, 1) := by decide +kernel
theorem dX4_saysOf_99 : decode cX4_saysOf 99 = .ok (.bipush 7, 2) := by decide +kernel
theorem dX4_saysOf_101 : decode cX4_saysOf 101 = .ok (.invokestatic 60, 3) := by decide +kernel
theorem dX4_saysOf_104 : decode cX4_saysOf 104 = .ok (.ifCond .ne 6, 3) := by decide +kernel
theorem dX4_saysOf_107 : decode cX4_saysOf 107 = .ok (.bipush (-3), 2) := by decide +kernel
theorem dX4_saysOf_109 : decode cX4_saysOf 109 = .ok (.ireturn, 1) := by decide +kernel
theorem dX4_saysOf_110 : decode cX4_saysOf 110 = .ok (.aload_n 0, 1) := by decide +kernel
theorem dX4_saysOf_111 : decode cX4_saysOf 111 = .ok (.getfield 51, 3) := by decide +kernel
theorem dX4_saysOf_114 : decode cX4_saysOf 114 = .ok (.iload 6, 2) := by decide +kernel
theorem dX4_saysOf_116 : decode cX4_saysOf 116 = .ok (.iaload, 1) := by decide +kernel
theorem dX4_saysOf_117 : decode cX4_saysOf 117 = .ok (.istore 5, 2) := by decide +kernel
theorem dX4_saysOf_119 : decode cX4_saysOf 119 = .ok (.goto 20, 3) := by decide +kernel
theorem dX4_saysOf_122 : decode cX4_saysOf 122 = .ok (.iload_n 3, 1) := by decide +kernel
theorem dX4_saysOf_123 : decode cX4_saysOf 123 = .ok (.aload_n 0, 1) := by decide +kernel
theorem dX4_saysOf_124 : decode cX4_saysOf 124 = .ok (.getfield 45, 3) := by decide +kernel
theorem dX4_saysOf_127 : decode cX4_saysOf 127 = .ok (.iload_n 1, 1) := by decide +kernel
theorem dX4_saysOf_128 : decode cX4_saysOf 128 = .ok (.iaload, 1) := by decide +kernel
theorem dX4_saysOf_129 : decode cX4_saysOf 129 = .ok (.if_icmp .ge 7, 3) := by decide +kernel
theorem dX4_saysOf_132 : decode cX4_saysOf 132 = .ok (.iconst 0, 1) := by decide +kernel
theorem dX4_saysOf_133 : decode cX4_saysOf 133 = .ok (.goto 4, 3) := by decide +kernel
theorem dX4_saysOf_136 : decode cX4_saysOf 136 = .ok (.iconst 1, 1) := by decide +kernel
theorem dX4_saysOf_137 : decode cX4_saysOf 137 = .ok (.istore 5, 2) := by decide +kernel
theorem dX4_saysOf_139 : decode cX4_saysOf 139 = .ok (.iload 5, 2) := by decide +kernel
theorem dX4_saysOf_141 : decode cX4_saysOf 141 = .ok (.iconst 5, 1) := by decide +kernel
theorem dX4_saysOf_142 : decode cX4_saysOf 142 = .ok (.irem, 1) := by decide +kernel
theorem dX4_saysOf_143 : decode cX4_saysOf 143 = .ok (.istore 6, 2) := by decide +kernel
theorem dX4_saysOf_145 : decode cX4_saysOf 145 = .ok (.iload 6, 2) := by decide +kernel
theorem dX4_saysOf_147 : decode cX4_saysOf 147 = .ok (.ifCond .ge 10, 3) := by decide +kernel
theorem dX4_saysOf_150 : decode cX4_saysOf 150 = .ok (.iload 6, 2) := by decide +kernel
theorem dX4_saysOf_152 : decode cX4_saysOf 152 = .ok (.iconst 5, 1) := by decide +kernel
theorem dX4_saysOf_153 : decode cX4_saysOf 153 = .ok (.iadd, 1) := by decide +kernel
theorem dX4_saysOf_154 : decode cX4_saysOf 154 = .ok (.goto 5, 3) := by decide +kernel
theorem dX4_saysOf_157 : decode cX4_saysOf 157 = .ok (.iload 6, 2) := by decide +kernel
theorem dX4_saysOf_159 : decode cX4_saysOf 159 = .ok (.ireturn, 1) := by decide +kernel
theorem dX4_says_0 : decode cX4_says 0 = .ok (.aload_n 0, 1) := by decide +kernel
theorem dX4_says_1 : decode cX4_says 1 = .ok (.iload_n 1, 1) := by decide +kernel
theorem dX4_says_2 : decode cX4_says 2 = .ok (.iconst 0, 1) := by decide +kernel
theorem dX4_says_3 : decode cX4_says 3 = .ok (.aload_n 0, 1) := by decide +kernel
theorem dX4_says_4 : decode cX4_says 4 = .ok (.getfield 81, 3) := by decide +kernel
theorem dX4_says_7 : decode cX4_says 7 = .ok (.iconst 1, 1) := by decide +kernel
theorem dX4_says_8 : decode cX4_says 8 = .ok (.isub, 1) := by decide +kernel
theorem dX4_says_9 : decode cX4_says 9 = .ok (.invokestatic 60, 3) := by decide +kernel
theorem dX4_says_12 : decode cX4_says 12 = .ok (.ifCond .eq 15, 3) := by decide +kernel
theorem dX4_says_15 : decode cX4_says 15 = .ok (.aload_n 0, 1) := by decide +kernel
theorem dX4_says_16 : decode cX4_says 16 = .ok (.iload_n 2, 1) := by decide +kernel
theorem dX4_says_17 : decode cX4_says 17 = .ok (.invokevirtual 68, 3) := by decide +kernel
theorem dX4_says_20 : decode cX4_says 20 = .ok (.ifCond .eq 7, 3) := by decide +kernel
theorem dX4_says_23 : decode cX4_says 23 = .ok (.iconst 0, 1) := by decide +kernel
theorem dX4_says_24 : decode cX4_says 24 = .ok (.goto 4, 3) := by decide +kernel
theorem dX4_says_27 : decode cX4_says 27 = .ok (.iconst 1, 1) := by decide +kernel
theorem dX4_says_28 : decode cX4_says 28 = .ok (.putfield 1, 3) := by decide +kernel
theorem dX4_says_31 : decode cX4_says 31 = .ok (.aload_n 0, 1) := by decide +kernel
theorem dX4_says_32 : decode cX4_says 32 = .ok (.getfield 1, 3) := by decide +kernel
theorem dX4_says_35 : decode cX4_says 35 = .ok (.ifCond .le 5, 3) := by decide +kernel
theorem dX4_says_38 : decode cX4_says 38 = .ok (.iconst 0, 1) := by decide +kernel
theorem dX4_says_39 : decode cX4_says 39 = .ok (.ireturn, 1) := by decide +kernel
theorem dX4_says_40 : decode cX4_says 40 = .ok (.aload_n 0, 1) := by decide +kernel
theorem dX4_says_41 : decode cX4_says 41 = .ok (.iload_n 1, 1) := by decide +kernel
theorem dX4_says_42 : decode cX4_says 42 = .ok (.iload_n 2, 1) := by decide +kernel
theorem dX4_says_43 : decode cX4_says 43 = .ok (.invokevirtual 84, 3) := by decide +kernel
theorem dX4_says_46 : decode cX4_says 46 = .ok (.istore_n 3, 1) := by decide +kernel
theorem dX4_says_47 : decode cX4_says 47 = .ok (.aload_n 0, 1) := by decide +kernel
theorem dX4_says_48 : decode cX4_says 48 = .ok (.iload_n 3, 1) := by decide +kernel
theorem dX4_says_49 : decode cX4_says 49 = .ok (.ifCond .ge 8, 3) := by decide +kernel
theorem dX4_says_52 : decode cX4_says 52 = .ok (.iload_n 3, 1) := by decide +kernel
theorem dX4_says_53 : decode cX4_says 53 = .ok (.ineg, 1) := by decide +kernel
theorem dX4_says_54 : decode cX4_says 54 = .ok (.goto 4, 3) := by decide +kernel
theorem dX4_says_57 : decode cX4_says 57 = .ok (.iconst 0, 1) := by decide +kernel
theorem dX4_says_58 : decode cX4_says 58 = .ok (.putfield 1, 3) := by decide +kernel
theorem dX4_says_61 : decode cX4_says 61 = .ok (.iload_n 3, 1) := by decide +kernel
theorem dX4_says_62 : decode cX4_says 62 = .ok (.ifCond .ge 7, 3) := by decide +kernel
theorem dX4_says_65 : decode cX4_says 65 = .ok (.iconst 0, 1) := by decide +kernel
theorem dX4_says_66 : decode cX4_says 66 = .ok (.goto 4, 3) := by decide +kernel
theorem dX4_says_69 : decode cX4_says 69 = .ok (.iload_n 3, 1) := by decide +kernel
theorem dX4_says_70 : decode cX4_says 70 = .ok (.ireturn, 1) := by decide +kernel
theorem dX4_abstains_0 : decode cX4_abstains 0 = .ok (.iload_n 1, 1) := by decide +kernel
theorem dX4_abstains_1 : decode cX4_abstains 1 = .ok (.iconst 0, 1) := by decide +kernel
theorem dX4_abstains_2 : decode cX4_abstains 2 = .ok (.aload_n 0, 1) := by decide +kernel
theorem dX4_abstains_3 : decode cX4_abstains 3 = .ok (.getfield 81, 3) := by decide +kernel
theorem dX4_abstains_6 : decode cX4_abstains 6 = .ok (.iconst 1, 1) := by decide +kernel
theorem dX4_abstains_7 : decode cX4_abstains 7 = .ok (.isub, 1) := by decide +kernel
theorem dX4_abstains_8 : decode cX4_abstains 8 = .ok (.invokestatic 60, 3) := by decide +kernel
theorem dX4_abstains_11 : decode cX4_abstains 11 = .ok (.ifCond .ne 6, 3) := by decide +kernel
theorem dX4_abstains_14 : decode cX4_abstains 14 = .ok (.bipush (-101), 2) := by decide +kernel
theorem dX4_abstains_16 : decode cX4_abstains 16 = .ok (.ireturn, 1) := by decide +kernel
theorem dX4_abstains_17 : decode cX4_abstains 17 = .ok (.iconst 0, 1) := by decide +kernel
theorem dX4_abstains_18 : decode cX4_abstains 18 = .ok (.istore_n 2, 1) := by decide +kernel
theorem dX4_abstains_19 : decode cX4_abstains 19 = .ok (.iconst 0, 1) := by decide +kernel
theorem dX4_abstains_20 : decode cX4_abstains 20 = .ok (.istore_n 3, 1) := by decide +kernel
theorem dX4_abstains_21 : decode cX4_abstains 21 = .ok (.iload_n 3, 1) := by decide +kernel
theorem dX4_abstains_22 : decode cX4_abstains 22 = .ok (.aload_n 0, 1) := by decide +kernel
theorem dX4_abstains_23 : decode cX4_abstains 23 = .ok (.getfield 57, 3) := by decide +kernel
theorem dX4_abstains_26 : decode cX4_abstains 26 = .ok (.if_icmp .ge 26, 3) := by decide +kernel
theorem dX4_abstains_29 : decode cX4_abstains 29 = .ok (.iload_n 2, 1) := by decide +kernel
theorem dX4_abstains_30 : decode cX4_abstains 30 = .ok (.aload_n 0, 1) := by decide +kernel
theorem dX4_abstains_31 : decode cX4_abstains 31 = .ok (.iload_n 1, 1) := by decide +kernel
theorem dX4_abstains_32 : decode cX4_abstains 32 = .ok (.iload_n 3, 1) := by decide +kernel
theorem dX4_abstains_33 : decode cX4_abstains 33 = .ok (.invokevirtual 84, 3) := by decide +kernel
theorem dX4_abstains_36 : decode cX4_abstains 36 = .ok (.ifCond .ge 7, 3) := by decide +kernel
theorem dX4_abstains_39 : decode cX4_abstains 39 = .ok (.iconst 1, 1) := by decide +kernel
theorem dX4_abstains_40 : decode cX4_abstains 40 = .ok (.goto 4, 3) := by decide +kernel
theorem dX4_abstains_43 : decode cX4_abstains 43 = .ok (.iconst 0, 1) := by decide +kernel
theorem dX4_abstains_44 : decode cX4_abstains 44 = .ok (.iadd, 1) := by decide +kernel
theorem dX4_abstains_45 : decode cX4_abstains 45 = .ok (.istore_n 2, 1) := by decide +kernel
theorem dX4_abstains_46 : decode cX4_abstains 46 = .ok (.iinc 3 1, 3) := by decide +kernel
theorem dX4_abstains_49 : decode cX4_abstains 49 = .ok (.goto (-28), 3) := by decide +kernel
theorem dX4_abstains_52 : decode cX4_abstains 52 = .ok (.iload_n 2, 1) := by decide +kernel
theorem dX4_abstains_53 : decode cX4_abstains 53 = .ok (.ireturn, 1) := by decide +kernel
theorem dX4_votesOf_0 : decode cX4_votesOf 0 = .ok (.iconst 0, 1) := by decide +kernel
theorem dX4_votesOf_1 : decode cX4_votesOf 1 = .ok (.istore_n 3, 1) := by decide +kernel
theorem dX4_votesOf_2 : decode cX4_votesOf 2 = .ok (.iconst 0, 1) := by decide +kernel
theorem dX4_votesOf_3 : decode cX4_votesOf 3 = .ok (.istore 4, 2) := by decide +kernel
theorem dX4_votesOf_5 : decode cX4_votesOf 5 = .ok (.iload 4, 2) := by decide +kernel
theorem dX4_votesOf_7 : decode cX4_votesOf 7 = .ok (.bipush 8, 2) := by decide +kernel
theorem dX4_votesOf_9 : decode cX4_votesOf 9 = .ok (.if_icmp .ge 50, 3) := by decide +kernel
theorem dX4_votesOf_12 : decode cX4_votesOf 12 = .ok (.iload_n 3, 1) := by decide +kernel
theorem dX4_votesOf_13 : decode cX4_votesOf 13 = .ok (.aload_n 0, 1) := by decide +kernel
theorem dX4_votesOf_14 : decode cX4_votesOf 14 = .ok (.getfield 17, 3) := by decide +kernel
theorem dX4_votesOf_17 : decode cX4_votesOf 17 = .ok (.bipush 8, 2) := by decide +kernel
theorem dX4_votesOf_19 : decode cX4_votesOf 19 = .ok (.iload_n 1, 1) := by decide +kernel
theorem dX4_votesOf_20 : decode cX4_votesOf 20 = .ok (.imul, 1) := by decide +kernel
theorem dX4_votesOf_21 : decode cX4_votesOf 21 = .ok (.iload 4, 2) := by decide +kernel
theorem dX4_votesOf_23 : decode cX4_votesOf 23 = .ok (.iadd, 1) := by decide +kernel
theorem dX4_votesOf_24 : decode cX4_votesOf 24 = .ok (.iaload, 1) := by decide +kernel
theorem dX4_votesOf_25 : decode cX4_votesOf 25 = .ok (.iload_n 2, 1) := by decide +kernel
theorem dX4_votesOf_26 : decode cX4_votesOf 26 = .ok (.iconst 1, 1) := by decide +kernel
theorem dX4_votesOf_27 : decode cX4_votesOf 27 = .ok (.iadd, 1) := by decide +kernel
theorem dX4_votesOf_28 : decode cX4_votesOf 28 = .ok (.if_icmp .ne 22, 3) := by decide +kernel
theorem dX4_votesOf_31 : decode cX4_votesOf 31 = .ok (.aload_n 0, 1) := by decide +kernel
theorem dX4_votesOf_32 : decode cX4_votesOf 32 = .ok (.iload 4, 2) := by decide +kernel
theorem dX4_votesOf_34 : decode cX4_votesOf 34 = .ok (.invokevirtual 75, 3) := by decide +kernel
theorem dX4_votesOf_37 : decode cX4_votesOf 37 = .ok (.ifCond .ne 13, 3) := by decide +kernel
theorem dX4_votesOf_40 : decode cX4_votesOf 40 = .ok (.aload_n 0, 1) := by decide +kernel
theorem dX4_votesOf_41 : decode cX4_votesOf 41 = .ok (.getfield 30, 3) := by decide +kernel
theorem dX4_votesOf_44 : decode cX4_votesOf 44 = .ok (.iload 4, 2) := by decide +kernel
theorem dX4_votesOf_46 : decode cX4_votesOf 46 = .ok (.iaload, 1) := by decide +kernel
theorem dX4_votesOf_47 : decode cX4_votesOf 47 = .ok (.goto 4, 3) := by decide +kernel
theorem dX4_votesOf_50 : decode cX4_votesOf 50 = .ok (.iconst 0, 1) := by decide +kernel
theorem dX4_votesOf_51 : decode cX4_votesOf 51 = .ok (.iadd, 1) := by decide +kernel
theorem dX4_votesOf_52 : decode cX4_votesOf 52 = .ok (.istore_n 3, 1) := by decide +kernel
theorem dX4_votesOf_53 : decode cX4_votesOf 53 = .ok (.iinc 4 1, 3) := by decide +kernel
theorem dX4_votesOf_56 : decode cX4_votesOf 56 = .ok (.goto (-51), 3) := by decide +kernel
theorem dX4_votesOf_59 : decode cX4_votesOf 59 = .ok (.iconst 0, 1) := by decide +kernel
theorem dX4_votesOf_60 : decode cX4_votesOf 60 = .ok (.istore 4, 2) := by decide +kernel
theorem dX4_votesOf_62 : decode cX4_votesOf 62 = .ok (.iload 4, 2) := by decide +kernel
theorem dX4_votesOf_64 : decode cX4_votesOf 64 = .ok (.aload_n 0, 1) := by decide +kernel
theorem dX4_votesOf_65 : decode cX4_votesOf 65 = .ok (.getfield 81, 3) := by decide +kernel
theorem dX4_votesOf_68 : decode cX4_votesOf 68 = .ok (.if_icmp .ge 38, 3) := by decide +kernel
theorem dX4_votesOf_71 : decode cX4_votesOf 71 = .ok (.iload_n 3, 1) := by decide +kernel
theorem dX4_votesOf_72 : decode cX4_votesOf 72 = .ok (.aload_n 0, 1) := by decide +kernel
theorem dX4_votesOf_73 : decode cX4_votesOf 73 = .ok (.getfield 48, 3) := by decide +kernel
theorem dX4_votesOf_76 : decode cX4_votesOf 76 = .ok (.iload 4, 2) := by decide +kernel
theorem dX4_votesOf_78 : decode cX4_votesOf 78 = .ok (.baload, 1) := by decide +kernel
theorem dX4_votesOf_79 : decode cX4_votesOf 79 = .ok (.ifCond .eq 18, 3) := by decide +kernel
theorem dX4_votesOf_82 : decode cX4_votesOf 82 = .ok (.aload_n 0, 1) := by decide +kernel
theorem dX4_votesOf_83 : decode cX4_votesOf 83 = .ok (.iload 4, 2) := by decide +kernel
theorem dX4_votesOf_85 : decode cX4_votesOf 85 = .ok (.iload_n 1, 1) := by decide +kernel
theorem dX4_votesOf_86 : decode cX4_votesOf 86 = .ok (.invokevirtual 84, 3) := by decide +kernel
theorem dX4_votesOf_89 : decode cX4_votesOf 89 = .ok (.iload_n 2, 1) := by decide +kernel
theorem dX4_votesOf_90 : decode cX4_votesOf 90 = .ok (.if_icmp .ne 7, 3) := by decide +kernel
theorem dX4_votesOf_93 : decode cX4_votesOf 93 = .ok (.iconst 1, 1) := by decide +kernel
theorem dX4_votesOf_94 : decode cX4_votesOf 94 = .ok (.goto 4, 3) := by decide +kernel
theorem dX4_votesOf_97 : decode cX4_votesOf 97 = .ok (.iconst 0, 1) := by decide +kernel
theorem dX4_votesOf_98 : decode cX4_votesOf 98 = .ok (.iadd, 1) := by decide +kernel
theorem dX4_votesOf_99 : decode cX4_votesOf 99 = .ok (.istore_n 3, 1) := by decide +kernel
theorem dX4_votesOf_100 : decode cX4_votesOf 100 = .ok (.iinc 4 1, 3) := by decide +kernel
theorem dX4_votesOf_103 : decode cX4_votesOf 103 = .ok (.goto (-41), 3) := by decide +kernel
theorem dX4_votesOf_106 : decode cX4_votesOf 106 = .ok (.iload_n 3, 1) := by decide +kernel
theorem dX4_votesOf_107 : decode cX4_votesOf 107 = .ok (.ireturn, 1) := by decide +kernel
theorem dX4_votes_0 : decode cX4_votes 0 = .ok (.aload_n 0, 1) := by decide +kernel
theorem dX4_votes_1 : decode cX4_votes 1 = .ok (.iload_n 1, 1) := by decide +kernel
theorem dX4_votes_2 : decode cX4_votes 2 = .ok (.invokevirtual 68, 3) := by decide +kernel
theorem dX4_votes_5 : decode cX4_votes 5 = .ok (.ifCond .ne 8, 3) := by decide +kernel
theorem dX4_votes_8 : decode cX4_votes 8 = .ok (.bipush (-101), 2) := by decide +kernel
theorem dX4_votes_10 : decode cX4_votes 10 = .ok (.goto 23, 3) := by decide +kernel
theorem dX4_votes_13 : decode cX4_votes 13 = .ok (.iload_n 2, 1) := by decide +kernel
theorem dX4_votes_14 : decode cX4_votes 14 = .ok (.iconst 0, 1) := by decide +kernel
theorem dX4_votes_15 : decode cX4_votes 15 = .ok (.iconst 4, 1) := by decide +kernel
theorem dX4_votes_16 : decode cX4_votes 16 = .ok (.invokestatic 60, 3) := by decide +kernel
theorem dX4_votes_19 : decode cX4_votes 19 = .ok (.ifCond .eq 12, 3) := by decide +kernel
theorem dX4_votes_22 : decode cX4_votes 22 = .ok (.aload_n 0, 1) := by decide +kernel
theorem dX4_votes_23 : decode cX4_votes 23 = .ok (.iload_n 1, 1) := by decide +kernel
theorem dX4_votes_24 : decode cX4_votes 24 = .ok (.iload_n 2, 1) := by decide +kernel
theorem dX4_votes_25 : decode cX4_votes 25 = .ok (.invokevirtual 88, 3) := by decide +kernel
theorem dX4_votes_28 : decode cX4_votes 28 = .ok (.goto 5, 3) := by decide +kernel
theorem dX4_votes_31 : decode cX4_votes 31 = .ok (.bipush (-102), 2) := by decide +kernel
theorem dX4_votes_33 : decode cX4_votes 33 = .ok (.ireturn, 1) := by decide +kernel
theorem dX4_weigh_0 : decode cX4_weigh 0 = .ok (.aload_n 0, 1) := by decide +kernel
theorem dX4_weigh_1 : decode cX4_weigh 1 = .ok (.iconst (-1), 1) := by decide +kernel
theorem dX4_weigh_2 : decode cX4_weigh 2 = .ok (.putfield 91, 3) := by decide +kernel
theorem dX4_weigh_5 : decode cX4_weigh 5 = .ok (.aload_n 0, 1) := by decide +kernel
theorem dX4_weigh_6 : decode cX4_weigh 6 = .ok (.iconst (-1), 1) := by decide +kernel
theorem dX4_weigh_7 : decode cX4_weigh 7 = .ok (.putfield 94, 3) := by decide +kernel
theorem dX4_weigh_10 : decode cX4_weigh 10 = .ok (.aload_n 0, 1) := by decide +kernel
theorem dX4_weigh_11 : decode cX4_weigh 11 = .ok (.iconst (-1), 1) := by decide +kernel
theorem dX4_weigh_12 : decode cX4_weigh 12 = .ok (.putfield 97, 3) := by decide +kernel
theorem dX4_weigh_15 : decode cX4_weigh 15 = .ok (.iconst 0, 1) := by decide +kernel
theorem dX4_weigh_16 : decode cX4_weigh 16 = .ok (.istore_n 2, 1) := by decide +kernel
theorem dX4_weigh_17 : decode cX4_weigh 17 = .ok (.iload_n 2, 1) := by decide +kernel
theorem dX4_weigh_18 : decode cX4_weigh 18 = .ok (.iconst 5, 1) := by decide +kernel
theorem dX4_weigh_19 : decode cX4_weigh 19 = .ok (.if_icmp .ge 58, 3) := by decide +kernel
theorem dX4_weigh_22 : decode cX4_weigh 22 = .ok (.aload_n 0, 1) := by decide +kernel
theorem dX4_weigh_23 : decode cX4_weigh 23 = .ok (.iload_n 1, 1) := by decide +kernel
theorem dX4_weigh_24 : decode cX4_weigh 24 = .ok (.iload_n 2, 1) := by decide +kernel
theorem dX4_weigh_25 : decode cX4_weigh 25 = .ok (.invokevirtual 88, 3) := by decide +kernel
theorem dX4_weigh_28 : decode cX4_weigh 28 = .ok (.istore_n 3, 1) := by decide +kernel
theorem dX4_weigh_29 : decode cX4_weigh 29 = .ok (.iload_n 3, 1) := by decide +kernel
theorem dX4_weigh_30 : decode cX4_weigh 30 = .ok (.aload_n 0, 1) := by decide +kernel
theorem dX4_weigh_31 : decode cX4_weigh 31 = .ok (.getfield 91, 3) := by decide +kernel
theorem dX4_weigh_34 : decode cX4_weigh 34 = .ok (.if_icmp .le 24, 3) := by decide +kernel
theorem dX4_weigh_37 : decode cX4_weigh 37 = .ok (.aload_n 0, 1) := by decide +kernel
theorem dX4_weigh_38 : decode cX4_weigh 38 = .ok (.aload_n 0, 1) := by decide +kernel
theorem dX4_weigh_39 : decode cX4_weigh 39 = .ok (.getfield 91, 3) := by decide +kernel
theorem dX4_weigh_42 : decode cX4_weigh 42 = .ok (.putfield 94, 3) := by decide +kernel
theorem dX4_weigh_45 : decode cX4_weigh 45 = .ok (.aload_n 0, 1) := by decide +kernel
theorem dX4_weigh_46 : decode cX4_weigh 46 = .ok (.iload_n 3, 1) := by decide +kernel
theorem dX4_weigh_47 : decode cX4_weigh 47 = .ok (.putfield 91, 3) := by decide +kernel
theorem dX4_weigh_50 : decode cX4_weigh 50 = .ok (.aload_n 0, 1) := by decide +kernel
theorem dX4_weigh_51 : decode cX4_weigh 51 = .ok (.iload_n 2, 1) := by decide +kernel
theorem dX4_weigh_52 : decode cX4_weigh 52 = .ok (.putfield 97, 3) := by decide +kernel
theorem dX4_weigh_55 : decode cX4_weigh 55 = .ok (.goto 16, 3) := by decide +kernel
theorem dX4_weigh_58 : decode cX4_weigh 58 = .ok (.iload_n 3, 1) := by decide +kernel
theorem dX4_weigh_59 : decode cX4_weigh 59 = .ok (.aload_n 0, 1) := by decide +kernel
theorem dX4_weigh_60 : decode cX4_weigh 60 = .ok (.getfield 94, 3) := by decide +kernel
theorem dX4_weigh_63 : decode cX4_weigh 63 = .ok (.if_icmp .le 8, 3) := by decide +kernel
theorem dX4_weigh_66 : decode cX4_weigh 66 = .ok (.aload_n 0, 1) := by decide +kernel
theorem dX4_weigh_67 : decode cX4_weigh 67 = .ok (.iload_n 3, 1) := by decide +kernel
theorem dX4_weigh_68 : decode cX4_weigh 68 = .ok (.putfield 94, 3) := by decide +kernel
theorem dX4_weigh_71 : decode cX4_weigh 71 = .ok (.iinc 2 1, 3) := by decide +kernel
theorem dX4_weigh_74 : decode cX4_weigh 74 = .ok (.goto (-57), 3) := by decide +kernel
theorem dX4_weigh_77 : decode cX4_weigh 77 = .ok (.return_, 1) := by decide +kernel
theorem dX4_decidedOf_0 : decode cX4_decidedOf 0 = .ok (.aload_n 0, 1) := by decide +kernel
theorem dX4_decidedOf_1 : decode cX4_decidedOf 1 = .ok (.getfield 20, 3) := by decide +kernel
theorem dX4_decidedOf_4 : decode cX4_decidedOf 4 = .ok (.iload_n 1, 1) := by decide +kernel
theorem dX4_decidedOf_5 : decode cX4_decidedOf 5 = .ok (.iaload, 1) := by decide +kernel
theorem dX4_decidedOf_6 : decode cX4_decidedOf 6 = .ok (.iconst (-1), 1) := by decide +kernel
theorem dX4_decidedOf_7 : decode cX4_decidedOf 7 = .ok (.if_icmp .eq 10, 3) := by decide +kernel
theorem dX4_decidedOf_10 : decode cX4_decidedOf 10 = .ok (.aload_n 0, 1) := by decide +kernel
theorem dX4_decidedOf_11 : decode cX4_decidedOf 11 = .ok (.getfield 20, 3) := by decide +kernel
theorem dX4_decidedOf_14 : decode cX4_decidedOf 14 = .ok (.iload_n 1, 1) := by decide +kernel
theorem dX4_decidedOf_15 : decode cX4_decidedOf 15 = .ok (.iaload, 1) := by decide +kernel
theorem dX4_decidedOf_16 : decode cX4_decidedOf 16 = .ok (.ireturn, 1) := by decide +kernel
theorem dX4_decidedOf_17 : decode cX4_decidedOf 17 = .ok (.aload_n 0, 1) := by decide +kernel
theorem dX4_decidedOf_18 : decode cX4_decidedOf 18 = .ok (.iload_n 1, 1) := by decide +kernel
theorem dX4_decidedOf_19 : decode cX4_decidedOf 19 = .ok (.invokevirtual 100, 3) := by decide +kernel
theorem dX4_decidedOf_22 : decode cX4_decidedOf 22 = .ok (.aload_n 0, 1) := by decide +kernel
theorem dX4_decidedOf_23 : decode cX4_decidedOf 23 = .ok (.getfield 91, 3) := by decide +kernel
theorem dX4_decidedOf_26 : decode cX4_decidedOf 26 = .ok (.ifCond .le 19, 3) := by decide +kernel
theorem dX4_decidedOf_29 : decode cX4_decidedOf 29 = .ok (.aload_n 0, 1) := by decide +kernel
theorem dX4_decidedOf_30 : decode cX4_decidedOf 30 = .ok (.getfield 91, 3) := by decide +kernel
theorem dX4_decidedOf_33 : decode cX4_decidedOf 33 = .ok (.aload_n 0, 1) := by decide +kernel
theorem dX4_decidedOf_34 : decode cX4_decidedOf 34 = .ok (.getfield 94, 3) := by decide +kernel
theorem dX4_decidedOf_37 : decode cX4_decidedOf 37 = .ok (.if_icmp .le 8, 3) := by decide +kernel
theorem dX4_decidedOf_40 : decode cX4_decidedOf 40 = .ok (.aload_n 0, 1) := by decide +kernel
theorem dX4_decidedOf_41 : decode cX4_decidedOf 41 = .ok (.getfield 97, 3) := by decide +kernel
theorem dX4_decidedOf_44 : decode cX4_decidedOf 44 = .ok (.ireturn, 1) := by decide +kernel
theorem dX4_decidedOf_45 : decode cX4_decidedOf 45 = .ok (.iconst 0, 1) := by decide +kernel
theorem dX4_decidedOf_46 : decode cX4_decidedOf 46 = .ok (.istore_n 2, 1) := by decide +kernel
theorem dX4_decidedOf_47 : decode cX4_decidedOf 47 = .ok (.iload_n 2, 1) := by decide +kernel
theorem dX4_decidedOf_48 : decode cX4_decidedOf 48 = .ok (.bipush 8, 2) := by decide +kernel
theorem dX4_decidedOf_50 : decode cX4_decidedOf 50 = .ok (.if_icmp .ge 54, 3) := by decide +kernel
theorem dX4_decidedOf_53 : decode cX4_decidedOf 53 = .ok (.aload_n 0, 1) := by decide +kernel
theorem dX4_decidedOf_54 : decode cX4_decidedOf 54 = .ok (.getfield 26, 3) := by decide +kernel
theorem dX4_decidedOf_57 : decode cX4_decidedOf 57 = .ok (.iload_n 2, 1) := by decide +kernel
theorem dX4_decidedOf_58 : decode cX4_decidedOf 58 = .ok (.baload, 1) := by decide +kernel
theorem dX4_decidedOf_59 : decode cX4_decidedOf 59 = .ok (.ifCond .eq 39, 3) := by decide +kernel
theorem dX4_decidedOf_62 : decode cX4_decidedOf 62 = .ok (.aload_n 0, 1) := by decide +kernel
theorem dX4_decidedOf_63 : decode cX4_decidedOf 63 = .ok (.iload_n 2, 1) := by decide +kernel
theorem dX4_decidedOf_64 : decode cX4_decidedOf 64 = .ok (.invokevirtual 75, 3) := by decide +kernel
theorem dX4_decidedOf_67 : decode cX4_decidedOf 67 = .ok (.ifCond .ne 31, 3) := by decide +kernel
theorem dX4_decidedOf_70 : decode cX4_decidedOf 70 = .ok (.aload_n 0, 1) := by decide +kernel
theorem dX4_decidedOf_71 : decode cX4_decidedOf 71 = .ok (.getfield 17, 3) := by decide +kernel
theorem dX4_decidedOf_74 : decode cX4_decidedOf 74 = .ok (.bipush 8, 2) := by decide +kernel
theorem dX4_decidedOf_76 : decode cX4_decidedOf 76 = .ok (.iload_n 1, 1) := by decide +kernel
theorem dX4_decidedOf_77 : decode cX4_decidedOf 77 = .ok (.imul, 1) := by decide +kernel
theorem dX4_decidedOf_78 : decode cX4_decidedOf 78 = .ok (.iload_n 2, 1) := by decide +kernel
theorem dX4_decidedOf_79 : decode cX4_decidedOf 79 = .ok (.iadd, 1) := by decide +kernel
theorem dX4_decidedOf_80 : decode cX4_decidedOf 80 = .ok (.iaload, 1) := by decide +kernel
theorem dX4_decidedOf_81 : decode cX4_decidedOf 81 = .ok (.ifCond .le 17, 3) := by decide +kernel
theorem dX4_decidedOf_84 : decode cX4_decidedOf 84 = .ok (.aload_n 0, 1) := by decide +kernel
theorem dX4_decidedOf_85 : decode cX4_decidedOf 85 = .ok (.getfield 17, 3) := by decide +kernel
theorem dX4_decidedOf_88 : decode cX4_decidedOf 88 = .ok (.bipush 8, 2) := by decide +kernel
theorem dX4_decidedOf_90 : decode cX4_decidedOf 90 = .ok (.iload_n 1, 1) := by decide +kernel
theorem dX4_decidedOf_91 : decode cX4_decidedOf 91 = .ok (.imul, 1) := by decide +kernel
theorem dX4_decidedOf_92 : decode cX4_decidedOf 92 = .ok (.iload_n 2, 1) := by decide +kernel
theorem dX4_decidedOf_93 : decode cX4_decidedOf 93 = .ok (.iadd, 1) := by decide +kernel
theorem dX4_decidedOf_94 : decode cX4_decidedOf 94 = .ok (.iaload, 1) := by decide +kernel
theorem dX4_decidedOf_95 : decode cX4_decidedOf 95 = .ok (.iconst 1, 1) := by decide +kernel
theorem dX4_decidedOf_96 : decode cX4_decidedOf 96 = .ok (.isub, 1) := by decide +kernel
theorem dX4_decidedOf_97 : decode cX4_decidedOf 97 = .ok (.ireturn, 1) := by decide +kernel
theorem dX4_decidedOf_98 : decode cX4_decidedOf 98 = .ok (.iinc 2 1, 3) := by decide +kernel
theorem dX4_decidedOf_101 : decode cX4_decidedOf 101 = .ok (.goto (-54), 3) := by decide +kernel
theorem dX4_decidedOf_104 : decode cX4_decidedOf 104 = .ok (.iconst (-1), 1) := by decide +kernel
theorem dX4_decidedOf_105 : decode cX4_decidedOf 105 = .ok (.ireturn, 1) := by decide +kernel
theorem dX4_decided_0 : decode cX4_decided 0 = .ok (.aload_n 0, 1) := by decide +kernel
theorem dX4_decided_1 : decode cX4_decided 1 = .ok (.iload_n 1, 1) := by decide +kernel
theorem dX4_decided_2 : decode cX4_decided 2 = .ok (.invokevirtual 68, 3) := by decide +kernel
theorem dX4_decided_5 : decode cX4_decided 5 = .ok (.ifCond .eq 11, 3) := by decide +kernel
theorem dX4_decided_8 : decode cX4_decided 8 = .ok (.aload_n 0, 1) := by decide +kernel
theorem dX4_decided_9 : decode cX4_decided 9 = .ok (.iload_n 1, 1) := by decide +kernel
theorem dX4_decided_10 : decode cX4_decided 10 = .ok (.invokevirtual 104, 3) := by decide +kernel
theorem dX4_decided_13 : decode cX4_decided 13 = .ok (.goto 5, 3) := by decide +kernel
theorem dX4_decided_16 : decode cX4_decided 16 = .ok (.bipush (-101), 2) := by decide +kernel
theorem dX4_decided_18 : decode cX4_decided 18 = .ok (.ireturn, 1) := by decide +kernel
theorem dX4_learn_0 : decode cX4_learn 0 = .ok (.iload_n 1, 1) := by decide +kernel
theorem dX4_learn_1 : decode cX4_learn 1 = .ok (.iconst 1, 1) := by decide +kernel
theorem dX4_learn_2 : decode cX4_learn 2 = .ok (.bipush 20, 2) := by decide +kernel
theorem dX4_learn_4 : decode cX4_learn 4 = .ok (.invokestatic 60, 3) := by decide +kernel
theorem dX4_learn_7 : decode cX4_learn 7 = .ok (.ifCond .ne 6, 3) := by decide +kernel
theorem dX4_learn_10 : decode cX4_learn 10 = .ok (.bipush (-102), 2) := by decide +kernel
theorem dX4_learn_12 : decode cX4_learn 12 = .ok (.ireturn, 1) := by decide +kernel
theorem dX4_learn_13 : decode cX4_learn 13 = .ok (.iconst 0, 1) := by decide +kernel
theorem dX4_learn_14 : decode cX4_learn 14 = .ok (.istore_n 2, 1) := by decide +kernel
theorem dX4_learn_15 : decode cX4_learn 15 = .ok (.iload_n 2, 1) := by decide +kernel
theorem dX4_learn_16 : decode cX4_learn 16 = .ok (.bipush 8, 2) := by decide +kernel
theorem dX4_learn_18 : decode cX4_learn 18 = .ok (.if_icmp .ge 17, 3) := by decide +kernel
theorem dX4_learn_21 : decode cX4_learn 21 = .ok (.aload_n 0, 1) := by decide +kernel
theorem dX4_learn_22 : decode cX4_learn 22 = .ok (.getfield 30, 3) := by decide +kernel
theorem dX4_learn_25 : decode cX4_learn 25 = .ok (.iload_n 2, 1) := by decide +kernel
theorem dX4_learn_26 : decode cX4_learn 26 = .ok (.bipush 10, 2) := by decide +kernel
theorem dX4_learn_28 : decode cX4_learn 28 = .ok (.iastore, 1) := by decide +kernel
theorem dX4_learn_29 : decode cX4_learn 29 = .ok (.iinc 2 1, 3) := by decide +kernel
theorem dX4_learn_32 : decode cX4_learn 32 = .ok (.goto (-17), 3) := by decide +kernel
theorem dX4_learn_35 : decode cX4_learn 35 = .ok (.iconst 0, 1) := by decide +kernel
theorem dX4_learn_36 : decode cX4_learn 36 = .ok (.istore_n 2, 1) := by decide +kernel
theorem dX4_learn_37 : decode cX4_learn 37 = .ok (.iconst 1, 1) := by decide +kernel
theorem dX4_learn_38 : decode cX4_learn 38 = .ok (.istore_n 3, 1) := by decide +kernel
theorem dX4_learn_39 : decode cX4_learn 39 = .ok (.iload_n 2, 1) := by decide +kernel
theorem dX4_learn_40 : decode cX4_learn 40 = .ok (.iload_n 1, 1) := by decide +kernel
theorem dX4_learn_41 : decode cX4_learn 41 = .ok (.if_icmp .ge 234, 3) := by decide +kernel
theorem dX4_learn_44 : decode cX4_learn 44 = .ok (.iload_n 3, 1) := by decide +kernel
theorem dX4_learn_45 : decode cX4_learn 45 = .ok (.ifCond .eq 230, 3) := by decide +kernel
theorem dX4_learn_48 : decode cX4_learn 48 = .ok (.iinc 2 1, 3) := by decide +kernel
theorem dX4_learn_51 : decode cX4_learn 51 = .ok (.iconst 0, 1) := by decide +kernel
theorem dX4_learn_52 : decode cX4_learn 52 = .ok (.istore 4, 2) := by decide +kernel
theorem dX4_learn_54 : decode cX4_learn 54 = .ok (.iload 4, 2) := by decide +kernel
theorem dX4_learn_56 : decode cX4_learn 56 = .ok (.aload_n 0, 1) := by decide +kernel
theorem dX4_learn_57 : decode cX4_learn 57 = .ok (.getfield 57, 3) := by decide +kernel
theorem dX4_learn_60 : decode cX4_learn 60 = .ok (.if_icmp .ge 22, 3) := by decide +kernel
theorem dX4_learn_63 : decode cX4_learn 63 = .ok (.aload_n 0, 1) := by decide +kernel
theorem dX4_learn_64 : decode cX4_learn 64 = .ok (.getfield 54, 3) := by decide +kernel
theorem dX4_learn_67 : decode cX4_learn 67 = .ok (.iload 4, 2) := by decide +kernel
theorem dX4_learn_69 : decode cX4_learn 69 = .ok (.aload_n 0, 1) := by decide +kernel
theorem dX4_learn_70 : decode cX4_learn 70 = .ok (.iload 4, 2) := by decide +kernel
theorem dX4_learn_72 : decode cX4_learn 72 = .ok (.invokevirtual 104, 3) := by decide +kernel
theorem dX4_learn_75 : decode cX4_learn 75 = .ok (.iastore, 1) := by decide +kernel
theorem dX4_learn_76 : decode cX4_learn 76 = .ok (.iinc 4 1, 3) := by decide +kernel
theorem dX4_learn_79 : decode cX4_learn 79 = .ok (.goto (-25), 3) := by decide +kernel
theorem dX4_learn_82 : decode cX4_learn 82 = .ok (.iconst 0, 1) := by decide +kernel
theorem dX4_learn_83 : decode cX4_learn 83 = .ok (.istore_n 3, 1) := by decide +kernel
theorem dX4_learn_84 : decode cX4_learn 84 = .ok (.iconst 0, 1) := by decide +kernel
theorem dX4_learn_85 : decode cX4_learn 85 = .ok (.istore 4, 2) := by decide +kernel
theorem dX4_learn_87 : decode cX4_learn 87 = .ok (.iload 4, 2) := by decide +kernel
theorem dX4_learn_89 : decode cX4_learn 89 = .ok (.bipush 8, 2) := by decide +kernel
theorem dX4_learn_91 : decode cX4_learn 91 = .ok (.if_icmp .ge 151, 3) := by decide +kernel
theorem dX4_learn_94 : decode cX4_learn 94 = .ok (.iconst 0, 1) := by decide +kernel
theorem dX4_learn_95 : decode cX4_learn 95 = .ok (.istore 5, 2) := by decide +kernel
theorem dX4_learn_97 : decode cX4_learn 97 = .ok (.iconst 0, 1) := by decide +kernel
theorem dX4_learn_98 : decode cX4_learn 98 = .ok (.istore 6, 2) := by decide +kernel
theorem dX4_learn_100 : decode cX4_learn 100 = .ok (.iconst 0, 1) := by decide +kernel
theorem dX4_learn_101 : decode cX4_learn 101 = .ok (.istore 7, 2) := by decide +kernel
theorem dX4_learn_103 : decode cX4_learn 103 = .ok (.iload 7, 2) := by decide +kernel
theorem dX4_learn_105 : decode cX4_learn 105 = .ok (.aload_n 0, 1) := by decide +kernel
theorem dX4_learn_106 : decode cX4_learn 106 = .ok (.getfield 57, 3) := by decide +kernel
theorem dX4_learn_109 : decode cX4_learn 109 = .ok (.if_icmp .ge 74, 3) := by decide +kernel
theorem dX4_learn_112 : decode cX4_learn 112 = .ok (.aload_n 0, 1) := by decide +kernel
theorem dX4_learn_113 : decode cX4_learn 113 = .ok (.getfield 54, 3) := by decide +kernel
theorem dX4_learn_116 : decode cX4_learn 116 = .ok (.iload 7, 2) := by decide +kernel
theorem dX4_learn_118 : decode cX4_learn 118 = .ok (.iaload, 1) := by decide +kernel
theorem dX4_learn_119 : decode cX4_learn 119 = .ok (.iconst (-1), 1) := by decide +kernel
theorem dX4_learn_120 : decode cX4_learn 120 = .ok (.if_icmp .eq 57, 3) := by decide +kernel
theorem dX4_learn_123 : decode cX4_learn 123 = .ok (.aload_n 0, 1) := by decide +kernel
theorem dX4_learn_124 : decode cX4_learn 124 = .ok (.getfield 17, 3) := by decide +kernel
theorem dX4_learn_127 : decode cX4_learn 127 = .ok (.bipush 8, 2) := by decide +kernel
theorem dX4_learn_129 : decode cX4_learn 129 = .ok (.iload 7, 2) := by decide +kernel
theorem dX4_learn_131 : decode cX4_learn 131 = .ok (.imul, 1) := by decide +kernel
theorem dX4_learn_132 : decode cX4_learn 132 = .ok (.iload 4, 2) := by decide +kernel
theorem dX4_learn_134 : decode cX4_learn 134 = .ok (.iadd, 1) := by decide +kernel
theorem dX4_learn_135 : decode cX4_learn 135 = .ok (.iaload, 1) := by decide +kernel
theorem dX4_learn_136 : decode cX4_learn 136 = .ok (.ifCond .le 41, 3) := by decide +kernel
theorem dX4_learn_139 : decode cX4_learn 139 = .ok (.iinc 5 1, 3) := by decide +kernel
theorem dX4_learn_142 : decode cX4_learn 142 = .ok (.iload 6, 2) := by decide +kernel
theorem dX4_learn_144 : decode cX4_learn 144 = .ok (.aload_n 0, 1) := by decide +kernel
theorem dX4_learn_145 : decode cX4_learn 145 = .ok (.getfield 17, 3) := by decide +kernel
theorem dX4_learn_148 : decode cX4_learn 148 = .ok (.bipush 8, 2) := by decide +kernel
theorem dX4_learn_150 : decode cX4_learn 150 = .ok (.iload 7, 2) := by decide +kernel
theorem dX4_learn_152 : decode cX4_learn 152 = .ok (.imul, 1) := by decide +kernel
theorem dX4_learn_153 : decode cX4_learn 153 = .ok (.iload 4, 2) := by decide +kernel
theorem dX4_learn_155 : decode cX4_learn 155 = .ok (.iadd, 1) := by decide +kernel
theorem dX4_learn_156 : decode cX4_learn 156 = .ok (.iaload, 1) := by decide +kernel
theorem dX4_learn_157 : decode cX4_learn 157 = .ok (.iconst 1, 1) := by decide +kernel
theorem dX4_learn_158 : decode cX4_learn 158 = .ok (.isub, 1) := by decide +kernel
theorem dX4_learn_159 : decode cX4_learn 159 = .ok (.aload_n 0, 1) := by decide +kernel
theorem dX4_learn_160 : decode cX4_learn 160 = .ok (.getfield 54, 3) := by decide +kernel
theorem dX4_learn_163 : decode cX4_learn 163 = .ok (.iload 7, 2) := by decide +kernel
theorem dX4_learn_165 : decode cX4_learn 165 = .ok (.iaload, 1) := by decide +kernel
theorem dX4_learn_166 : decode cX4_learn 166 = .ok (.if_icmp .ne 7, 3) := by decide +kernel
theorem dX4_learn_169 : decode cX4_learn 169 = .ok (.iconst 1, 1) := by decide +kernel
theorem dX4_learn_170 : decode cX4_learn 170 = .ok (.goto 4, 3) := by decide +kernel
theorem dX4_learn_173 : decode cX4_learn 173 = .ok (.iconst 0, 1) := by decide +kernel
theorem dX4_learn_174 : decode cX4_learn 174 = .ok (.iadd, 1) := by decide +kernel
theorem dX4_learn_175 : decode cX4_learn 175 = .ok (.istore 6, 2) := by decide +kernel
theorem dX4_learn_177 : decode cX4_learn 177 = .ok (.iinc 7 1, 3) := by decide +kernel
theorem dX4_learn_180 : decode cX4_learn 180 = .ok (.goto (-77), 3) := by decide +kernel
theorem dX4_learn_183 : decode cX4_learn 183 = .ok (.aload_n 0, 1) := by decide +kernel
theorem dX4_learn_184 : decode cX4_learn 184 = .ok (.getfield 33, 3) := by decide +kernel
theorem dX4_learn_187 : decode cX4_learn 187 = .ok (.iload 4, 2) := by decide +kernel
theorem dX4_learn_189 : decode cX4_learn 189 = .ok (.iload 5, 2) := by decide +kernel
theorem dX4_learn_191 : decode cX4_learn 191 = .ok (.ifCond .ne 7, 3) := by decide +kernel
theorem dX4_learn_194 : decode cX4_learn 194 = .ok (.iconst 1, 1) := by decide +kernel
theorem dX4_learn_195 : decode cX4_learn 195 = .ok (.goto 13, 3) := by decide +kernel
theorem dX4_learn_198 : decode cX4_learn 198 = .ok (.iconst 1, 1) := by decide +kernel
theorem dX4_learn_199 : decode cX4_learn 199 = .ok (.bipush 9, 2) := by decide +kernel
theorem dX4_learn_201 : decode cX4_learn 201 = .ok (.iload 6, 2) := by decide +kernel
theorem dX4_learn_203 : decode cX4_learn 203 = .ok (.imul, 1) := by decide +kernel
theorem dX4_learn_204 : decode cX4_learn 204 = .ok (.iload 5, 2) := by decide +kernel
theorem dX4_learn_206 : decode cX4_learn 206 = .ok (.idiv, 1) := by decide +kernel
theorem dX4_learn_207 : decode cX4_learn 207 = .ok (.iadd, 1) := by decide +kernel
theorem dX4_learn_208 : decode cX4_learn 208 = .ok (.iastore, 1) := by decide +kernel
theorem dX4_learn_209 : decode cX4_learn 209 = .ok (.iload_n 3, 1) := by decide +kernel
theorem dX4_learn_210 : decode cX4_learn 210 = .ok (.ifCond .ne 20, 3) := by decide +kernel
theorem dX4_learn_213 : decode cX4_learn 213 = .ok (.aload_n 0, 1) := by decide +kernel
theorem dX4_learn_214 : decode cX4_learn 214 = .ok (.getfield 33, 3) := by decide +kernel
theorem dX4_learn_217 : decode cX4_learn 217 = .ok (.iload 4, 2) := by decide +kernel
theorem dX4_learn_219 : decode cX4_learn 219 = .ok (.iaload, 1) := by decide +kernel
theorem dX4_learn_220 : decode cX4_learn 220 = .ok (.aload_n 0, 1) := by decide +kernel
theorem dX4_learn_221 : decode cX4_learn 221 = .ok (.getfield 30, 3) := by decide +kernel
theorem dX4_learn_224 : decode cX4_learn 224 = .ok (.iload 4, 2) := by decide +kernel
theorem dX4_learn_226 : decode cX4_learn 226 = .ok (.iaload, 1) := by decide +kernel
theorem dX4_learn_227 : decode cX4_learn 227 = .ok (.if_icmp .eq 7, 3) := by decide +kernel
theorem dX4_learn_230 : decode cX4_learn 230 = .ok (.iconst 1, 1) := by decide +kernel
theorem dX4_learn_231 : decode cX4_learn 231 = .ok (.goto 4, 3) := by decide +kernel
theorem dX4_learn_234 : decode cX4_learn 234 = .ok (.iconst 0, 1) := by decide +kernel
theorem dX4_learn_235 : decode cX4_learn 235 = .ok (.istore_n 3, 1) := by decide +kernel
theorem dX4_learn_236 : decode cX4_learn 236 = .ok (.iinc 4 1, 3) := by decide +kernel
theorem dX4_learn_239 : decode cX4_learn 239 = .ok (.goto (-152), 3) := by decide +kernel
theorem dX4_learn_242 : decode cX4_learn 242 = .ok (.iconst 0, 1) := by decide +kernel
theorem dX4_learn_243 : decode cX4_learn 243 = .ok (.istore 4, 2) := by decide +kernel
theorem dX4_learn_245 : decode cX4_learn 245 = .ok (.iload 4, 2) := by decide +kernel
theorem dX4_learn_247 : decode cX4_learn 247 = .ok (.bipush 8, 2) := by decide +kernel
theorem dX4_learn_249 : decode cX4_learn 249 = .ok (.if_icmp .ge 23, 3) := by decide +kernel
theorem dX4_learn_252 : decode cX4_learn 252 = .ok (.aload_n 0, 1) := by decide +kernel
theorem dX4_learn_253 : decode cX4_learn 253 = .ok (.getfield 30, 3) := by decide +kernel
theorem dX4_learn_256 : decode cX4_learn 256 = .ok (.iload 4, 2) := by decide +kernel
theorem dX4_learn_258 : decode cX4_learn 258 = .ok (.aload_n 0, 1) := by decide +kernel
theorem dX4_learn_259 : decode cX4_learn 259 = .ok (.getfield 33, 3) := by decide +kernel
theorem dX4_learn_262 : decode cX4_learn 262 = .ok (.iload 4, 2) := by decide +kernel
theorem dX4_learn_264 : decode cX4_learn 264 = .ok (.iaload, 1) := by decide +kernel
theorem dX4_learn_265 : decode cX4_learn 265 = .ok (.iastore, 1) := by decide +kernel
theorem dX4_learn_266 : decode cX4_learn 266 = .ok (.iinc 4 1, 3) := by decide +kernel
theorem dX4_learn_269 : decode cX4_learn 269 = .ok (.goto (-24), 3) := by decide +kernel
theorem dX4_learn_272 : decode cX4_learn 272 = .ok (.goto (-233), 3) := by decide +kernel
theorem dX4_learn_275 : decode cX4_learn 275 = .ok (.iload_n 2, 1) := by decide +kernel
theorem dX4_learn_276 : decode cX4_learn 276 = .ok (.ireturn, 1) := by decide +kernel
theorem dX4_cut_0 : decode cX4_cut 0 = .ok (.lload_n 3, 1) := by decide +kernel
theorem dX4_cut_1 : decode cX4_cut 1 = .ok (.lconst 0, 1) := by decide +kernel
theorem dX4_cut_2 : decode cX4_cut 2 = .ok (.lcmp, 1) := by decide +kernel
theorem dX4_cut_3 : decode cX4_cut 3 = .ok (.ifCond .ne 10, 3) := by decide +kernel
theorem dX4_cut_6 : decode cX4_cut 6 = .ok (.aload_n 0, 1) := by decide +kernel
theorem dX4_cut_7 : decode cX4_cut 7 = .ok (.iconst 2, 1) := by decide +kernel
theorem dX4_cut_8 : decode cX4_cut 8 = .ok (.putfield 1, 3) := by decide +kernel
theorem dX4_cut_11 : decode cX4_cut 11 = .ok (.lconst 0, 1) := by decide +kernel
theorem dX4_cut_12 : decode cX4_cut 12 = .ok (.lreturn, 1) := by decide +kernel
theorem dX4_cut_13 : decode cX4_cut 13 = .ok (.lload_n 1, 1) := by decide +kernel
theorem dX4_cut_14 : decode cX4_cut 14 = .ok (.lconst 0, 1) := by decide +kernel
theorem dX4_cut_15 : decode cX4_cut 15 = .ok (.lcmp, 1) := by decide +kernel
theorem dX4_cut_16 : decode cX4_cut 16 = .ok (.ifCond .ge 8, 3) := by decide +kernel
theorem dX4_cut_19 : decode cX4_cut 19 = .ok (.lload_n 1, 1) := by decide +kernel
theorem dX4_cut_20 : decode cX4_cut 20 = .ok (.lneg, 1) := by decide +kernel
theorem dX4_cut_21 : decode cX4_cut 21 = .ok (.goto 4, 3) := by decide +kernel
theorem dX4_cut_24 : decode cX4_cut 24 = .ok (.lload_n 1, 1) := by decide +kernel
theorem dX4_cut_25 : decode cX4_cut 25 = .ok (.lstore 6, 2) := by decide +kernel
theorem dX4_cut_27 : decode cX4_cut 27 = .ok (.lload_n 3, 1) := by decide +kernel
theorem dX4_cut_28 : decode cX4_cut 28 = .ok (.lconst 0, 1) := by decide +kernel
theorem dX4_cut_29 : decode cX4_cut 29 = .ok (.lcmp, 1) := by decide +kernel
theorem dX4_cut_30 : decode cX4_cut 30 = .ok (.ifCond .ge 8, 3) := by decide +kernel
theorem dX4_cut_33 : decode cX4_cut 33 = .ok (.lload_n 3, 1) := by decide +kernel
theorem dX4_cut_34 : decode cX4_cut 34 = .ok (.lneg, 1) := by decide +kernel
theorem dX4_cut_35 : decode cX4_cut 35 = .ok (.goto 4, 3) := by decide +kernel
theorem dX4_cut_38 : decode cX4_cut 38 = .ok (.lload_n 3, 1) := by decide +kernel
theorem dX4_cut_39 : decode cX4_cut 39 = .ok (.lstore 8, 2) := by decide +kernel
theorem dX4_cut_41 : decode cX4_cut 41 = .ok (.lload 8, 2) := by decide +kernel
theorem dX4_cut_43 : decode cX4_cut 43 = .ok (.lconst 0, 1) := by decide +kernel
theorem dX4_cut_44 : decode cX4_cut 44 = .ok (.lcmp, 1) := by decide +kernel
theorem dX4_cut_45 : decode cX4_cut 45 = .ok (.ifCond .eq 21, 3) := by decide +kernel
theorem dX4_cut_48 : decode cX4_cut 48 = .ok (.lload 6, 2) := by decide +kernel
theorem dX4_cut_50 : decode cX4_cut 50 = .ok (.lload 8, 2) := by decide +kernel
theorem dX4_cut_52 : decode cX4_cut 52 = .ok (.lrem, 1) := by decide +kernel
theorem dX4_cut_53 : decode cX4_cut 53 = .ok (.lstore 10, 2) := by decide +kernel
theorem dX4_cut_55 : decode cX4_cut 55 = .ok (.lload 8, 2) := by decide +kernel
theorem dX4_cut_57 : decode cX4_cut 57 = .ok (.lstore 6, 2) := by decide +kernel
theorem dX4_cut_59 : decode cX4_cut 59 = .ok (.lload 10, 2) := by decide +kernel
theorem dX4_cut_61 : decode cX4_cut 61 = .ok (.lstore 8, 2) := by decide +kernel
theorem dX4_cut_63 : decode cX4_cut 63 = .ok (.goto (-22), 3) := by decide +kernel
theorem dX4_cut_66 : decode cX4_cut 66 = .ok (.lload_n 3, 1) := by decide +kernel
theorem dX4_cut_67 : decode cX4_cut 67 = .ok (.lconst 0, 1) := by decide +kernel
theorem dX4_cut_68 : decode cX4_cut 68 = .ok (.lcmp, 1) := by decide +kernel
theorem dX4_cut_69 : decode cX4_cut 69 = .ok (.ifCond .ge 9, 3) := by decide +kernel
theorem dX4_cut_72 : decode cX4_cut 72 = .ok (.lload 6, 2) := by decide +kernel
theorem dX4_cut_74 : decode cX4_cut 74 = .ok (.lneg, 1) := by decide +kernel
theorem dX4_cut_75 : decode cX4_cut 75 = .ok (.goto 5, 3) := by decide +kernel
theorem dX4_cut_78 : decode cX4_cut 78 = .ok (.lload 6, 2) := by decide +kernel
theorem dX4_cut_80 : decode cX4_cut 80 = .ok (.lstore 10, 2) := by decide +kernel
theorem dX4_cut_82 : decode cX4_cut 82 = .ok (.iload 5, 2) := by decide +kernel
theorem dX4_cut_84 : decode cX4_cut 84 = .ok (.ifCond .ne 10, 3) := by decide +kernel
theorem dX4_cut_87 : decode cX4_cut 87 = .ok (.lload_n 1, 1) := by decide +kernel
theorem dX4_cut_88 : decode cX4_cut 88 = .ok (.lload 10, 2) := by decide +kernel
theorem dX4_cut_90 : decode cX4_cut 90 = .ok (.ldiv, 1) := by decide +kernel
theorem dX4_cut_91 : decode cX4_cut 91 = .ok (.goto 7, 3) := by decide +kernel
theorem dX4_cut_94 : decode cX4_cut 94 = .ok (.lload_n 3, 1) := by decide +kernel
theorem dX4_cut_95 : decode cX4_cut 95 = .ok (.lload 10, 2) := by decide +kernel
theorem dX4_cut_97 : decode cX4_cut 97 = .ok (.ldiv, 1) := by decide +kernel
theorem dX4_cut_98 : decode cX4_cut 98 = .ok (.lreturn, 1) := by decide +kernel
theorem dX4_agree_0 : decode cX4_agree 0 = .ok (.aload_n 0, 1) := by decide +kernel
theorem dX4_agree_1 : decode cX4_agree 1 = .ok (.iload_n 1, 1) := by decide +kernel
theorem dX4_agree_2 : decode cX4_agree 2 = .ok (.invokestatic 64, 3) := by decide +kernel
theorem dX4_agree_5 : decode cX4_agree 5 = .ok (.ifCond .eq 28, 3) := by decide +kernel
theorem dX4_agree_8 : decode cX4_agree 8 = .ok (.iload_n 2, 1) := by decide +kernel
theorem dX4_agree_9 : decode cX4_agree 9 = .ok (.invokestatic 64, 3) := by decide +kernel
theorem dX4_agree_12 : decode cX4_agree 12 = .ok (.ifCond .eq 21, 3) := by decide +kernel
theorem dX4_agree_15 : decode cX4_agree 15 = .ok (.iload_n 1, 1) := by decide +kernel
theorem dX4_agree_16 : decode cX4_agree 16 = .ok (.iload_n 2, 1) := by decide +kernel
theorem dX4_agree_17 : decode cX4_agree 17 = .ok (.if_icmp .eq 16, 3) := by decide +kernel
theorem dX4_agree_20 : decode cX4_agree 20 = .ok (.iload_n 3, 1) := by decide +kernel
theorem dX4_agree_21 : decode cX4_agree 21 = .ok (.iconst 0, 1) := by decide +kernel
theorem dX4_agree_22 : decode cX4_agree 22 = .ok (.iconst 3, 1) := by decide +kernel
theorem dX4_agree_23 : decode cX4_agree 23 = .ok (.invokestatic 60, 3) := by decide +kernel
theorem dX4_agree_26 : decode cX4_agree 26 = .ok (.ifCond .eq 7, 3) := by decide +kernel
theorem dX4_agree_29 : decode cX4_agree 29 = .ok (.iconst 0, 1) := by decide +kernel
theorem dX4_agree_30 : decode cX4_agree 30 = .ok (.goto 4, 3) := by decide +kernel
theorem dX4_agree_33 : decode cX4_agree 33 = .ok (.iconst 1, 1) := by decide +kernel
theorem dX4_agree_34 : decode cX4_agree 34 = .ok (.putfield 1, 3) := by decide +kernel
theorem dX4_agree_37 : decode cX4_agree 37 = .ok (.aload_n 0, 1) := by decide +kernel
theorem dX4_agree_38 : decode cX4_agree 38 = .ok (.getfield 1, 3) := by decide +kernel
theorem dX4_agree_41 : decode cX4_agree 41 = .ok (.ifCond .le 5, 3) := by decide +kernel
theorem dX4_agree_44 : decode cX4_agree 44 = .ok (.lconst 0, 1) := by decide +kernel
theorem dX4_agree_45 : decode cX4_agree 45 = .ok (.lreturn, 1) := by decide +kernel
theorem dX4_agree_46 : decode cX4_agree 46 = .ok (.lconst 0, 1) := by decide +kernel
theorem dX4_agree_47 : decode cX4_agree 47 = .ok (.lstore 4, 2) := by decide +kernel
theorem dX4_agree_49 : decode cX4_agree 49 = .ok (.lconst 0, 1) := by decide +kernel
theorem dX4_agree_50 : decode cX4_agree 50 = .ok (.lstore 6, 2) := by decide +kernel
theorem dX4_agree_52 : decode cX4_agree 52 = .ok (.lconst 0, 1) := by decide +kernel
theorem dX4_agree_53 : decode cX4_agree 53 = .ok (.lstore 8, 2) := by decide +kernel
theorem dX4_agree_55 : decode cX4_agree 55 = .ok (.iconst 0, 1) := by decide +kernel
theorem dX4_agree_56 : decode cX4_agree 56 = .ok (.istore 10, 2) := by decide +kernel
theorem dX4_agree_58 : decode cX4_agree 58 = .ok (.iload 10, 2) := by decide +kernel
theorem dX4_agree_60 : decode cX4_agree 60 = .ok (.iconst 5, 1) := by decide +kernel
theorem dX4_agree_61 : decode cX4_agree 61 = .ok (.if_icmp .ge 150, 3) := by decide +kernel
theorem dX4_agree_64 : decode cX4_agree 64 = .ok (.lconst 0, 1) := by decide +kernel
theorem dX4_agree_65 : decode cX4_agree 65 = .ok (.lstore 11, 2) := by decide +kernel
theorem dX4_agree_67 : decode cX4_agree 67 = .ok (.lconst 0, 1) := by decide +kernel
theorem dX4_agree_68 : decode cX4_agree 68 = .ok (.lstore 13, 2) := by decide +kernel
theorem dX4_agree_70 : decode cX4_agree 70 = .ok (.iconst 0, 1) := by decide +kernel
theorem dX4_agree_71 : decode cX4_agree 71 = .ok (.istore 15, 2) := by decide +kernel
theorem dX4_agree_73 : decode cX4_agree 73 = .ok (.iload 15, 2) := by decide +kernel
theorem dX4_agree_75 : decode cX4_agree 75 = .ok (.aload_n 0, 1) := by decide +kernel
theorem dX4_agree_76 : decode cX4_agree 76 = .ok (.getfield 57, 3) := by decide +kernel
theorem dX4_agree_79 : decode cX4_agree 79 = .ok (.if_icmp .ge 109, 3) := by decide +kernel
theorem dX4_agree_82 : decode cX4_agree 82 = .ok (.aload_n 0, 1) := by decide +kernel
theorem dX4_agree_83 : decode cX4_agree 83 = .ok (.getfield 17, 3) := by decide +kernel
theorem dX4_agree_86 : decode cX4_agree 86 = .ok (.bipush 8, 2) := by decide +kernel
theorem dX4_agree_88 : decode cX4_agree 88 = .ok (.iload 15, 2) := by decide +kernel
theorem dX4_agree_90 : decode cX4_agree 90 = .ok (.imul, 1) := by decide +kernel
theorem dX4_agree_91 : decode cX4_agree 91 = .ok (.iload_n 1, 1) := by decide +kernel
theorem dX4_agree_92 : decode cX4_agree 92 = .ok (.iadd, 1) := by decide +kernel
theorem dX4_agree_93 : decode cX4_agree 93 = .ok (.iaload, 1) := by decide +kernel
theorem dX4_agree_94 : decode cX4_agree 94 = .ok (.iconst 1, 1) := by decide +kernel
theorem dX4_agree_95 : decode cX4_agree 95 = .ok (.isub, 1) := by decide +kernel
theorem dX4_agree_96 : decode cX4_agree 96 = .ok (.istore 16, 2) := by decide +kernel
theorem dX4_agree_98 : decode cX4_agree 98 = .ok (.aload_n 0, 1) := by decide +kernel
theorem dX4_agree_99 : decode cX4_agree 99 = .ok (.getfield 17, 3) := by decide +kernel
theorem dX4_agree_102 : decode cX4_agree 102 = .ok (.bipush 8, 2) := by decide +kernel
theorem dX4_agree_104 : decode cX4_agree 104 = .ok (.iload 15, 2) := by decide +kernel
theorem dX4_agree_106 : decode cX4_agree 106 = .ok (.imul, 1) := by decide +kernel
theorem dX4_agree_107 : decode cX4_agree 107 = .ok (.iload_n 2, 1) := by decide +kernel
theorem dX4_agree_108 : decode cX4_agree 108 = .ok (.iadd, 1) := by decide +kernel
theorem dX4_agree_109 : decode cX4_agree 109 = .ok (.iaload, 1) := by decide +kernel
theorem dX4_agree_110 : decode cX4_agree 110 = .ok (.iconst 1, 1) := by decide +kernel
theorem dX4_agree_111 : decode cX4_agree 111 = .ok (.isub, 1) := by decide +kernel
theorem dX4_agree_112 : decode cX4_agree 112 = .ok (.istore 17, 2) := by decide +kernel
theorem dX4_agree_114 : decode cX4_agree 114 = .ok (.iload 16, 2) := by decide +kernel
theorem dX4_agree_116 : decode cX4_agree 116 = .ok (.ifCond .lt 66, 3) := by decide +kernel
theorem dX4_agree_119 : decode cX4_agree 119 = .ok (.iload 17, 2) := by decide +kernel
theorem dX4_agree_121 : decode cX4_agree 121 = .ok (.ifCond .lt 61, 3) := by decide +kernel
theorem dX4_agree_124 : decode cX4_agree 124 = .ok (.lload 11, 2) := by decide +kernel
theorem dX4_agree_126 : decode cX4_agree 126 = .ok (.iload 16, 2) := by decide +kernel
theorem dX4_agree_128 : decode cX4_agree 128 = .ok (.iload 10, 2) := by decide +kernel
theorem dX4_agree_130 : decode cX4_agree 130 = .ok (.if_icmp .ne 7, 3) := by decide +kernel
theorem dX4_agree_133 : decode cX4_agree 133 = .ok (.lconst 1, 1) := by decide +kernel
theorem dX4_agree_134 : decode cX4_agree 134 = .ok (.goto 4, 3) := by decide +kernel
theorem dX4_agree_137 : decode cX4_agree 137 = .ok (.lconst 0, 1) := by decide +kernel
theorem dX4_agree_138 : decode cX4_agree 138 = .ok (.ladd, 1) := by decide +kernel
theorem dX4_agree_139 : decode cX4_agree 139 = .ok (.lstore 11, 2) := by decide +kernel
theorem dX4_agree_141 : decode cX4_agree 141 = .ok (.lload 13, 2) := by decide +kernel
theorem dX4_agree_143 : decode cX4_agree 143 = .ok (.iload 17, 2) := by decide +kernel
theorem dX4_agree_145 : decode cX4_agree 145 = .ok (.iload 10, 2) := by decide +kernel
theorem dX4_agree_147 : decode cX4_agree 147 = .ok (.if_icmp .ne 7, 3) := by decide +kernel
theorem dX4_agree_150 : decode cX4_agree 150 = .ok (.lconst 1, 1) := by decide +kernel
theorem dX4_agree_151 : decode cX4_agree 151 = .ok (.goto 4, 3) := by decide +kernel
theorem dX4_agree_154 : decode cX4_agree 154 = .ok (.lconst 0, 1) := by decide +kernel
theorem dX4_agree_155 : decode cX4_agree 155 = .ok (.ladd, 1) := by decide +kernel
theorem dX4_agree_156 : decode cX4_agree 156 = .ok (.lstore 13, 2) := by decide +kernel
theorem dX4_agree_158 : decode cX4_agree 158 = .ok (.lload 6, 2) := by decide +kernel
theorem dX4_agree_160 : decode cX4_agree 160 = .ok (.iload 16, 2) := by decide +kernel
theorem dX4_agree_162 : decode cX4_agree 162 = .ok (.iload 10, 2) := by decide +kernel
theorem dX4_agree_164 : decode cX4_agree 164 = .ok (.if_icmp .ne 14, 3) := by decide +kernel
theorem dX4_agree_167 : decode cX4_agree 167 = .ok (.iload 17, 2) := by decide +kernel
theorem dX4_agree_169 : decode cX4_agree 169 = .ok (.iload 10, 2) := by decide +kernel
theorem dX4_agree_171 : decode cX4_agree 171 = .ok (.if_icmp .ne 7, 3) := by decide +kernel
theorem dX4_agree_174 : decode cX4_agree 174 = .ok (.lconst 1, 1) := by decide +kernel
theorem dX4_agree_175 : decode cX4_agree 175 = .ok (.goto 4, 3) := by decide +kernel
theorem dX4_agree_178 : decode cX4_agree 178 = .ok (.lconst 0, 1) := by decide +kernel
theorem dX4_agree_179 : decode cX4_agree 179 = .ok (.ladd, 1) := by decide +kernel
theorem dX4_agree_180 : decode cX4_agree 180 = .ok (.lstore 6, 2) := by decide +kernel
theorem dX4_agree_182 : decode cX4_agree 182 = .ok (.iinc 15 1, 3) := by decide +kernel
theorem dX4_agree_185 : decode cX4_agree 185 = .ok (.goto (-112), 3) := by decide +kernel
theorem dX4_agree_188 : decode cX4_agree 188 = .ok (.lload 4, 2) := by decide +kernel
theorem dX4_agree_190 : decode cX4_agree 190 = .ok (.lload 11, 2) := by decide +kernel
theorem dX4_agree_192 : decode cX4_agree 192 = .ok (.ladd, 1) := by decide +kernel
theorem dX4_agree_193 : decode cX4_agree 193 = .ok (.lstore 4, 2) := by decide +kernel
theorem dX4_agree_195 : decode cX4_agree 195 = .ok (.lload 8, 2) := by decide +kernel
theorem dX4_agree_197 : decode cX4_agree 197 = .ok (.lload 11, 2) := by decide +kernel
theorem dX4_agree_199 : decode cX4_agree 199 = .ok (.lload 13, 2) := by decide +kernel
theorem dX4_agree_201 : decode cX4_agree 201 = .ok (.lmul, 1) := by decide +kernel
theorem dX4_agree_202 : decode cX4_agree 202 = .ok (.ladd, 1) := by decide +kernel
theorem dX4_agree_203 : decode cX4_agree 203 = .ok (.lstore 8, 2) := by decide +kernel
theorem dX4_agree_205 : decode cX4_agree 205 = .ok (.iinc 10 1, 3) := by decide +kernel
theorem dX4_agree_208 : decode cX4_agree 208 = .ok (.goto (-150), 3) := by decide +kernel
theorem dX4_agree_211 : decode cX4_agree 211 = .ok (.iload_n 3, 1) := by decide +kernel
theorem dX4_agree_212 : decode cX4_agree 212 = .ok (.iconst 2, 1) := by decide +kernel
theorem dX4_agree_213 : decode cX4_agree 213 = .ok (.if_icmp .ne 8, 3) := by decide +kernel
theorem dX4_agree_216 : decode cX4_agree 216 = .ok (.lload 4, 2) := by decide +kernel
theorem dX4_agree_218 : decode cX4_agree 218 = .ok (.goto 34, 3) := by decide +kernel
theorem dX4_agree_221 : decode cX4_agree 221 = .ok (.iload_n 3, 1) := by decide +kernel
theorem dX4_agree_222 : decode cX4_agree 222 = .ok (.iconst 3, 1) := by decide +kernel
theorem dX4_agree_223 : decode cX4_agree 223 = .ok (.if_icmp .ne 8, 3) := by decide +kernel
theorem dX4_agree_226 : decode cX4_agree 226 = .ok (.lload 6, 2) := by decide +kernel
theorem dX4_agree_228 : decode cX4_agree 228 = .ok (.goto 24, 3) := by decide +kernel
theorem dX4_agree_231 : decode cX4_agree 231 = .ok (.aload_n 0, 1) := by decide +kernel
theorem dX4_agree_232 : decode cX4_agree 232 = .ok (.lload 4, 2) := by decide +kernel
theorem dX4_agree_234 : decode cX4_agree 234 = .ok (.lload 6, 2) := by decide +kernel
theorem dX4_agree_236 : decode cX4_agree 236 = .ok (.lmul, 1) := by decide +kernel
theorem dX4_agree_237 : decode cX4_agree 237 = .ok (.lload 8, 2) := by decide +kernel
theorem dX4_agree_239 : decode cX4_agree 239 = .ok (.lsub, 1) := by decide +kernel
theorem dX4_agree_240 : decode cX4_agree 240 = .ok (.lload 4, 2) := by decide +kernel
theorem dX4_agree_242 : decode cX4_agree 242 = .ok (.lload 4, 2) := by decide +kernel
theorem dX4_agree_244 : decode cX4_agree 244 = .ok (.lmul, 1) := by decide +kernel
theorem dX4_agree_245 : decode cX4_agree 245 = .ok (.lload 8, 2) := by decide +kernel
theorem dX4_agree_247 : decode cX4_agree 247 = .ok (.lsub, 1) := by decide +kernel
theorem dX4_agree_248 : decode cX4_agree 248 = .ok (.iload_n 3, 1) := by decide +kernel
theorem dX4_agree_249 : decode cX4_agree 249 = .ok (.invokevirtual 107, 3) := by decide +kernel
theorem dX4_agree_252 : decode cX4_agree 252 = .ok (.lreturn, 1) := by decide +kernel
theorem dX4_labellings_0 : decode cX4_labellings 0 = .ok (.iconst 0, 1) := by decide +kernel
theorem dX4_labellings_1 : decode cX4_labellings 1 = .ok (.istore_n 2, 1) := by decide +kernel
theorem dX4_labellings_2 : decode cX4_labellings 2 = .ok (.iconst 0, 1) := by decide +kernel
theorem dX4_labellings_3 : decode cX4_labellings 3 = .ok (.istore_n 3, 1) := by decide +kernel
theorem dX4_labellings_4 : decode cX4_labellings 4 = .ok (.iload_n 3, 1) := by decide +kernel
theorem dX4_labellings_5 : decode cX4_labellings 5 = .ok (.bipush 8, 2) := by decide +kernel
theorem dX4_labellings_7 : decode cX4_labellings 7 = .ok (.if_icmp .ge 31, 3) := by decide +kernel
theorem dX4_labellings_10 : decode cX4_labellings 10 = .ok (.iload_n 2, 1) := by decide +kernel
theorem dX4_labellings_11 : decode cX4_labellings 11 = .ok (.aload_n 0, 1) := by decide +kernel
theorem dX4_labellings_12 : decode cX4_labellings 12 = .ok (.getfield 17, 3) := by decide +kernel
theorem dX4_labellings_15 : decode cX4_labellings 15 = .ok (.bipush 8, 2) := by decide +kernel
theorem dX4_labellings_17 : decode cX4_labellings 17 = .ok (.iload_n 1, 1) := by decide +kernel
theorem dX4_labellings_18 : decode cX4_labellings 18 = .ok (.imul, 1) := by decide +kernel
theorem dX4_labellings_19 : decode cX4_labellings 19 = .ok (.iload_n 3, 1) := by decide +kernel
theorem dX4_labellings_20 : decode cX4_labellings 20 = .ok (.iadd, 1) := by decide +kernel
theorem dX4_labellings_21 : decode cX4_labellings 21 = .ok (.iaload, 1) := by decide +kernel
theorem dX4_labellings_22 : decode cX4_labellings 22 = .ok (.ifCond .le 7, 3) := by decide +kernel
theorem dX4_labellings_25 : decode cX4_labellings 25 = .ok (.iconst 1, 1) := by decide +kernel
theorem dX4_labellings_26 : decode cX4_labellings 26 = .ok (.goto 4, 3) := by decide +kernel
theorem dX4_labellings_29 : decode cX4_labellings 29 = .ok (.iconst 0, 1) := by decide +kernel
theorem dX4_labellings_30 : decode cX4_labellings 30 = .ok (.iadd, 1) := by decide +kernel
theorem dX4_labellings_31 : decode cX4_labellings 31 = .ok (.istore_n 2, 1) := by decide +kernel
theorem dX4_labellings_32 : decode cX4_labellings 32 = .ok (.iinc 3 1, 3) := by decide +kernel
theorem dX4_labellings_35 : decode cX4_labellings 35 = .ok (.goto (-31), 3) := by decide +kernel
theorem dX4_labellings_38 : decode cX4_labellings 38 = .ok (.iload_n 2, 1) := by decide +kernel
theorem dX4_labellings_39 : decode cX4_labellings 39 = .ok (.ireturn, 1) := by decide +kernel
theorem dX4_countOf_0 : decode cX4_countOf 0 = .ok (.iconst 0, 1) := by decide +kernel
theorem dX4_countOf_1 : decode cX4_countOf 1 = .ok (.istore_n 3, 1) := by decide +kernel
theorem dX4_countOf_2 : decode cX4_countOf 2 = .ok (.iconst 0, 1) := by decide +kernel
theorem dX4_countOf_3 : decode cX4_countOf 3 = .ok (.istore 4, 2) := by decide +kernel
theorem dX4_countOf_5 : decode cX4_countOf 5 = .ok (.iload 4, 2) := by decide +kernel
theorem dX4_countOf_7 : decode cX4_countOf 7 = .ok (.bipush 8, 2) := by decide +kernel
theorem dX4_countOf_9 : decode cX4_countOf 9 = .ok (.if_icmp .ge 35, 3) := by decide +kernel
theorem dX4_countOf_12 : decode cX4_countOf 12 = .ok (.iload_n 3, 1) := by decide +kernel
theorem dX4_countOf_13 : decode cX4_countOf 13 = .ok (.aload_n 0, 1) := by decide +kernel
theorem dX4_countOf_14 : decode cX4_countOf 14 = .ok (.getfield 17, 3) := by decide +kernel
theorem dX4_countOf_17 : decode cX4_countOf 17 = .ok (.bipush 8, 2) := by decide +kernel
theorem dX4_countOf_19 : decode cX4_countOf 19 = .ok (.iload_n 1, 1) := by decide +kernel
theorem dX4_countOf_20 : decode cX4_countOf 20 = .ok (.imul, 1) := by decide +kernel
theorem dX4_countOf_21 : decode cX4_countOf 21 = .ok (.iload 4, 2) := by decide +kernel
theorem dX4_countOf_23 : decode cX4_countOf 23 = .ok (.iadd, 1) := by decide +kernel
theorem dX4_countOf_24 : decode cX4_countOf 24 = .ok (.iaload, 1) := by decide +kernel
theorem dX4_countOf_25 : decode cX4_countOf 25 = .ok (.iload_n 2, 1) := by decide +kernel
theorem dX4_countOf_26 : decode cX4_countOf 26 = .ok (.iconst 1, 1) := by decide +kernel
theorem dX4_countOf_27 : decode cX4_countOf 27 = .ok (.iadd, 1) := by decide +kernel
theorem dX4_countOf_28 : decode cX4_countOf 28 = .ok (.if_icmp .ne 7, 3) := by decide +kernel
theorem dX4_countOf_31 : decode cX4_countOf 31 = .ok (.iconst 1, 1) := by decide +kernel
theorem dX4_countOf_32 : decode cX4_countOf 32 = .ok (.goto 4, 3) := by decide +kernel
theorem dX4_countOf_35 : decode cX4_countOf 35 = .ok (.iconst 0, 1) := by decide +kernel
theorem dX4_countOf_36 : decode cX4_countOf 36 = .ok (.iadd, 1) := by decide +kernel
theorem dX4_countOf_37 : decode cX4_countOf 37 = .ok (.istore_n 3, 1) := by decide +kernel
theorem dX4_countOf_38 : decode cX4_countOf 38 = .ok (.iinc 4 1, 3) := by decide +kernel
theorem dX4_countOf_41 : decode cX4_countOf 41 = .ok (.goto (-36), 3) := by decide +kernel
theorem dX4_countOf_44 : decode cX4_countOf 44 = .ok (.iload_n 3, 1) := by decide +kernel
theorem dX4_countOf_45 : decode cX4_countOf 45 = .ok (.ireturn, 1) := by decide +kernel
theorem dX4_all_0 : decode cX4_all 0 = .ok (.aload_n 0, 1) := by decide +kernel
theorem dX4_all_1 : decode cX4_all 1 = .ok (.iload_n 1, 1) := by decide +kernel
theorem dX4_all_2 : decode cX4_all 2 = .ok (.iconst 0, 1) := by decide +kernel
theorem dX4_all_3 : decode cX4_all 3 = .ok (.iconst 3, 1) := by decide +kernel
theorem dX4_all_4 : decode cX4_all 4 = .ok (.invokestatic 60, 3) := by decide +kernel
theorem dX4_all_7 : decode cX4_all 7 = .ok (.ifCond .eq 7, 3) := by decide +kernel
theorem dX4_all_10 : decode cX4_all 10 = .ok (.iconst 0, 1) := by decide +kernel
theorem dX4_all_11 : decode cX4_all 11 = .ok (.goto 4, 3) := by decide +kernel
theorem dX4_all_14 : decode cX4_all 14 = .ok (.iconst 1, 1) := by decide +kernel
theorem dX4_all_15 : decode cX4_all 15 = .ok (.putfield 1, 3) := by decide +kernel
theorem dX4_all_18 : decode cX4_all 18 = .ok (.aload_n 0, 1) := by decide +kernel
theorem dX4_all_19 : decode cX4_all 19 = .ok (.getfield 1, 3) := by decide +kernel
theorem dX4_all_22 : decode cX4_all 22 = .ok (.ifCond .le 5, 3) := by decide +kernel
theorem dX4_all_25 : decode cX4_all 25 = .ok (.lconst 0, 1) := by decide +kernel
theorem dX4_all_26 : decode cX4_all 26 = .ok (.lreturn, 1) := by decide +kernel
theorem dX4_all_27 : decode cX4_all 27 = .ok (.lconst 0, 1) := by decide +kernel
theorem dX4_all_28 : decode cX4_all 28 = .ok (.lstore_n 2, 1) := by decide +kernel
theorem dX4_all_29 : decode cX4_all 29 = .ok (.lconst 0, 1) := by decide +kernel
theorem dX4_all_30 : decode cX4_all 30 = .ok (.lstore 4, 2) := by decide +kernel
theorem dX4_all_32 : decode cX4_all 32 = .ok (.lconst 0, 1) := by decide +kernel
theorem dX4_all_33 : decode cX4_all 33 = .ok (.lstore 6, 2) := by decide +kernel
theorem dX4_all_35 : decode cX4_all 35 = .ok (.iconst 0, 1) := by decide +kernel
theorem dX4_all_36 : decode cX4_all 36 = .ok (.istore 8, 2) := by decide +kernel
theorem dX4_all_38 : decode cX4_all 38 = .ok (.iload 8, 2) := by decide +kernel
theorem dX4_all_40 : decode cX4_all 40 = .ok (.aload_n 0, 1) := by decide +kernel
theorem dX4_all_41 : decode cX4_all 41 = .ok (.getfield 57, 3) := by decide +kernel
theorem dX4_all_44 : decode cX4_all 44 = .ok (.if_icmp .ge 99, 3) := by decide +kernel
theorem dX4_all_47 : decode cX4_all 47 = .ok (.aload_n 0, 1) := by decide +kernel
theorem dX4_all_48 : decode cX4_all 48 = .ok (.iload 8, 2) := by decide +kernel
theorem dX4_all_50 : decode cX4_all 50 = .ok (.invokevirtual 111, 3) := by decide +kernel
theorem dX4_all_53 : decode cX4_all 53 = .ok (.istore 9, 2) := by decide +kernel
theorem dX4_all_55 : decode cX4_all 55 = .ok (.iload 9, 2) := by decide +kernel
theorem dX4_all_57 : decode cX4_all 57 = .ok (.iconst 1, 1) := by decide +kernel
theorem dX4_all_58 : decode cX4_all 58 = .ok (.if_icmp .le 79, 3) := by decide +kernel
theorem dX4_all_61 : decode cX4_all 61 = .ok (.lload_n 2, 1) := by decide +kernel
theorem dX4_all_62 : decode cX4_all 62 = .ok (.lconst 1, 1) := by decide +kernel
theorem dX4_all_63 : decode cX4_all 63 = .ok (.ladd, 1) := by decide +kernel
theorem dX4_all_64 : decode cX4_all 64 = .ok (.lstore_n 2, 1) := by decide +kernel
theorem dX4_all_65 : decode cX4_all 65 = .ok (.lload 6, 2) := by decide +kernel
theorem dX4_all_67 : decode cX4_all 67 = .ok (.iload 9, 2) := by decide +kernel
theorem dX4_all_69 : decode cX4_all 69 = .ok (.i2l, 1) := by decide +kernel
theorem dX4_all_70 : decode cX4_all 70 = .ok (.ladd, 1) := by decide +kernel
theorem dX4_all_71 : decode cX4_all 71 = .ok (.lstore 6, 2) := by decide +kernel
theorem dX4_all_73 : decode cX4_all 73 = .ok (.iconst 0, 1) := by decide +kernel
theorem dX4_all_74 : decode cX4_all 74 = .ok (.istore 10, 2) := by decide +kernel
theorem dX4_all_76 : decode cX4_all 76 = .ok (.iconst 0, 1) := by decide +kernel
theorem dX4_all_77 : decode cX4_all 77 = .ok (.istore 11, 2) := by decide +kernel
theorem dX4_all_79 : decode cX4_all 79 = .ok (.iload 11, 2) := by decide +kernel
theorem dX4_all_81 : decode cX4_all 81 = .ok (.iconst 5, 1) := by decide +kernel
theorem dX4_all_82 : decode cX4_all 82 = .ok (.if_icmp .ge 33, 3) := by decide +kernel
theorem dX4_all_85 : decode cX4_all 85 = .ok (.aload_n 0, 1) := by decide +kernel
theorem dX4_all_86 : decode cX4_all 86 = .ok (.iload 8, 2) := by decide +kernel
theorem dX4_all_88 : decode cX4_all 88 = .ok (.iload 11, 2) := by decide +kernel
theorem dX4_all_90 : decode cX4_all 90 = .ok (.invokevirtual 114, 3) := by decide +kernel
theorem dX4_all_93 : decode cX4_all 93 = .ok (.istore 12, 2) := by decide +kernel
theorem dX4_all_95 : decode cX4_all 95 = .ok (.iload 10, 2) := by decide +kernel
theorem dX4_all_97 : decode cX4_all 97 = .ok (.iload 12, 2) := by decide +kernel
theorem dX4_all_99 : decode cX4_all 99 = .ok (.iload 12, 2) := by decide +kernel
theorem dX4_all_101 : decode cX4_all 101 = .ok (.iconst 1, 1) := by decide +kernel
theorem dX4_all_102 : decode cX4_all 102 = .ok (.isub, 1) := by decide +kernel
theorem dX4_all_103 : decode cX4_all 103 = .ok (.imul, 1) := by decide +kernel
theorem dX4_all_104 : decode cX4_all 104 = .ok (.iconst 2, 1) := by decide +kernel
theorem dX4_all_105 : decode cX4_all 105 = .ok (.idiv, 1) := by decide +kernel
theorem dX4_all_106 : decode cX4_all 106 = .ok (.iadd, 1) := by decide +kernel
theorem dX4_all_107 : decode cX4_all 107 = .ok (.istore 10, 2) := by decide +kernel
theorem dX4_all_109 : decode cX4_all 109 = .ok (.iinc 11 1, 3) := by decide +kernel
theorem dX4_all_112 : decode cX4_all 112 = .ok (.goto (-33), 3) := by decide +kernel
theorem dX4_all_115 : decode cX4_all 115 = .ok (.lload 4, 2) := by decide +kernel
theorem dX4_all_117 : decode cX4_all 117 = .ok (.sipush 840, 3) := by decide +kernel
theorem dX4_all_120 : decode cX4_all 120 = .ok (.iload 10, 2) := by decide +kernel
theorem dX4_all_122 : decode cX4_all 122 = .ok (.imul, 1) := by decide +kernel
theorem dX4_all_123 : decode cX4_all 123 = .ok (.iload 9, 2) := by decide +kernel
theorem dX4_all_125 : decode cX4_all 125 = .ok (.iload 9, 2) := by decide +kernel
theorem dX4_all_127 : decode cX4_all 127 = .ok (.iconst 1, 1) := by decide +kernel
theorem dX4_all_128 : decode cX4_all 128 = .ok (.isub, 1) := by decide +kernel
theorem dX4_all_129 : decode cX4_all 129 = .ok (.imul, 1) := by decide +kernel
theorem dX4_all_130 : decode cX4_all 130 = .ok (.iconst 2, 1) := by decide +kernel
theorem dX4_all_131 : decode cX4_all 131 = .ok (.idiv, 1) := by decide +kernel
theorem dX4_all_132 : decode cX4_all 132 = .ok (.idiv, 1) := by decide +kernel
theorem dX4_all_133 : decode cX4_all 133 = .ok (.i2l, 1) := by decide +kernel
theorem dX4_all_134 : decode cX4_all 134 = .ok (.ladd, 1) := by decide +kernel
theorem dX4_all_135 : decode cX4_all 135 = .ok (.lstore 4, 2) := by decide +kernel
theorem dX4_all_137 : decode cX4_all 137 = .ok (.iinc 8 1, 3) := by decide +kernel
theorem dX4_all_140 : decode cX4_all 140 = .ok (.goto (-102), 3) := by decide +kernel
theorem dX4_all_143 : decode cX4_all 143 = .ok (.lconst 0, 1) := by decide +kernel
theorem dX4_all_144 : decode cX4_all 144 = .ok (.lstore 8, 2) := by decide +kernel
theorem dX4_all_146 : decode cX4_all 146 = .ok (.iconst 0, 1) := by decide +kernel
theorem dX4_all_147 : decode cX4_all 147 = .ok (.istore 10, 2) := by decide +kernel
theorem dX4_all_149 : decode cX4_all 149 = .ok (.iload 10, 2) := by decide +kernel
theorem dX4_all_151 : decode cX4_all 151 = .ok (.iconst 5, 1) := by decide +kernel
theorem dX4_all_152 : decode cX4_all 152 = .ok (.if_icmp .ge 68, 3) := by decide +kernel
theorem dX4_all_155 : decode cX4_all 155 = .ok (.lconst 0, 1) := by decide +kernel
theorem dX4_all_156 : decode cX4_all 156 = .ok (.lstore 11, 2) := by decide +kernel
theorem dX4_all_158 : decode cX4_all 158 = .ok (.iconst 0, 1) := by decide +kernel
theorem dX4_all_159 : decode cX4_all 159 = .ok (.istore 13, 2) := by decide +kernel
theorem dX4_all_161 : decode cX4_all 161 = .ok (.iload 13, 2) := by decide +kernel
theorem dX4_all_163 : decode cX4_all 163 = .ok (.aload_n 0, 1) := by decide +kernel
theorem dX4_all_164 : decode cX4_all 164 = .ok (.getfield 57, 3) := by decide +kernel
theorem dX4_all_167 : decode cX4_all 167 = .ok (.if_icmp .ge 37, 3) := by decide +kernel
theorem dX4_all_170 : decode cX4_all 170 = .ok (.lload 11, 2) := by decide +kernel
theorem dX4_all_172 : decode cX4_all 172 = .ok (.aload_n 0, 1) := by decide +kernel
theorem dX4_all_173 : decode cX4_all 173 = .ok (.iload 13, 2) := by decide +kernel
theorem dX4_all_175 : decode cX4_all 175 = .ok (.invokevirtual 111, 3) := by decide +kernel
theorem dX4_all_178 : decode cX4_all 178 = .ok (.iconst 1, 1) := by decide +kernel
theorem dX4_all_179 : decode cX4_all 179 = .ok (.if_icmp .le 15, 3) := by decide +kernel
theorem dX4_all_182 : decode cX4_all 182 = .ok (.aload_n 0, 1) := by decide +kernel
theorem dX4_all_183 : decode cX4_all 183 = .ok (.iload 13, 2) := by decide +kernel
theorem dX4_all_185 : decode cX4_all 185 = .ok (.iload 10, 2) := by decide +kernel
theorem dX4_all_187 : decode cX4_all 187 = .ok (.invokevirtual 114, 3) := by decide +kernel
theorem dX4_all_190 : decode cX4_all 190 = .ok (.i2l, 1) := by decide +kernel
theorem dX4_all_191 : decode cX4_all 191 = .ok (.goto 4, 3) := by decide +kernel
theorem dX4_all_194 : decode cX4_all 194 = .ok (.lconst 0, 1) := by decide +kernel
theorem dX4_all_195 : decode cX4_all 195 = .ok (.ladd, 1) := by decide +kernel
theorem dX4_all_196 : decode cX4_all 196 = .ok (.lstore 11, 2) := by decide +kernel
theorem dX4_all_198 : decode cX4_all 198 = .ok (.iinc 13 1, 3) := by decide +kernel
theorem dX4_all_201 : decode cX4_all 201 = .ok (.goto (-40), 3) := by decide +kernel
theorem dX4_all_204 : decode cX4_all 204 = .ok (.lload 8, 2) := by decide +kernel
theorem dX4_all_206 : decode cX4_all 206 = .ok (.lload 11, 2) := by decide +kernel
theorem dX4_all_208 : decode cX4_all 208 = .ok (.lload 11, 2) := by decide +kernel
theorem dX4_all_210 : decode cX4_all 210 = .ok (.lmul, 1) := by decide +kernel
theorem dX4_all_211 : decode cX4_all 211 = .ok (.ladd, 1) := by decide +kernel
theorem dX4_all_212 : decode cX4_all 212 = .ok (.lstore 8, 2) := by decide +kernel
theorem dX4_all_214 : decode cX4_all 214 = .ok (.iinc 10 1, 3) := by decide +kernel
theorem dX4_all_217 : decode cX4_all 217 = .ok (.goto (-68), 3) := by decide +kernel
theorem dX4_all_220 : decode cX4_all 220 = .ok (.iload_n 1, 1) := by decide +kernel
theorem dX4_all_221 : decode cX4_all 221 = .ok (.iconst 2, 1) := by decide +kernel
theorem dX4_all_222 : decode cX4_all 222 = .ok (.if_icmp .ne 7, 3) := by decide +kernel
theorem dX4_all_225 : decode cX4_all 225 = .ok (.lload_n 2, 1) := by decide +kernel
theorem dX4_all_226 : decode cX4_all 226 = .ok (.goto 49, 3) := by decide +kernel
theorem dX4_all_229 : decode cX4_all 229 = .ok (.iload_n 1, 1) := by decide +kernel
theorem dX4_all_230 : decode cX4_all 230 = .ok (.iconst 3, 1) := by decide +kernel
theorem dX4_all_231 : decode cX4_all 231 = .ok (.if_icmp .ne 8, 3) := by decide +kernel
theorem dX4_all_234 : decode cX4_all 234 = .ok (.lload 6, 2) := by decide +kernel
theorem dX4_all_236 : decode cX4_all 236 = .ok (.goto 39, 3) := by decide +kernel
theorem dX4_all_239 : decode cX4_all 239 = .ok (.aload_n 0, 1) := by decide +kernel
theorem dX4_all_240 : decode cX4_all 240 = .ok (.lload 4, 2) := by decide +kernel
theorem dX4_all_242 : decode cX4_all 242 = .ok (.lload 6, 2) := by decide +kernel
theorem dX4_all_244 : decode cX4_all 244 = .ok (.lmul, 1) := by decide +kernel
theorem dX4_all_245 : decode cX4_all 245 = .ok (.lload 6, 2) := by decide +kernel
theorem dX4_all_247 : decode cX4_all 247 = .ok (.lmul, 1) := by decide +kernel
theorem dX4_all_248 : decode cX4_all 248 = .ok (.lload 8, 2) := by decide +kernel
theorem dX4_all_250 : decode cX4_all 250 = .ok (.ldc2_w 117, 3) := by decide +kernel
theorem dX4_all_253 : decode cX4_all 253 = .ok (.lmul, 1) := by decide +kernel
theorem dX4_all_254 : decode cX4_all 254 = .ok (.lload_n 2, 1) := by decide +kernel
theorem dX4_all_255 : decode cX4_all 255 = .ok (.lmul, 1) := by decide +kernel
theorem dX4_all_256 : decode cX4_all 256 = .ok (.lsub, 1) := by decide +kernel
theorem dX4_all_257 : decode cX4_all 257 = .ok (.ldc2_w 117, 3) := by decide +kernel
theorem dX4_all_260 : decode cX4_all 260 = .ok (.lload_n 2, 1) := by decide +kernel
theorem dX4_all_261 : decode cX4_all 261 = .ok (.lmul, 1) := by decide +kernel
theorem dX4_all_262 : decode cX4_all 262 = .ok (.lload 6, 2) := by decide +kernel
theorem dX4_all_264 : decode cX4_all 264 = .ok (.lload 6, 2) := by decide +kernel
theorem dX4_all_266 : decode cX4_all 266 = .ok (.lmul, 1) := by decide +kernel
theorem dX4_all_267 : decode cX4_all 267 = .ok (.lload 8, 2) := by decide +kernel
theorem dX4_all_269 : decode cX4_all 269 = .ok (.lsub, 1) := by decide +kernel
theorem dX4_all_270 : decode cX4_all 270 = .ok (.lmul, 1) := by decide +kernel
theorem dX4_all_271 : decode cX4_all 271 = .ok (.iload_n 1, 1) := by decide +kernel
theorem dX4_all_272 : decode cX4_all 272 = .ok (.invokevirtual 107, 3) := by decide +kernel
theorem dX4_all_275 : decode cX4_all 275 = .ok (.lreturn, 1) := by decide +kernel
theorem dX4_next_0 : decode cX4_next 0 = .ok (.iload_n 1, 1) := by decide +kernel
theorem dX4_next_1 : decode cX4_next 1 = .ok (.invokestatic 64, 3) := by decide +kernel
theorem dX4_next_4 : decode cX4_next 4 = .ok (.ifCond .ne 6, 3) := by decide +kernel
theorem dX4_next_7 : decode cX4_next 7 = .ok (.bipush (-101), 2) := by decide +kernel
theorem dX4_next_9 : decode cX4_next 9 = .ok (.ireturn, 1) := by decide +kernel
theorem dX4_next_10 : decode cX4_next 10 = .ok (.iconst (-1), 1) := by decide +kernel
theorem dX4_next_11 : decode cX4_next 11 = .ok (.istore_n 2, 1) := by decide +kernel
theorem dX4_next_12 : decode cX4_next 12 = .ok (.iconst 0, 1) := by decide +kernel
theorem dX4_next_13 : decode cX4_next 13 = .ok (.istore_n 3, 1) := by decide +kernel
theorem dX4_next_14 : decode cX4_next 14 = .ok (.iconst 0, 1) := by decide +kernel
theorem dX4_next_15 : decode cX4_next 15 = .ok (.istore 4, 2) := by decide +kernel
theorem dX4_next_17 : decode cX4_next 17 = .ok (.iconst 0, 1) := by decide +kernel
theorem dX4_next_18 : decode cX4_next 18 = .ok (.istore 5, 2) := by decide +kernel
theorem dX4_next_20 : decode cX4_next 20 = .ok (.iload 5, 2) := by decide +kernel
theorem dX4_next_22 : decode cX4_next 22 = .ok (.aload_n 0, 1) := by decide +kernel
theorem dX4_next_23 : decode cX4_next 23 = .ok (.getfield 57, 3) := by decide +kernel
theorem dX4_next_26 : decode cX4_next 26 = .ok (.if_icmp .ge 102, 3) := by decide +kernel
theorem dX4_next_29 : decode cX4_next 29 = .ok (.aload_n 0, 1) := by decide +kernel
theorem dX4_next_30 : decode cX4_next 30 = .ok (.iload_n 1, 1) := by decide +kernel
theorem dX4_next_31 : decode cX4_next 31 = .ok (.invokevirtual 75, 3) := by decide +kernel
theorem dX4_next_34 : decode cX4_next 34 = .ok (.ifCond .ne 94, 3) := by decide +kernel
theorem dX4_next_37 : decode cX4_next 37 = .ok (.aload_n 0, 1) := by decide +kernel
theorem dX4_next_38 : decode cX4_next 38 = .ok (.getfield 17, 3) := by decide +kernel
theorem dX4_next_41 : decode cX4_next 41 = .ok (.bipush 8, 2) := by decide +kernel
theorem dX4_next_43 : decode cX4_next 43 = .ok (.iload 5, 2) := by decide +kernel
theorem dX4_next_45 : decode cX4_next 45 = .ok (.imul, 1) := by decide +kernel
theorem dX4_next_46 : decode cX4_next 46 = .ok (.iload_n 1, 1) := by decide +kernel
theorem dX4_next_47 : decode cX4_next 47 = .ok (.iadd, 1) := by decide +kernel
theorem dX4_next_48 : decode cX4_next 48 = .ok (.iaload, 1) := by decide +kernel
theorem dX4_next_49 : decode cX4_next 49 = .ok (.ifCond .ne 73, 3) := by decide +kernel
theorem dX4_next_52 : decode cX4_next 52 = .ok (.aload_n 0, 1) := by decide +kernel
theorem dX4_next_53 : decode cX4_next 53 = .ok (.getfield 20, 3) := by decide +kernel
theorem dX4_next_56 : decode cX4_next 56 = .ok (.iload 5, 2) := by decide +kernel
theorem dX4_next_58 : decode cX4_next 58 = .ok (.iaload, 1) := by decide +kernel
theorem dX4_next_59 : decode cX4_next 59 = .ok (.iconst (-1), 1) := by decide +kernel
theorem dX4_next_60 : decode cX4_next 60 = .ok (.if_icmp .ne 62, 3) := by decide +kernel
theorem dX4_next_63 : decode cX4_next 63 = .ok (.aload_n 0, 1) := by decide +kernel
theorem dX4_next_64 : decode cX4_next 64 = .ok (.iload 5, 2) := by decide +kernel
theorem dX4_next_66 : decode cX4_next 66 = .ok (.invokevirtual 100, 3) := by decide +kernel
theorem dX4_next_69 : decode cX4_next 69 = .ok (.aload_n 0, 1) := by decide +kernel
theorem dX4_next_70 : decode cX4_next 70 = .ok (.getfield 91, 3) := by decide +kernel
theorem dX4_next_73 : decode cX4_next 73 = .ok (.aload_n 0, 1) := by decide +kernel
theorem dX4_next_74 : decode cX4_next 74 = .ok (.getfield 94, 3) := by decide +kernel
theorem dX4_next_77 : decode cX4_next 77 = .ok (.isub, 1) := by decide +kernel
theorem dX4_next_78 : decode cX4_next 78 = .ok (.istore 6, 2) := by decide +kernel
theorem dX4_next_80 : decode cX4_next 80 = .ok (.aload_n 0, 1) := by decide +kernel
theorem dX4_next_81 : decode cX4_next 81 = .ok (.iload 5, 2) := by decide +kernel
theorem dX4_next_83 : decode cX4_next 83 = .ok (.invokevirtual 111, 3) := by decide +kernel
theorem dX4_next_86 : decode cX4_next 86 = .ok (.istore 7, 2) := by decide +kernel
theorem dX4_next_88 : decode cX4_next 88 = .ok (.iload_n 2, 1) := by decide +kernel
theorem dX4_next_89 : decode cX4_next 89 = .ok (.iconst (-1), 1) := by decide +kernel
theorem dX4_next_90 : decode cX4_next 90 = .ok (.if_icmp .eq 22, 3) := by decide +kernel
theorem dX4_next_93 : decode cX4_next 93 = .ok (.iload 6, 2) := by decide +kernel
theorem dX4_next_95 : decode cX4_next 95 = .ok (.iload_n 3, 1) := by decide +kernel
theorem dX4_next_96 : decode cX4_next 96 = .ok (.if_icmp .lt 16, 3) := by decide +kernel
theorem dX4_next_99 : decode cX4_next 99 = .ok (.iload 6, 2) := by decide +kernel
theorem dX4_next_101 : decode cX4_next 101 = .ok (.iload_n 3, 1) := by decide +kernel
theorem dX4_next_102 : decode cX4_next 102 = .ok (.if_icmp .ne 20, 3) := by decide +kernel
theorem dX4_next_105 : decode cX4_next 105 = .ok (.iload 7, 2) := by decide +kernel
theorem dX4_next_107 : decode cX4_next 107 = .ok (.iload 4, 2) := by decide +kernel
theorem dX4_next_109 : decode cX4_next 109 = .ok (.if_icmp .ge 13, 3) := by decide +kernel
theorem dX4_next_112 : decode cX4_next 112 = .ok (.iload 5, 2) := by decide +kernel
theorem dX4_next_114 : decode cX4_next 114 = .ok (.istore_n 2, 1) := by decide +kernel
theorem dX4_next_115 : decode cX4_next 115 = .ok (.iload 6, 2) := by decide +kernel
theorem dX4_next_117 : decode cX4_next 117 = .ok (.istore_n 3, 1) := by decide +kernel
theorem dX4_next_118 : decode cX4_next 118 = .ok (.iload 7, 2) := by decide +kernel
theorem dX4_next_120 : decode cX4_next 120 = .ok (.istore 4, 2) := by decide +kernel
theorem dX4_next_122 : decode cX4_next 122 = .ok (.iinc 5 1, 3) := by decide +kernel
theorem dX4_next_125 : decode cX4_next 125 = .ok (.goto (-105), 3) := by decide +kernel
theorem dX4_next_128 : decode cX4_next 128 = .ok (.iload_n 2, 1) := by decide +kernel
theorem dX4_next_129 : decode cX4_next 129 = .ok (.ireturn, 1) := by decide +kernel
theorem dX4_isUnlike_0 : decode cX4_isUnlike 0 = .ok (.iconst 0, 1) := by decide +kernel
theorem dX4_isUnlike_1 : decode cX4_isUnlike 1 = .ok (.istore_n 2, 1) := by decide +kernel
theorem dX4_isUnlike_2 : decode cX4_isUnlike 2 = .ok (.iconst 0, 1) := by decide +kernel
theorem dX4_isUnlike_3 : decode cX4_isUnlike 3 = .ok (.istore_n 3, 1) := by decide +kernel
theorem dX4_isUnlike_4 : decode cX4_isUnlike 4 = .ok (.iload_n 3, 1) := by decide +kernel
theorem dX4_isUnlike_5 : decode cX4_isUnlike 5 = .ok (.aload_n 0, 1) := by decide +kernel
theorem dX4_isUnlike_6 : decode cX4_isUnlike 6 = .ok (.getfield 81, 3) := by decide +kernel
theorem dX4_isUnlike_9 : decode cX4_isUnlike 9 = .ok (.if_icmp .ge 87, 3) := by decide +kernel
theorem dX4_isUnlike_12 : decode cX4_isUnlike 12 = .ok (.iconst 0, 1) := by decide +kernel
theorem dX4_isUnlike_13 : decode cX4_isUnlike 13 = .ok (.istore 4, 2) := by decide +kernel
theorem dX4_isUnlike_15 : decode cX4_isUnlike 15 = .ok (.iload 4, 2) := by decide +kernel
theorem dX4_isUnlike_17 : decode cX4_isUnlike 17 = .ok (.iload_n 3, 1) := by decide +kernel
theorem dX4_isUnlike_18 : decode cX4_isUnlike 18 = .ok (.if_icmp .ge 72, 3) := by decide +kernel
theorem dX4_isUnlike_21 : decode cX4_isUnlike 21 = .ok (.aload_n 0, 1) := by decide +kernel
theorem dX4_isUnlike_22 : decode cX4_isUnlike 22 = .ok (.iload_n 3, 1) := by decide +kernel
theorem dX4_isUnlike_23 : decode cX4_isUnlike 23 = .ok (.iload_n 1, 1) := by decide +kernel
theorem dX4_isUnlike_24 : decode cX4_isUnlike 24 = .ok (.invokevirtual 84, 3) := by decide +kernel
theorem dX4_isUnlike_27 : decode cX4_isUnlike 27 = .ok (.istore 5, 2) := by decide +kernel
theorem dX4_isUnlike_29 : decode cX4_isUnlike 29 = .ok (.aload_n 0, 1) := by decide +kernel
theorem dX4_isUnlike_30 : decode cX4_isUnlike 30 = .ok (.iload 4, 2) := by decide +kernel
theorem dX4_isUnlike_32 : decode cX4_isUnlike 32 = .ok (.iload_n 1, 1) := by decide +kernel
theorem dX4_isUnlike_33 : decode cX4_isUnlike 33 = .ok (.invokevirtual 84, 3) := by decide +kernel
theorem dX4_isUnlike_36 : decode cX4_isUnlike 36 = .ok (.istore 6, 2) := by decide +kernel
theorem dX4_isUnlike_38 : decode cX4_isUnlike 38 = .ok (.iload_n 2, 1) := by decide +kernel
theorem dX4_isUnlike_39 : decode cX4_isUnlike 39 = .ok (.ifCond .ne 39, 3) := by decide +kernel
theorem dX4_isUnlike_42 : decode cX4_isUnlike 42 = .ok (.aload_n 0, 1) := by decide +kernel
theorem dX4_isUnlike_43 : decode cX4_isUnlike 43 = .ok (.getfield 48, 3) := by decide +kernel
theorem dX4_isUnlike_46 : decode cX4_isUnlike 46 = .ok (.iload_n 3, 1) := by decide +kernel
theorem dX4_isUnlike_47 : decode cX4_isUnlike 47 = .ok (.baload, 1) := by decide +kernel
theorem dX4_isUnlike_48 : decode cX4_isUnlike 48 = .ok (.ifCond .eq 34, 3) := by decide +kernel
theorem dX4_isUnlike_51 : decode cX4_isUnlike 51 = .ok (.aload_n 0, 1) := by decide +kernel
theorem dX4_isUnlike_52 : decode cX4_isUnlike 52 = .ok (.getfield 48, 3) := by decide +kernel
theorem dX4_isUnlike_55 : decode cX4_isUnlike 55 = .ok (.iload 4, 2) := by decide +kernel
theorem dX4_isUnlike_57 : decode cX4_isUnlike 57 = .ok (.baload, 1) := by decide +kernel
theorem dX4_isUnlike_58 : decode cX4_isUnlike 58 = .ok (.ifCond .eq 24, 3) := by decide +kernel
theorem dX4_isUnlike_61 : decode cX4_isUnlike 61 = .ok (.iload 5, 2) := by decide +kernel
theorem dX4_isUnlike_63 : decode cX4_isUnlike 63 = .ok (.ifCond .lt 19, 3) := by decide +kernel
theorem dX4_isUnlike_66 : decode cX4_isUnlike 66 = .ok (.iload 6, 2) := by decide +kernel
theorem dX4_isUnlike_68 : decode cX4_isUnlike 68 = .ok (.ifCond .lt 14, 3) := by decide +kernel
theorem dX4_isUnlike_71 : decode cX4_isUnlike 71 = .ok (.iload 5, 2) := by decide +kernel
theorem dX4_isUnlike_73 : decode cX4_isUnlike 73 = .ok (.iload 6, 2) := by decide +kernel
theorem dX4_isUnlike_75 : decode cX4_isUnlike 75 = .ok (.if_icmp .eq 7, 3) := by decide +kernel
theorem dX4_isUnlike_78 : decode cX4_isUnlike 78 = .ok (.iconst 1, 1) := by decide +kernel
theorem dX4_isUnlike_79 : decode cX4_isUnlike 79 = .ok (.goto 4, 3) := by decide +kernel
theorem dX4_isUnlike_82 : decode cX4_isUnlike 82 = .ok (.iconst 0, 1) := by decide +kernel
theorem dX4_isUnlike_83 : decode cX4_isUnlike 83 = .ok (.istore_n 2, 1) := by decide +kernel
theorem dX4_isUnlike_84 : decode cX4_isUnlike 84 = .ok (.iinc 4 1, 3) := by decide +kernel
theorem dX4_isUnlike_87 : decode cX4_isUnlike 87 = .ok (.goto (-72), 3) := by decide +kernel
theorem dX4_isUnlike_90 : decode cX4_isUnlike 90 = .ok (.iinc 3 1, 3) := by decide +kernel
theorem dX4_isUnlike_93 : decode cX4_isUnlike 93 = .ok (.goto (-89), 3) := by decide +kernel
theorem dX4_isUnlike_96 : decode cX4_isUnlike 96 = .ok (.iload_n 2, 1) := by decide +kernel
theorem dX4_isUnlike_97 : decode cX4_isUnlike 97 = .ok (.ireturn, 1) := by decide +kernel
theorem dX4_about_0 : decode cX4_about 0 = .ok (.iload_n 1, 1) := by decide +kernel
theorem dX4_about_1 : decode cX4_about 1 = .ok (.iconst 0, 1) := by decide +kernel
theorem dX4_about_2 : decode cX4_about 2 = .ok (.bipush 7, 2) := by decide +kernel
theorem dX4_about_4 : decode cX4_about 4 = .ok (.invokestatic 60, 3) := by decide +kernel
theorem dX4_about_7 : decode cX4_about 7 = .ok (.ifCond .ne 6, 3) := by decide +kernel
theorem dX4_about_10 : decode cX4_about 10 = .ok (.bipush (-102), 2) := by decide +kernel
theorem dX4_about_12 : decode cX4_about 12 = .ok (.ireturn, 1) := by decide +kernel
theorem dX4_about_13 : decode cX4_about 13 = .ok (.iload_n 1, 1) := by decide +kernel
theorem dX4_about_14 : decode cX4_about 14 = .ok (.ifCond .ne 10, 3) := by decide +kernel
theorem dX4_about_17 : decode cX4_about 17 = .ok (.aload_n 0, 1) := by decide +kernel
theorem dX4_about_18 : decode cX4_about 18 = .ok (.getfield 57, 3) := by decide +kernel
theorem dX4_about_21 : decode cX4_about 21 = .ok (.goto 28, 3) := by decide +kernel
theorem dX4_about_24 : decode cX4_about 24 = .ok (.iload_n 1, 1) := by decide +kernel
theorem dX4_about_25 : decode cX4_about 25 = .ok (.iconst 2, 1) := by decide +kernel
theorem dX4_about_26 : decode cX4_about 26 = .ok (.if_icmp .ne 10, 3) := by decide +kernel
theorem dX4_about_29 : decode cX4_about 29 = .ok (.aload_n 0, 1) := by decide +kernel
theorem dX4_about_30 : decode cX4_about 30 = .ok (.getfield 81, 3) := by decide +kernel
theorem dX4_about_33 : decode cX4_about 33 = .ok (.goto 16, 3) := by decide +kernel
theorem dX4_about_36 : decode cX4_about 36 = .ok (.iload_n 1, 1) := by decide +kernel
theorem dX4_about_37 : decode cX4_about 37 = .ok (.iconst 5, 1) := by decide +kernel
theorem dX4_about_38 : decode cX4_about 38 = .ok (.if_icmp .ne 10, 3) := by decide +kernel
theorem dX4_about_41 : decode cX4_about 41 = .ok (.aload_n 0, 1) := by decide +kernel
theorem dX4_about_42 : decode cX4_about 42 = .ok (.getfield 23, 3) := by decide +kernel
theorem dX4_about_45 : decode cX4_about 45 = .ok (.goto 4, 3) := by decide +kernel
theorem dX4_about_48 : decode cX4_about 48 = .ok (.iconst 0, 1) := by decide +kernel
theorem dX4_about_49 : decode cX4_about 49 = .ok (.istore_n 2, 1) := by decide +kernel
theorem dX4_about_50 : decode cX4_about 50 = .ok (.iconst 0, 1) := by decide +kernel
theorem dX4_about_51 : decode cX4_about 51 = .ok (.istore_n 3, 1) := by decide +kernel
theorem dX4_about_52 : decode cX4_about 52 = .ok (.iload_n 3, 1) := by decide +kernel
theorem dX4_about_53 : decode cX4_about 53 = .ok (.aload_n 0, 1) := by decide +kernel
theorem dX4_about_54 : decode cX4_about 54 = .ok (.getfield 57, 3) := by decide +kernel
theorem dX4_about_57 : decode cX4_about 57 = .ok (.if_icmp .ge 77, 3) := by decide +kernel
theorem dX4_about_60 : decode cX4_about 60 = .ok (.iload_n 2, 1) := by decide +kernel
theorem dX4_about_61 : decode cX4_about 61 = .ok (.iload_n 1, 1) := by decide +kernel
theorem dX4_about_62 : decode cX4_about 62 = .ok (.iconst 1, 1) := by decide +kernel
theorem dX4_about_63 : decode cX4_about 63 = .ok (.if_icmp .ne 11, 3) := by decide +kernel
theorem dX4_about_66 : decode cX4_about 66 = .ok (.aload_n 0, 1) := by decide +kernel
theorem dX4_about_67 : decode cX4_about 67 = .ok (.iload_n 3, 1) := by decide +kernel
theorem dX4_about_68 : decode cX4_about 68 = .ok (.invokevirtual 111, 3) := by decide +kernel
theorem dX4_about_71 : decode cX4_about 71 = .ok (.goto 4, 3) := by decide +kernel
theorem dX4_about_74 : decode cX4_about 74 = .ok (.iconst 0, 1) := by decide +kernel
theorem dX4_about_75 : decode cX4_about 75 = .ok (.iadd, 1) := by decide +kernel
theorem dX4_about_76 : decode cX4_about 76 = .ok (.istore_n 2, 1) := by decide +kernel
theorem dX4_about_77 : decode cX4_about 77 = .ok (.iload_n 2, 1) := by decide +kernel
theorem dX4_about_78 : decode cX4_about 78 = .ok (.iload_n 1, 1) := by decide +kernel
theorem dX4_about_79 : decode cX4_about 79 = .ok (.iconst 3, 1) := by decide +kernel
theorem dX4_about_80 : decode cX4_about 80 = .ok (.if_icmp .ne 12, 3) := by decide +kernel
theorem dX4_about_83 : decode cX4_about 83 = .ok (.aload_n 0, 1) := by decide +kernel
theorem dX4_about_84 : decode cX4_about 84 = .ok (.iload_n 3, 1) := by decide +kernel
theorem dX4_about_85 : decode cX4_about 85 = .ok (.invokevirtual 104, 3) := by decide +kernel
theorem dX4_about_88 : decode cX4_about 88 = .ok (.iconst (-1), 1) := by decide +kernel
theorem dX4_about_89 : decode cX4_about 89 = .ok (.if_icmp .ne 32, 3) := by decide +kernel
theorem dX4_about_92 : decode cX4_about 92 = .ok (.iload_n 1, 1) := by decide +kernel
theorem dX4_about_93 : decode cX4_about 93 = .ok (.iconst 4, 1) := by decide +kernel
theorem dX4_about_94 : decode cX4_about 94 = .ok (.if_icmp .ne 13, 3) := by decide +kernel
theorem dX4_about_97 : decode cX4_about 97 = .ok (.aload_n 0, 1) := by decide +kernel
theorem dX4_about_98 : decode cX4_about 98 = .ok (.getfield 20, 3) := by decide +kernel
theorem dX4_about_101 : decode cX4_about 101 = .ok (.iload_n 3, 1) := by decide +kernel
theorem dX4_about_102 : decode cX4_about 102 = .ok (.iaload, 1) := by decide +kernel
theorem dX4_about_103 : decode cX4_about 103 = .ok (.iconst (-1), 1) := by decide +kernel
theorem dX4_about_104 : decode cX4_about 104 = .ok (.if_icmp .ne 17, 3) := by decide +kernel
theorem dX4_about_107 : decode cX4_about 107 = .ok (.iload_n 1, 1) := by decide +kernel
theorem dX4_about_108 : decode cX4_about 108 = .ok (.bipush 7, 2) := by decide +kernel
theorem dX4_about_110 : decode cX4_about 110 = .ok (.if_icmp .ne 15, 3) := by decide +kernel
theorem dX4_about_113 : decode cX4_about 113 = .ok (.aload_n 0, 1) := by decide +kernel
theorem dX4_about_114 : decode cX4_about 114 = .ok (.iload_n 3, 1) := by decide +kernel
theorem dX4_about_115 : decode cX4_about 115 = .ok (.invokevirtual 119, 3) := by decide +kernel
theorem dX4_about_118 : decode cX4_about 118 = .ok (.ifCond .eq 7, 3) := by decide +kernel
theorem dX4_about_121 : decode cX4_about 121 = .ok (.iconst 1, 1) := by decide +kernel
theorem dX4_about_122 : decode cX4_about 122 = .ok (.goto 4, 3) := by decide +kernel
theorem dX4_about_125 : decode cX4_about 125 = .ok (.iconst 0, 1) := by decide +kernel
theorem dX4_about_126 : decode cX4_about 126 = .ok (.iadd, 1) := by decide +kernel
theorem dX4_about_127 : decode cX4_about 127 = .ok (.istore_n 2, 1) := by decide +kernel
theorem dX4_about_128 : decode cX4_about 128 = .ok (.iinc 3 1, 3) := by decide +kernel
theorem dX4_about_131 : decode cX4_about 131 = .ok (.goto (-79), 3) := by decide +kernel
theorem dX4_about_134 : decode cX4_about 134 = .ok (.iconst 0, 1) := by decide +kernel
theorem dX4_about_135 : decode cX4_about 135 = .ok (.istore_n 3, 1) := by decide +kernel
theorem dX4_about_136 : decode cX4_about 136 = .ok (.iload_n 3, 1) := by decide +kernel
theorem dX4_about_137 : decode cX4_about 137 = .ok (.bipush 8, 2) := by decide +kernel
theorem dX4_about_139 : decode cX4_about 139 = .ok (.if_icmp .ge 31, 3) := by decide +kernel
theorem dX4_about_142 : decode cX4_about 142 = .ok (.iload_n 2, 1) := by decide +kernel
theorem dX4_about_143 : decode cX4_about 143 = .ok (.iload_n 1, 1) := by decide +kernel
theorem dX4_about_144 : decode cX4_about 144 = .ok (.bipush 6, 2) := by decide +kernel
theorem dX4_about_146 : decode cX4_about 146 = .ok (.if_icmp .ne 15, 3) := by decide +kernel
theorem dX4_about_149 : decode cX4_about 149 = .ok (.aload_n 0, 1) := by decide +kernel
theorem dX4_about_150 : decode cX4_about 150 = .ok (.iload_n 3, 1) := by decide +kernel
theorem dX4_about_151 : decode cX4_about 151 = .ok (.invokevirtual 75, 3) := by decide +kernel
theorem dX4_about_154 : decode cX4_about 154 = .ok (.ifCond .eq 7, 3) := by decide +kernel
theorem dX4_about_157 : decode cX4_about 157 = .ok (.iconst 1, 1) := by decide +kernel
theorem dX4_about_158 : decode cX4_about 158 = .ok (.goto 4, 3) := by decide +kernel
theorem dX4_about_161 : decode cX4_about 161 = .ok (.iconst 0, 1) := by decide +kernel
theorem dX4_about_162 : decode cX4_about 162 = .ok (.iadd, 1) := by decide +kernel
theorem dX4_about_163 : decode cX4_about 163 = .ok (.istore_n 2, 1) := by decide +kernel
theorem dX4_about_164 : decode cX4_about 164 = .ok (.iinc 3 1, 3) := by decide +kernel
theorem dX4_about_167 : decode cX4_about 167 = .ok (.goto (-31), 3) := by decide +kernel
theorem dX4_about_170 : decode cX4_about 170 = .ok (.iload_n 2, 1) := by decide +kernel
theorem dX4_about_171 : decode cX4_about 171 = .ok (.ireturn, 1) := by decide +kernel
theorem dJx00060_init_a7421_0 : decode cJx00060_init_a7421 0 = .ok (.aload_n 0, 1) := by decide +kernel
theorem dJx00060_init_a7421_1 : decode cJx00060_init_a7421 1 = .ok (.aload_n 1, 1) := by decide +kernel
theorem dJx00060_init_a7421_2 : decode cJx00060_init_a7421 2 = .ok (.invokespecial 7, 3) := by decide +kernel
theorem dJx00060_init_a7421_5 : decode cJx00060_init_a7421 5 = .ok (.return_, 1) := by decide +kernel
theorem dJ9_floorMod_7cf53_0 : decode cJ9_floorMod_7cf53 0 = .ok (.iload_n 0, 1) := by decide +kernel
theorem dJ9_floorMod_7cf53_1 : decode cJ9_floorMod_7cf53 1 = .ok (.iload_n 1, 1) := by decide +kernel
theorem dJ9_floorMod_7cf53_2 : decode cJ9_floorMod_7cf53 2 = .ok (.irem, 1) := by decide +kernel
theorem dJ9_floorMod_7cf53_3 : decode cJ9_floorMod_7cf53 3 = .ok (.istore_n 2, 1) := by decide +kernel
theorem dJ9_floorMod_7cf53_4 : decode cJ9_floorMod_7cf53 4 = .ok (.iload_n 0, 1) := by decide +kernel
theorem dJ9_floorMod_7cf53_5 : decode cJ9_floorMod_7cf53 5 = .ok (.iload_n 1, 1) := by decide +kernel
theorem dJ9_floorMod_7cf53_6 : decode cJ9_floorMod_7cf53 6 = .ok (.ixor, 1) := by decide +kernel
theorem dJ9_floorMod_7cf53_7 : decode cJ9_floorMod_7cf53 7 = .ok (.ifCond .ge 11, 3) := by decide +kernel
theorem dJ9_floorMod_7cf53_10 : decode cJ9_floorMod_7cf53 10 = .ok (.iload_n 2, 1) := by decide +kernel
theorem dJ9_floorMod_7cf53_11 : decode cJ9_floorMod_7cf53 11 = .ok (.ifCond .eq 7, 3) := by decide +kernel
theorem dJ9_floorMod_7cf53_14 : decode cJ9_floorMod_7cf53 14 = .ok (.iload_n 2, 1) := by decide +kernel
theorem dJ9_floorMod_7cf53_15 : decode cJ9_floorMod_7cf53 15 = .ok (.iload_n 1, 1) := by decide +kernel
theorem dJ9_floorMod_7cf53_16 : decode cJ9_floorMod_7cf53 16 = .ok (.iadd, 1) := by decide +kernel
theorem dJ9_floorMod_7cf53_17 : decode cJ9_floorMod_7cf53 17 = .ok (.ireturn, 1) := by decide +kernel
theorem dJ9_floorMod_7cf53_18 : decode cJ9_floorMod_7cf53 18 = .ok (.iload_n 2, 1) := by decide +kernel
theorem dJ9_floorMod_7cf53_19 : decode cJ9_floorMod_7cf53 19 = .ok (.ireturn, 1) := by decide +kernel
theorem dJ7_fill_53178_0 : decode cJ7_fill_53178 0 = .ok (.iconst 0, 1) := by decide +kernel
theorem dJ7_fill_53178_1 : decode cJ7_fill_53178 1 = .ok (.istore_n 2, 1) := by decide +kernel
theorem dJ7_fill_53178_2 : decode cJ7_fill_53178 2 = .ok (.aload_n 0, 1) := by decide +kernel
theorem dJ7_fill_53178_3 : decode cJ7_fill_53178 3 = .ok (.arraylength, 1) := by decide +kernel
theorem dJ7_fill_53178_4 : decode cJ7_fill_53178 4 = .ok (.istore_n 3, 1) := by decide +kernel
theorem dJ7_fill_53178_5 : decode cJ7_fill_53178 5 = .ok (.iload_n 2, 1) := by decide +kernel
theorem dJ7_fill_53178_6 : decode cJ7_fill_53178 6 = .ok (.iload_n 3, 1) := by decide +kernel
theorem dJ7_fill_53178_7 : decode cJ7_fill_53178 7 = .ok (.if_icmp .ge 13, 3) := by decide +kernel
theorem dJ7_fill_53178_10 : decode cJ7_fill_53178 10 = .ok (.aload_n 0, 1) := by decide +kernel
theorem dJ7_fill_53178_11 : decode cJ7_fill_53178 11 = .ok (.iload_n 2, 1) := by decide +kernel
theorem dJ7_fill_53178_12 : decode cJ7_fill_53178 12 = .ok (.iload_n 1, 1) := by decide +kernel
theorem dJ7_fill_53178_13 : decode cJ7_fill_53178 13 = .ok (.iastore, 1) := by decide +kernel
theorem dJ7_fill_53178_14 : decode cJ7_fill_53178 14 = .ok (.iinc 2 1, 3) := by decide +kernel
theorem dJ7_fill_53178_17 : decode cJ7_fill_53178 17 = .ok (.goto (-12), 3) := by decide +kernel
theorem dJ7_fill_53178_20 : decode cJ7_fill_53178 20 = .ok (.return_, 1) := by decide +kernel
