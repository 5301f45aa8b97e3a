theorem dX7_init_0 : decode cX7_init 0 = .ok (.aload_n 0, 1) := by decide +kernel
theorem dX7_init_1 : decode cX7_init 1 = .ok (.invokespecial 1, 3) := by decide +kernel
theorem dX7_init_4 : decode cX7_init 4 = .ok (.aload_n 0, 1) := by decide +kernel
theorem dX7_init_5 : decode cX7_init 5 = .ok (.iconst 4, 1) := by decide +kernel
theorem dX7_init_6 : decode cX7_init 6 = .ok (.newarray .int, 2) := by decide +kernel
theorem dX7_init_8 : decode cX7_init 8 = .ok (.putfield 7, 3) := by decide +kernel
theorem dX7_init_11 : decode cX7_init 11 = .ok (.aload_n 0, 1) := by decide +kernel
theorem dX7_init_12 : decode cX7_init 12 = .ok (.iconst 4, 1) := by decide +kernel
theorem dX7_init_13 : decode cX7_init 13 = .ok (.newarray .int, 2) := by decide +kernel
theorem dX7_init_15 : decode cX7_init 15 = .ok (.putfield 13, 3) := by decide +kernel
theorem dX7_init_18 : decode cX7_init 18 = .ok (.aload_n 0, 1) := by decide +kernel
theorem dX7_init_19 : decode cX7_init 19 = .ok (.sipush 240, 3) := by decide +kernel
theorem dX7_init_22 : decode cX7_init 22 = .ok (.newarray .int, 2) := by decide +kernel
theorem dX7_init_24 : decode cX7_init 24 = .ok (.putfield 16, 3) := by decide +kernel
theorem dX7_init_27 : decode cX7_init 27 = .ok (.aload_n 0, 1) := by decide +kernel
theorem dX7_init_28 : decode cX7_init 28 = .ok (.bipush 60, 2) := by decide +kernel
theorem dX7_init_30 : decode cX7_init 30 = .ok (.newarray .int, 2) := by decide +kernel
theorem dX7_init_32 : decode cX7_init 32 = .ok (.putfield 19, 3) := by decide +kernel
theorem dX7_init_35 : decode cX7_init 35 = .ok (.aload_n 0, 1) := by decide +kernel
theorem dX7_init_36 : decode cX7_init 36 = .ok (.sipush 144, 3) := by decide +kernel
theorem dX7_init_39 : decode cX7_init 39 = .ok (.newarray .int, 2) := by decide +kernel
theorem dX7_init_41 : decode cX7_init 41 = .ok (.putfield 22, 3) := by decide +kernel
theorem dX7_init_44 : decode cX7_init 44 = .ok (.aload_n 0, 1) := by decide +kernel
theorem dX7_init_45 : decode cX7_init 45 = .ok (.iconst 3, 1) := by decide +kernel
theorem dX7_init_46 : decode cX7_init 46 = .ok (.newarray .int, 2) := by decide +kernel
theorem dX7_init_48 : decode cX7_init 48 = .ok (.putfield 25, 3) := by decide +kernel
theorem dX7_init_51 : decode cX7_init 51 = .ok (.aload_n 0, 1) := by decide +kernel
theorem dX7_init_52 : decode cX7_init 52 = .ok (.bipush 16, 2) := by decide +kernel
theorem dX7_init_54 : decode cX7_init 54 = .ok (.newarray .int, 2) := by decide +kernel
theorem dX7_init_56 : decode cX7_init 56 = .ok (.putfield 28, 3) := by decide +kernel
theorem dX7_init_59 : decode cX7_init 59 = .ok (.aload_n 0, 1) := by decide +kernel
theorem dX7_init_60 : decode cX7_init 60 = .ok (.bipush 36, 2) := by decide +kernel
theorem dX7_init_62 : decode cX7_init 62 = .ok (.newarray .int, 2) := by decide +kernel
theorem dX7_init_64 : decode cX7_init 64 = .ok (.putfield 31, 3) := by decide +kernel
theorem dX7_init_67 : decode cX7_init 67 = .ok (.aload_n 0, 1) := by decide +kernel
theorem dX7_init_68 : decode cX7_init 68 = .ok (.bipush 36, 2) := by decide +kernel
theorem dX7_init_70 : decode cX7_init 70 = .ok (.newarray .int, 2) := by decide +kernel
theorem dX7_init_72 : decode cX7_init 72 = .ok (.putfield 34, 3) := by decide +kernel
theorem dX7_init_75 : decode cX7_init 75 = .ok (.aload_n 0, 1) := by decide +kernel
theorem dX7_init_76 : decode cX7_init 76 = .ok (.bipush 16, 2) := by decide +kernel
theorem dX7_init_78 : decode cX7_init 78 = .ok (.newarray .int, 2) := by decide +kernel
theorem dX7_init_80 : decode cX7_init 80 = .ok (.putfield 37, 3) := by decide +kernel
theorem dX7_init_83 : decode cX7_init 83 = .ok (.aload_n 0, 1) := by decide +kernel
theorem dX7_init_84 : decode cX7_init 84 = .ok (.bipush 12, 2) := by decide +kernel
theorem dX7_init_86 : decode cX7_init 86 = .ok (.newarray .int, 2) := by decide +kernel
theorem dX7_init_88 : decode cX7_init 88 = .ok (.putfield 40, 3) := by decide +kernel
theorem dX7_init_91 : decode cX7_init 91 = .ok (.aload_n 0, 1) := by decide +kernel
theorem dX7_init_92 : decode cX7_init 92 = .ok (.bipush 12, 2) := by decide +kernel
theorem dX7_init_94 : decode cX7_init 94 = .ok (.newarray .int, 2) := by decide +kernel
theorem dX7_init_96 : decode cX7_init 96 = .ok (.putfield 43, 3) := by decide +kernel
theorem dX7_init_99 : decode cX7_init 99 = .ok (.aload_n 0, 1) := by decide +kernel
theorem dX7_init_100 : decode cX7_init 100 = .ok (.bipush 8, 2) := by decide +kernel
theorem dX7_init_102 : decode cX7_init 102 = .ok (.newarray .int, 2) := by decide +kernel
theorem dX7_init_104 : decode cX7_init 104 = .ok (.putfield 46, 3) := by decide +kernel
theorem dX7_init_107 : decode cX7_init 107 = .ok (.aload_n 0, 1) := by decide +kernel
theorem dX7_init_108 : decode cX7_init 108 = .ok (.bipush 8, 2) := by decide +kernel
theorem dX7_init_110 : decode cX7_init 110 = .ok (.newarray .int, 2) := by decide +kernel
theorem dX7_init_112 : decode cX7_init 112 = .ok (.putfield 49, 3) := by decide +kernel
theorem dX7_init_115 : decode cX7_init 115 = .ok (.aload_n 0, 1) := by decide +kernel
theorem dX7_init_116 : decode cX7_init 116 = .ok (.sipush 288, 3) := by decide +kernel
theorem dX7_init_119 : decode cX7_init 119 = .ok (.newarray .int, 2) := by decide +kernel
theorem dX7_init_121 : decode cX7_init 121 = .ok (.putfield 52, 3) := by decide +kernel
theorem dX7_init_124 : decode cX7_init 124 = .ok (.aload_n 0, 1) := by decide +kernel
theorem dX7_init_125 : decode cX7_init 125 = .ok (.sipush 288, 3) := by decide +kernel
theorem dX7_init_128 : decode cX7_init 128 = .ok (.newarray .int, 2) := by decide +kernel
theorem dX7_init_130 : decode cX7_init 130 = .ok (.putfield 55, 3) := by decide +kernel
theorem dX7_init_133 : decode cX7_init 133 = .ok (.aload_n 0, 1) := by decide +kernel
theorem dX7_init_134 : decode cX7_init 134 = .ok (.sipush 192, 3) := by decide +kernel
theorem dX7_init_137 : decode cX7_init 137 = .ok (.newarray .int, 2) := by decide +kernel
theorem dX7_init_139 : decode cX7_init 139 = .ok (.putfield 58, 3) := by decide +kernel
theorem dX7_init_142 : decode cX7_init 142 = .ok (.aload_n 0, 1) := by decide +kernel
theorem dX7_init_143 : decode cX7_init 143 = .ok (.bipush 8, 2) := by decide +kernel
theorem dX7_init_145 : decode cX7_init 145 = .ok (.newarray .int, 2) := by decide +kernel
theorem dX7_init_147 : decode cX7_init 147 = .ok (.putfield 61, 3) := by decide +kernel
theorem dX7_init_150 : decode cX7_init 150 = .ok (.aload_n 0, 1) := by decide +kernel
theorem dX7_init_151 : decode cX7_init 151 = .ok (.bipush 24, 2) := by decide +kernel
theorem dX7_init_153 : decode cX7_init 153 = .ok (.newarray .int, 2) := by decide +kernel
theorem dX7_init_155 : decode cX7_init 155 = .ok (.putfield 64, 3) := by decide +kernel
theorem dX7_init_158 : decode cX7_init 158 = .ok (.aload_n 0, 1) := by decide +kernel
theorem dX7_init_159 : decode cX7_init 159 = .ok (.sipush 240, 3) := by decide +kernel
theorem dX7_init_162 : decode cX7_init 162 = .ok (.newarray .int, 2) := by decide +kernel
theorem dX7_init_164 : decode cX7_init 164 = .ok (.putfield 67, 3) := by decide +kernel
theorem dX7_init_167 : decode cX7_init 167 = .ok (.iconst 0, 1) := by decide +kernel
theorem dX7_init_168 : decode cX7_init 168 = .ok (.istore_n 1, 1) := by decide +kernel
theorem dX7_init_169 : decode cX7_init 169 = .ok (.iload_n 1, 1) := by decide +kernel
theorem dX7_init_170 : decode cX7_init 170 = .ok (.iconst 4, 1) := by decide +kernel
theorem dX7_init_171 : decode cX7_init 171 = .ok (.if_icmp .ge 16, 3) := by decide +kernel
theorem dX7_init_174 : decode cX7_init 174 = .ok (.aload_n 0, 1) := by decide +kernel
theorem dX7_init_175 : decode cX7_init 175 = .ok (.getfield 7, 3) := by decide +kernel
theorem dX7_init_178 : decode cX7_init 178 = .ok (.iload_n 1, 1) := by decide +kernel
theorem dX7_init_179 : decode cX7_init 179 = .ok (.iconst (-1), 1) := by decide +kernel
theorem dX7_init_180 : decode cX7_init 180 = .ok (.iastore, 1) := by decide +kernel
theorem dX7_init_181 : decode cX7_init 181 = .ok (.iinc 1 1, 3) := by decide +kernel
theorem dX7_init_184 : decode cX7_init 184 = .ok (.goto (-15), 3) := by decide +kernel
theorem dX7_init_187 : decode cX7_init 187 = .ok (.aload_n 0, 1) := by decide +kernel
theorem dX7_init_188 : decode cX7_init 188 = .ok (.iconst (-1), 1) := by decide +kernel
theorem dX7_init_189 : decode cX7_init 189 = .ok (.putfield 70, 3) := by decide +kernel
theorem dX7_init_192 : decode cX7_init 192 = .ok (.return_, 1) := by decide +kernel
theorem dX7_in_0 : decode cX7_in 0 = .ok (.lload_n 0, 1) := by decide +kernel
theorem dX7_in_1 : decode cX7_in 1 = .ok (.lload_n 2, 1) := by decide +kernel
theorem dX7_in_2 : decode cX7_in 2 = .ok (.lcmp, 1) := by decide +kernel
theorem dX7_in_3 : decode cX7_in 3 = .ok (.ifCond .lt 14, 3) := by decide +kernel
theorem dX7_in_6 : decode cX7_in 6 = .ok (.lload_n 0, 1) := by decide +kernel
theorem dX7_in_7 : decode cX7_in 7 = .ok (.lload 4, 2) := by decide +kernel
theorem dX7_in_9 : decode cX7_in 9 = .ok (.lcmp, 1) := by decide +kernel
theorem dX7_in_10 : decode cX7_in 10 = .ok (.ifCond .gt 7, 3) := by decide +kernel
theorem dX7_in_13 : decode cX7_in 13 = .ok (.iconst 1, 1) := by decide +kernel
theorem dX7_in_14 : decode cX7_in 14 = .ok (.goto 4, 3) := by decide +kernel
theorem dX7_in_17 : decode cX7_in 17 = .ok (.iconst 0, 1) := by decide +kernel
theorem dX7_in_18 : decode cX7_in 18 = .ok (.ireturn, 1) := by decide +kernel
theorem dX7_no_0 : decode cX7_no 0 = .ok (.ldc2_w 74, 3) := by decide +kernel
theorem dX7_no_3 : decode cX7_no 3 = .ok (.iload_n 0, 1) := by decide +kernel
theorem dX7_no_4 : decode cX7_no 4 = .ok (.i2l, 1) := by decide +kernel
theorem dX7_no_5 : decode cX7_no 5 = .ok (.lsub, 1) := by decide +kernel
theorem dX7_no_6 : decode cX7_no 6 = .ok (.lreturn, 1) := by decide +kernel
theorem dX7_isTwo_0 : decode cX7_isTwo 0 = .ok (.iload_n 0, 1) := by decide +kernel
theorem dX7_isTwo_1 : decode cX7_isTwo 1 = .ok (.i2l, 1) := by decide +kernel
theorem dX7_isTwo_2 : decode cX7_isTwo 2 = .ok (.lconst 0, 1) := by decide +kernel
theorem dX7_isTwo_3 : decode cX7_isTwo 3 = .ok (.lconst 1, 1) := by decide +kernel
theorem dX7_isTwo_4 : decode cX7_isTwo 4 = .ok (.invokestatic 76, 3) := by decide +kernel
theorem dX7_isTwo_7 : decode cX7_isTwo 7 = .ok (.ireturn, 1) := by decide +kernel
theorem dX7_isIn_0 : decode cX7_isIn 0 = .ok (.iload_n 0, 1) := by decide +kernel
theorem dX7_isIn_1 : decode cX7_isIn 1 = .ok (.iload_n 1, 1) := by decide +kernel
theorem dX7_isIn_2 : decode cX7_isIn 2 = .ok (.ishr, 1) := by decide +kernel
theorem dX7_isIn_3 : decode cX7_isIn 3 = .ok (.iconst 1, 1) := by decide +kernel
theorem dX7_isIn_4 : decode cX7_isIn 4 = .ok (.iand, 1) := by decide +kernel
theorem dX7_isIn_5 : decode cX7_isIn 5 = .ok (.iconst 1, 1) := by decide +kernel
theorem dX7_isIn_6 : decode cX7_isIn 6 = .ok (.if_icmp .ne 7, 3) := by decide +kernel
theorem dX7_isIn_9 : decode cX7_isIn 9 = .ok (.iconst 1, 1) := by decide +kernel
theorem dX7_isIn_10 : decode cX7_isIn 10 = .ok (.goto 4, 3) := by decide +kernel
theorem dX7_isIn_13 : decode cX7_isIn 13 = .ok (.iconst 0, 1) := by decide +kernel
theorem dX7_isIn_14 : decode cX7_isIn 14 = .ok (.ireturn, 1) := by decide +kernel
theorem dX7_lesser_0 : decode cX7_lesser 0 = .ok (.iload_n 0, 1) := by decide +kernel
theorem dX7_lesser_1 : decode cX7_lesser 1 = .ok (.iload_n 1, 1) := by decide +kernel
theorem dX7_lesser_2 : decode cX7_lesser 2 = .ok (.if_icmp .ge 7, 3) := by decide +kernel
theorem dX7_lesser_5 : decode cX7_lesser 5 = .ok (.iload_n 0, 1) := by decide +kernel
theorem dX7_lesser_6 : decode cX7_lesser 6 = .ok (.goto 4, 3) := by decide +kernel
theorem dX7_lesser_9 : decode cX7_lesser 9 = .ok (.iload_n 1, 1) := by decide +kernel
theorem dX7_lesser_10 : decode cX7_lesser 10 = .ok (.ireturn, 1) := by decide +kernel
theorem dX7_greater_0 : decode cX7_greater 0 = .ok (.iload_n 0, 1) := by decide +kernel
theorem dX7_greater_1 : decode cX7_greater 1 = .ok (.iload_n 1, 1) := by decide +kernel
theorem dX7_greater_2 : decode cX7_greater 2 = .ok (.if_icmp .le 7, 3) := by decide +kernel
theorem dX7_greater_5 : decode cX7_greater 5 = .ok (.iload_n 0, 1) := by decide +kernel
theorem dX7_greater_6 : decode cX7_greater 6 = .ok (.goto 4, 3) := by decide +kernel
theorem dX7_greater_9 : decode cX7_greater 9 = .ok (.iload_n 1, 1) := by decide +kernel
theorem dX7_greater_10 : decode cX7_greater 10 = .ok (.ireturn, 1) := by decide +kernel
theorem dX7_part_0 : decode cX7_part 0 = .ok (.lload_n 0, 1) := by decide +kernel
theorem dX7_part_1 : decode cX7_part 1 = .ok (.lstore 5, 2) := by decide +kernel
theorem dX7_part_3 : decode cX7_part 3 = .ok (.lload_n 2, 1) := by decide +kernel
theorem dX7_part_4 : decode cX7_part 4 = .ok (.lstore 7, 2) := by decide +kernel
theorem dX7_part_6 : decode cX7_part 6 = .ok (.lload 7, 2) := by decide +kernel
theorem dX7_part_8 : decode cX7_part 8 = .ok (.lconst 0, 1) := by decide +kernel
theorem dX7_part_9 : decode cX7_part 9 = .ok (.lcmp, 1) := by decide +kernel
theorem dX7_part_10 : decode cX7_part 10 = .ok (.ifCond .eq 21, 3) := by decide +kernel
theorem dX7_part_13 : decode cX7_part 13 = .ok (.lload 5, 2) := by decide +kernel
theorem dX7_part_15 : decode cX7_part 15 = .ok (.lload 7, 2) := by decide +kernel
theorem dX7_part_17 : decode cX7_part 17 = .ok (.lrem, 1) := by decide +kernel
theorem dX7_part_18 : decode cX7_part 18 = .ok (.lstore 9, 2) := by decide +kernel
theorem dX7_part_20 : decode cX7_part 20 = .ok (.lload 7, 2) := by decide +kernel
theorem dX7_part_22 : decode cX7_part 22 = .ok (.lstore 5, 2) := by decide +kernel
theorem dX7_part_24 : decode cX7_part 24 = .ok (.lload 9, 2) := by decide +kernel
theorem dX7_part_26 : decode cX7_part 26 = .ok (.lstore 7, 2) := by decide +kernel
theorem dX7_part_28 : decode cX7_part 28 = .ok (.goto (-22), 3) := by decide +kernel
theorem dX7_part_31 : decode cX7_part 31 = .ok (.iload 4, 2) := by decide +kernel
theorem dX7_part_33 : decode cX7_part 33 = .ok (.ifCond .ne 7, 3) := by decide +kernel
theorem dX7_part_36 : decode cX7_part 36 = .ok (.lload_n 0, 1) := by decide +kernel
theorem dX7_part_37 : decode cX7_part 37 = .ok (.goto 4, 3) := by decide +kernel
theorem dX7_part_40 : decode cX7_part 40 = .ok (.lload_n 2, 1) := by decide +kernel
theorem dX7_part_41 : decode cX7_part 41 = .ok (.lload 5, 2) := by decide +kernel
theorem dX7_part_43 : decode cX7_part 43 = .ok (.ldiv, 1) := by decide +kernel
theorem dX7_part_44 : decode cX7_part 44 = .ok (.lreturn, 1) := by decide +kernel
theorem dX7_finds_0 : decode cX7_finds 0 = .ok (.aload_n 0, 1) := by decide +kernel
theorem dX7_finds_1 : decode cX7_finds 1 = .ok (.iload_n 1, 1) := by decide +kernel
theorem dX7_finds_2 : decode cX7_finds 2 = .ok (.putfield 80, 3) := by decide +kernel
theorem dX7_finds_5 : decode cX7_finds 5 = .ok (.bipush (-10), 2) := by decide +kernel
theorem dX7_finds_7 : decode cX7_finds 7 = .ok (.iload_n 1, 1) := by decide +kernel
theorem dX7_finds_8 : decode cX7_finds 8 = .ok (.isub, 1) := by decide +kernel
theorem dX7_finds_9 : decode cX7_finds 9 = .ok (.ireturn, 1) := by decide +kernel
theorem dX7_isSheet_0 : decode cX7_isSheet 0 = .ok (.iload_n 0, 1) := by decide +kernel
theorem dX7_isSheet_1 : decode cX7_isSheet 1 = .ok (.i2l, 1) := by decide +kernel
theorem dX7_isSheet_2 : decode cX7_isSheet 2 = .ok (.lconst 0, 1) := by decide +kernel
theorem dX7_isSheet_3 : decode cX7_isSheet 3 = .ok (.ldc2_w 83, 3) := by decide +kernel
theorem dX7_isSheet_6 : decode cX7_isSheet 6 = .ok (.invokestatic 76, 3) := by decide +kernel
theorem dX7_isSheet_9 : decode cX7_isSheet 9 = .ok (.ireturn, 1) := by decide +kernel
theorem dX7_sheet_0 : decode cX7_sheet 0 = .ok (.iload_n 1, 1) := by decide +kernel
theorem dX7_sheet_1 : decode cX7_sheet 1 = .ok (.invokestatic 85, 3) := by decide +kernel
theorem dX7_sheet_4 : decode cX7_sheet 4 = .ok (.ifCond .eq 21, 3) := by decide +kernel
theorem dX7_sheet_7 : decode cX7_sheet 7 = .ok (.iload_n 2, 1) := by decide +kernel
theorem dX7_sheet_8 : decode cX7_sheet 8 = .ok (.i2l, 1) := by decide +kernel
theorem dX7_sheet_9 : decode cX7_sheet 9 = .ok (.lconst 0, 1) := by decide +kernel
theorem dX7_sheet_10 : decode cX7_sheet 10 = .ok (.ldc2_w 89, 3) := by decide +kernel
theorem dX7_sheet_13 : decode cX7_sheet 13 = .ok (.invokestatic 76, 3) := by decide +kernel
theorem dX7_sheet_16 : decode cX7_sheet 16 = .ok (.ifCond .eq 9, 3) := by decide +kernel
theorem dX7_sheet_19 : decode cX7_sheet 19 = .ok (.iload_n 3, 1) := by decide +kernel
theorem dX7_sheet_20 : decode cX7_sheet 20 = .ok (.bipush 60, 2) := by decide +kernel
theorem dX7_sheet_22 : decode cX7_sheet 22 = .ok (.if_icmp .le 6, 3) := by decide +kernel
theorem dX7_sheet_25 : decode cX7_sheet 25 = .ok (.bipush (-2), 2) := by decide +kernel
theorem dX7_sheet_27 : decode cX7_sheet 27 = .ok (.ireturn, 1) := by decide +kernel
theorem dX7_sheet_28 : decode cX7_sheet 28 = .ok (.iload_n 3, 1) := by decide +kernel
theorem dX7_sheet_29 : decode cX7_sheet 29 = .ok (.ifCond .ge 9, 3) := by decide +kernel
theorem dX7_sheet_32 : decode cX7_sheet 32 = .ok (.aload_n 0, 1) := by decide +kernel
theorem dX7_sheet_33 : decode cX7_sheet 33 = .ok (.iconst 5, 1) := by decide +kernel
theorem dX7_sheet_34 : decode cX7_sheet 34 = .ok (.invokevirtual 91, 3) := by decide +kernel
theorem dX7_sheet_37 : decode cX7_sheet 37 = .ok (.ireturn, 1) := by decide +kernel
theorem dX7_sheet_38 : decode cX7_sheet 38 = .ok (.aload_n 0, 1) := by decide +kernel
theorem dX7_sheet_39 : decode cX7_sheet 39 = .ok (.getfield 7, 3) := by decide +kernel
theorem dX7_sheet_42 : decode cX7_sheet 42 = .ok (.iload_n 1, 1) := by decide +kernel
theorem dX7_sheet_43 : decode cX7_sheet 43 = .ok (.iload_n 2, 1) := by decide +kernel
theorem dX7_sheet_44 : decode cX7_sheet 44 = .ok (.iastore, 1) := by decide +kernel
theorem dX7_sheet_45 : decode cX7_sheet 45 = .ok (.aload_n 0, 1) := by decide +kernel
theorem dX7_sheet_46 : decode cX7_sheet 46 = .ok (.getfield 13, 3) := by decide +kernel
theorem dX7_sheet_49 : decode cX7_sheet 49 = .ok (.iload_n 1, 1) := by decide +kernel
theorem dX7_sheet_50 : decode cX7_sheet 50 = .ok (.iload_n 3, 1) := by decide +kernel
theorem dX7_sheet_51 : decode cX7_sheet 51 = .ok (.iastore, 1) := by decide +kernel
theorem dX7_sheet_52 : decode cX7_sheet 52 = .ok (.iconst 0, 1) := by decide +kernel
theorem dX7_sheet_53 : decode cX7_sheet 53 = .ok (.istore 4, 2) := by decide +kernel
theorem dX7_sheet_55 : decode cX7_sheet 55 = .ok (.iload 4, 2) := by decide +kernel
theorem dX7_sheet_57 : decode cX7_sheet 57 = .ok (.iload_n 3, 1) := by decide +kernel
theorem dX7_sheet_58 : decode cX7_sheet 58 = .ok (.if_icmp .ge 22, 3) := by decide +kernel
theorem dX7_sheet_61 : decode cX7_sheet 61 = .ok (.aload_n 0, 1) := by decide +kernel
theorem dX7_sheet_62 : decode cX7_sheet 62 = .ok (.getfield 16, 3) := by decide +kernel
theorem dX7_sheet_65 : decode cX7_sheet 65 = .ok (.bipush 60, 2) := by decide +kernel
theorem dX7_sheet_67 : decode cX7_sheet 67 = .ok (.iload_n 1, 1) := by decide +kernel
theorem dX7_sheet_68 : decode cX7_sheet 68 = .ok (.imul, 1) := by decide +kernel
theorem dX7_sheet_69 : decode cX7_sheet 69 = .ok (.iload 4, 2) := by decide +kernel
theorem dX7_sheet_71 : decode cX7_sheet 71 = .ok (.iadd, 1) := by decide +kernel
theorem dX7_sheet_72 : decode cX7_sheet 72 = .ok (.iconst 0, 1) := by decide +kernel
theorem dX7_sheet_73 : decode cX7_sheet 73 = .ok (.iastore, 1) := by decide +kernel
theorem dX7_sheet_74 : decode cX7_sheet 74 = .ok (.iinc 4 1, 3) := by decide +kernel
theorem dX7_sheet_77 : decode cX7_sheet 77 = .ok (.goto (-22), 3) := by decide +kernel
theorem dX7_sheet_80 : decode cX7_sheet 80 = .ok (.iload_n 3, 1) := by decide +kernel
theorem dX7_sheet_81 : decode cX7_sheet 81 = .ok (.ireturn, 1) := by decide +kernel
theorem dX7_lose_0 : decode cX7_lose 0 = .ok (.iload_n 1, 1) := by decide +kernel
theorem dX7_lose_1 : decode cX7_lose 1 = .ok (.invokestatic 85, 3) := by decide +kernel
theorem dX7_lose_4 : decode cX7_lose 4 = .ok (.ifCond .ne 6, 3) := by decide +kernel
theorem dX7_lose_7 : decode cX7_lose 7 = .ok (.bipush (-2), 2) := by decide +kernel
theorem dX7_lose_9 : decode cX7_lose 9 = .ok (.ireturn, 1) := by decide +kernel
theorem dX7_lose_10 : decode cX7_lose 10 = .ok (.aload_n 0, 1) := by decide +kernel
theorem dX7_lose_11 : decode cX7_lose 11 = .ok (.getfield 7, 3) := by decide +kernel
theorem dX7_lose_14 : decode cX7_lose 14 = .ok (.iload_n 1, 1) := by decide +kernel
theorem dX7_lose_15 : decode cX7_lose 15 = .ok (.iaload, 1) := by decide +kernel
theorem dX7_lose_16 : decode cX7_lose 16 = .ok (.ifCond .ge 9, 3) := by decide +kernel
theorem dX7_lose_19 : decode cX7_lose 19 = .ok (.aload_n 0, 1) := by decide +kernel
theorem dX7_lose_20 : decode cX7_lose 20 = .ok (.iconst 1, 1) := by decide +kernel
theorem dX7_lose_21 : decode cX7_lose 21 = .ok (.invokevirtual 91, 3) := by decide +kernel
theorem dX7_lose_24 : decode cX7_lose 24 = .ok (.ireturn, 1) := by decide +kernel
theorem dX7_lose_25 : decode cX7_lose 25 = .ok (.aload_n 0, 1) := by decide +kernel
theorem dX7_lose_26 : decode cX7_lose 26 = .ok (.getfield 7, 3) := by decide +kernel
theorem dX7_lose_29 : decode cX7_lose 29 = .ok (.iload_n 1, 1) := by decide +kernel
theorem dX7_lose_30 : decode cX7_lose 30 = .ok (.iconst (-1), 1) := by decide +kernel
theorem dX7_lose_31 : decode cX7_lose 31 = .ok (.iastore, 1) := by decide +kernel
theorem dX7_lose_32 : decode cX7_lose 32 = .ok (.aload_n 0, 1) := by decide +kernel
theorem dX7_lose_33 : decode cX7_lose 33 = .ok (.getfield 13, 3) := by decide +kernel
theorem dX7_lose_36 : decode cX7_lose 36 = .ok (.iload_n 1, 1) := by decide +kernel
theorem dX7_lose_37 : decode cX7_lose 37 = .ok (.iaload, 1) := by decide +kernel
theorem dX7_lose_38 : decode cX7_lose 38 = .ok (.ireturn, 1) := by decide +kernel
theorem dX7_lacks_0 : decode cX7_lacks 0 = .ok (.aload_n 0, 1) := by decide +kernel
theorem dX7_lacks_1 : decode cX7_lacks 1 = .ok (.getfield 7, 3) := by decide +kernel
theorem dX7_lacks_4 : decode cX7_lacks 4 = .ok (.iload_n 1, 1) := by decide +kernel
theorem dX7_lacks_5 : decode cX7_lacks 5 = .ok (.iaload, 1) := by decide +kernel
theorem dX7_lacks_6 : decode cX7_lacks 6 = .ok (.ifCond .ge 9, 3) := by decide +kernel
theorem dX7_lacks_9 : decode cX7_lacks 9 = .ok (.aload_n 0, 1) := by decide +kernel
theorem dX7_lacks_10 : decode cX7_lacks 10 = .ok (.iconst 1, 1) := by decide +kernel
theorem dX7_lacks_11 : decode cX7_lacks 11 = .ok (.invokevirtual 91, 3) := by decide +kernel
theorem dX7_lacks_14 : decode cX7_lacks 14 = .ok (.ireturn, 1) := by decide +kernel
theorem dX7_lacks_15 : decode cX7_lacks 15 = .ok (.aload_n 0, 1) := by decide +kernel
theorem dX7_lacks_16 : decode cX7_lacks 16 = .ok (.getfield 7, 3) := by decide +kernel
theorem dX7_lacks_19 : decode cX7_lacks 19 = .ok (.iload_n 1, 1) := by decide +kernel
theorem dX7_lacks_20 : decode cX7_lacks 20 = .ok (.iaload, 1) := by decide +kernel
theorem dX7_lacks_21 : decode cX7_lacks 21 = .ok (.iload_n 2, 1) := by decide +kernel
theorem dX7_lacks_22 : decode cX7_lacks 22 = .ok (.if_icmp .eq 9, 3) := by decide +kernel
theorem dX7_lacks_25 : decode cX7_lacks 25 = .ok (.aload_n 0, 1) := by decide +kernel
theorem dX7_lacks_26 : decode cX7_lacks 26 = .ok (.iconst 3, 1) := by decide +kernel
theorem dX7_lacks_27 : decode cX7_lacks 27 = .ok (.invokevirtual 91, 3) := by decide +kernel
theorem dX7_lacks_30 : decode cX7_lacks 30 = .ok (.ireturn, 1) := by decide +kernel
theorem dX7_lacks_31 : decode cX7_lacks 31 = .ok (.iload_n 3, 1) := by decide +kernel
theorem dX7_lacks_32 : decode cX7_lacks 32 = .ok (.i2l, 1) := by decide +kernel
theorem dX7_lacks_33 : decode cX7_lacks 33 = .ok (.lconst 0, 1) := by decide +kernel
theorem dX7_lacks_34 : decode cX7_lacks 34 = .ok (.aload_n 0, 1) := by decide +kernel
theorem dX7_lacks_35 : decode cX7_lacks 35 = .ok (.getfield 13, 3) := by decide +kernel
theorem dX7_lacks_38 : decode cX7_lacks 38 = .ok (.iload_n 1, 1) := by decide +kernel
theorem dX7_lacks_39 : decode cX7_lacks 39 = .ok (.iaload, 1) := by decide +kernel
theorem dX7_lacks_40 : decode cX7_lacks 40 = .ok (.iconst 1, 1) := by decide +kernel
theorem dX7_lacks_41 : decode cX7_lacks 41 = .ok (.isub, 1) := by decide +kernel
theorem dX7_lacks_42 : decode cX7_lacks 42 = .ok (.i2l, 1) := by decide +kernel
theorem dX7_lacks_43 : decode cX7_lacks 43 = .ok (.invokestatic 76, 3) := by decide +kernel
theorem dX7_lacks_46 : decode cX7_lacks 46 = .ok (.ifCond .eq 7, 3) := by decide +kernel
theorem dX7_lacks_49 : decode cX7_lacks 49 = .ok (.iconst 0, 1) := by decide +kernel
theorem dX7_lacks_50 : decode cX7_lacks 50 = .ok (.goto 8, 3) := by decide +kernel
theorem dX7_lacks_53 : decode cX7_lacks 53 = .ok (.aload_n 0, 1) := by decide +kernel
theorem dX7_lacks_54 : decode cX7_lacks 54 = .ok (.iconst 2, 1) := by decide +kernel
theorem dX7_lacks_55 : decode cX7_lacks 55 = .ok (.invokevirtual 91, 3) := by decide +kernel
theorem dX7_lacks_58 : decode cX7_lacks 58 = .ok (.ireturn, 1) := by decide +kernel
theorem dX7_cut_0 : decode cX7_cut 0 = .ok (.iload_n 0, 1) := by decide +kernel
theorem dX7_cut_1 : decode cX7_cut 1 = .ok (.ifCond .ne 8, 3) := by decide +kernel
theorem dX7_cut_4 : decode cX7_cut 4 = .ok (.iload_n 1, 1) := by decide +kernel
theorem dX7_cut_5 : decode cX7_cut 5 = .ok (.i2b, 1) := by decide +kernel
theorem dX7_cut_6 : decode cX7_cut 6 = .ok (.goto 14, 3) := by decide +kernel
theorem dX7_cut_9 : decode cX7_cut 9 = .ok (.iload_n 0, 1) := by decide +kernel
theorem dX7_cut_10 : decode cX7_cut 10 = .ok (.iconst 1, 1) := by decide +kernel
theorem dX7_cut_11 : decode cX7_cut 11 = .ok (.if_icmp .ne 8, 3) := by decide +kernel
theorem dX7_cut_14 : decode cX7_cut 14 = .ok (.iload_n 1, 1) := by decide +kernel
theorem dX7_cut_15 : decode cX7_cut 15 = .ok (.i2s, 1) := by decide +kernel
theorem dX7_cut_16 : decode cX7_cut 16 = .ok (.goto 4, 3) := by decide +kernel
theorem dX7_cut_19 : decode cX7_cut 19 = .ok (.iload_n 1, 1) := by decide +kernel
theorem dX7_cut_20 : decode cX7_cut 20 = .ok (.ireturn, 1) := by decide +kernel
theorem dX7_lay_0 : decode cX7_lay 0 = .ok (.iload_n 1, 1) := by decide +kernel
theorem dX7_lay_1 : decode cX7_lay 1 = .ok (.invokestatic 85, 3) := by decide +kernel
theorem dX7_lay_4 : decode cX7_lay 4 = .ok (.ifCond .eq 15, 3) := by decide +kernel
theorem dX7_lay_7 : decode cX7_lay 7 = .ok (.iload_n 2, 1) := by decide +kernel
theorem dX7_lay_8 : decode cX7_lay 8 = .ok (.i2l, 1) := by decide +kernel
theorem dX7_lay_9 : decode cX7_lay 9 = .ok (.lconst 0, 1) := by decide +kernel
theorem dX7_lay_10 : decode cX7_lay 10 = .ok (.ldc2_w 89, 3) := by decide +kernel
theorem dX7_lay_13 : decode cX7_lay 13 = .ok (.invokestatic 76, 3) := by decide +kernel
theorem dX7_lay_16 : decode cX7_lay 16 = .ok (.ifCond .ne 6, 3) := by decide +kernel
theorem dX7_lay_19 : decode cX7_lay 19 = .ok (.bipush (-2), 2) := by decide +kernel
theorem dX7_lay_21 : decode cX7_lay 21 = .ok (.ireturn, 1) := by decide +kernel
theorem dX7_lay_22 : decode cX7_lay 22 = .ok (.aload_n 0, 1) := by decide +kernel
theorem dX7_lay_23 : decode cX7_lay 23 = .ok (.iload_n 1, 1) := by decide +kernel
theorem dX7_lay_24 : decode cX7_lay 24 = .ok (.iload_n 2, 1) := by decide +kernel
theorem dX7_lay_25 : decode cX7_lay 25 = .ok (.iload_n 3, 1) := by decide +kernel
theorem dX7_lay_26 : decode cX7_lay 26 = .ok (.invokevirtual 95, 3) := by decide +kernel
theorem dX7_lay_29 : decode cX7_lay 29 = .ok (.istore 5, 2) := by decide +kernel
theorem dX7_lay_31 : decode cX7_lay 31 = .ok (.iload 5, 2) := by decide +kernel
theorem dX7_lay_33 : decode cX7_lay 33 = .ok (.ifCond .eq 6, 3) := by decide +kernel
theorem dX7_lay_36 : decode cX7_lay 36 = .ok (.iload 5, 2) := by decide +kernel
theorem dX7_lay_38 : decode cX7_lay 38 = .ok (.ireturn, 1) := by decide +kernel
theorem dX7_lay_39 : decode cX7_lay 39 = .ok (.aload_n 0, 1) := by decide +kernel
theorem dX7_lay_40 : decode cX7_lay 40 = .ok (.getfield 16, 3) := by decide +kernel
theorem dX7_lay_43 : decode cX7_lay 43 = .ok (.bipush 60, 2) := by decide +kernel
theorem dX7_lay_45 : decode cX7_lay 45 = .ok (.iload_n 1, 1) := by decide +kernel
theorem dX7_lay_46 : decode cX7_lay 46 = .ok (.imul, 1) := by decide +kernel
theorem dX7_lay_47 : decode cX7_lay 47 = .ok (.iload_n 3, 1) := by decide +kernel
theorem dX7_lay_48 : decode cX7_lay 48 = .ok (.iadd, 1) := by decide +kernel
theorem dX7_lay_49 : decode cX7_lay 49 = .ok (.iload_n 2, 1) := by decide +kernel
theorem dX7_lay_50 : decode cX7_lay 50 = .ok (.iload 4, 2) := by decide +kernel
theorem dX7_lay_52 : decode cX7_lay 52 = .ok (.invokestatic 99, 3) := by decide +kernel
theorem dX7_lay_55 : decode cX7_lay 55 = .ok (.iastore, 1) := by decide +kernel
theorem dX7_lay_56 : decode cX7_lay 56 = .ok (.iconst 1, 1) := by decide +kernel
theorem dX7_lay_57 : decode cX7_lay 57 = .ok (.ireturn, 1) := by decide +kernel
theorem dX7_get_0 : decode cX7_get 0 = .ok (.iload_n 1, 1) := by decide +kernel
theorem dX7_get_1 : decode cX7_get 1 = .ok (.invokestatic 85, 3) := by decide +kernel
theorem dX7_get_4 : decode cX7_get 4 = .ok (.ifCond .eq 25, 3) := by decide +kernel
theorem dX7_get_7 : decode cX7_get 7 = .ok (.iload_n 2, 1) := by decide +kernel
theorem dX7_get_8 : decode cX7_get 8 = .ok (.i2l, 1) := by decide +kernel
theorem dX7_get_9 : decode cX7_get 9 = .ok (.lconst 0, 1) := by decide +kernel
theorem dX7_get_10 : decode cX7_get 10 = .ok (.ldc2_w 89, 3) := by decide +kernel
theorem dX7_get_13 : decode cX7_get 13 = .ok (.invokestatic 76, 3) := by decide +kernel
theorem dX7_get_16 : decode cX7_get 16 = .ok (.ifCond .eq 13, 3) := by decide +kernel
theorem dX7_get_19 : decode cX7_get 19 = .ok (.aload_n 0, 1) := by decide +kernel
theorem dX7_get_20 : decode cX7_get 20 = .ok (.iload_n 1, 1) := by decide +kernel
theorem dX7_get_21 : decode cX7_get 21 = .ok (.iload_n 2, 1) := by decide +kernel
theorem dX7_get_22 : decode cX7_get 22 = .ok (.iload_n 3, 1) := by decide +kernel
theorem dX7_get_23 : decode cX7_get 23 = .ok (.invokevirtual 95, 3) := by decide +kernel
theorem dX7_get_26 : decode cX7_get 26 = .ok (.ifCond .eq 6, 3) := by decide +kernel
theorem dX7_get_29 : decode cX7_get 29 = .ok (.ldc 103, 2) := by decide +kernel
theorem dX7_get_31 : decode cX7_get 31 = .ok (.ireturn, 1) := by decide +kernel
theorem dX7_get_32 : decode cX7_get 32 = .ok (.aload_n 0, 1) := by decide +kernel
theorem dX7_get_33 : decode cX7_get 33 = .ok (.getfield 16, 3) := by decide +kernel
theorem dX7_get_36 : decode cX7_get 36 = .ok (.bipush 60, 2) := by decide +kernel
theorem dX7_get_38 : decode cX7_get 38 = .ok (.iload_n 1, 1) := by decide +kernel
theorem dX7_get_39 : decode cX7_get 39 = .ok (.imul, 1) := by decide +kernel
theorem dX7_get_40 : decode cX7_get 40 = .ok (.iload_n 3, 1) := by decide +kernel
theorem dX7_get_41 : decode cX7_get 41 = .ok (.iadd, 1) := by decide +kernel
theorem dX7_get_42 : decode cX7_get 42 = .ok (.iaload, 1) := by decide +kernel
theorem dX7_get_43 : decode cX7_get 43 = .ok (.ireturn, 1) := by decide +kernel
theorem dX7_copy_0 : decode cX7_copy 0 = .ok (.iload_n 1, 1) := by decide +kernel
theorem dX7_copy_1 : decode cX7_copy 1 = .ok (.invokestatic 85, 3) := by decide +kernel
theorem dX7_copy_4 : decode cX7_copy 4 = .ok (.ifCond .eq 10, 3) := by decide +kernel
theorem dX7_copy_7 : decode cX7_copy 7 = .ok (.iload_n 3, 1) := by decide +kernel
theorem dX7_copy_8 : decode cX7_copy 8 = .ok (.invokestatic 85, 3) := by decide +kernel
theorem dX7_copy_11 : decode cX7_copy 11 = .ok (.ifCond .ne 6, 3) := by decide +kernel
theorem dX7_copy_14 : decode cX7_copy 14 = .ok (.bipush (-2), 2) := by decide +kernel
theorem dX7_copy_16 : decode cX7_copy 16 = .ok (.ireturn, 1) := by decide +kernel
theorem dX7_copy_17 : decode cX7_copy 17 = .ok (.aload_n 0, 1) := by decide +kernel
theorem dX7_copy_18 : decode cX7_copy 18 = .ok (.getfield 7, 3) := by decide +kernel
theorem dX7_copy_21 : decode cX7_copy 21 = .ok (.iload_n 1, 1) := by decide +kernel
theorem dX7_copy_22 : decode cX7_copy 22 = .ok (.iaload, 1) := by decide +kernel
theorem dX7_copy_23 : decode cX7_copy 23 = .ok (.ifCond .lt 12, 3) := by decide +kernel
theorem dX7_copy_26 : decode cX7_copy 26 = .ok (.aload_n 0, 1) := by decide +kernel
theorem dX7_copy_27 : decode cX7_copy 27 = .ok (.getfield 7, 3) := by decide +kernel
theorem dX7_copy_30 : decode cX7_copy 30 = .ok (.iload_n 3, 1) := by decide +kernel
theorem dX7_copy_31 : decode cX7_copy 31 = .ok (.iaload, 1) := by decide +kernel
theorem dX7_copy_32 : decode cX7_copy 32 = .ok (.ifCond .ge 9, 3) := by decide +kernel
theorem dX7_copy_35 : decode cX7_copy 35 = .ok (.aload_n 0, 1) := by decide +kernel
theorem dX7_copy_36 : decode cX7_copy 36 = .ok (.iconst 1, 1) := by decide +kernel
theorem dX7_copy_37 : decode cX7_copy 37 = .ok (.invokevirtual 91, 3) := by decide +kernel
theorem dX7_copy_40 : decode cX7_copy 40 = .ok (.ireturn, 1) := by decide +kernel
theorem dX7_copy_41 : decode cX7_copy 41 = .ok (.aload_n 0, 1) := by decide +kernel
theorem dX7_copy_42 : decode cX7_copy 42 = .ok (.getfield 7, 3) := by decide +kernel
theorem dX7_copy_45 : decode cX7_copy 45 = .ok (.iload_n 1, 1) := by decide +kernel
theorem dX7_copy_46 : decode cX7_copy 46 = .ok (.iaload, 1) := by decide +kernel
theorem dX7_copy_47 : decode cX7_copy 47 = .ok (.aload_n 0, 1) := by decide +kernel
theorem dX7_copy_48 : decode cX7_copy 48 = .ok (.getfield 7, 3) := by decide +kernel
theorem dX7_copy_51 : decode cX7_copy 51 = .ok (.iload_n 3, 1) := by decide +kernel
theorem dX7_copy_52 : decode cX7_copy 52 = .ok (.iaload, 1) := by decide +kernel
theorem dX7_copy_53 : decode cX7_copy 53 = .ok (.if_icmp .eq 9, 3) := by decide +kernel
theorem dX7_copy_56 : decode cX7_copy 56 = .ok (.aload_n 0, 1) := by decide +kernel
theorem dX7_copy_57 : decode cX7_copy 57 = .ok (.iconst 4, 1) := by decide +kernel
theorem dX7_copy_58 : decode cX7_copy 58 = .ok (.invokevirtual 91, 3) := by decide +kernel
theorem dX7_copy_61 : decode cX7_copy 61 = .ok (.ireturn, 1) := by decide +kernel
theorem dX7_copy_62 : decode cX7_copy 62 = .ok (.iload_n 2, 1) := by decide +kernel
theorem dX7_copy_63 : decode cX7_copy 63 = .ok (.ifCond .lt 48, 3) := by decide +kernel
theorem dX7_copy_66 : decode cX7_copy 66 = .ok (.iload 4, 2) := by decide +kernel
theorem dX7_copy_68 : decode cX7_copy 68 = .ok (.ifCond .lt 43, 3) := by decide +kernel
theorem dX7_copy_71 : decode cX7_copy 71 = .ok (.iload 5, 2) := by decide +kernel
theorem dX7_copy_73 : decode cX7_copy 73 = .ok (.ifCond .lt 38, 3) := by decide +kernel
theorem dX7_copy_76 : decode cX7_copy 76 = .ok (.iload_n 2, 1) := by decide +kernel
theorem dX7_copy_77 : decode cX7_copy 77 = .ok (.i2l, 1) := by decide +kernel
theorem dX7_copy_78 : decode cX7_copy 78 = .ok (.iload 5, 2) := by decide +kernel
theorem dX7_copy_80 : decode cX7_copy 80 = .ok (.i2l, 1) := by decide +kernel
theorem dX7_copy_81 : decode cX7_copy 81 = .ok (.ladd, 1) := by decide +kernel
theorem dX7_copy_82 : decode cX7_copy 82 = .ok (.aload_n 0, 1) := by decide +kernel
theorem dX7_copy_83 : decode cX7_copy 83 = .ok (.getfield 13, 3) := by decide +kernel
theorem dX7_copy_86 : decode cX7_copy 86 = .ok (.iload_n 1, 1) := by decide +kernel
theorem dX7_copy_87 : decode cX7_copy 87 = .ok (.iaload, 1) := by decide +kernel
theorem dX7_copy_88 : decode cX7_copy 88 = .ok (.i2l, 1) := by decide +kernel
theorem dX7_copy_89 : decode cX7_copy 89 = .ok (.lcmp, 1) := by decide +kernel
theorem dX7_copy_90 : decode cX7_copy 90 = .ok (.ifCond .gt 21, 3) := by decide +kernel
theorem dX7_copy_93 : decode cX7_copy 93 = .ok (.iload 4, 2) := by decide +kernel
theorem dX7_copy_95 : decode cX7_copy 95 = .ok (.i2l, 1) := by decide +kernel
theorem dX7_copy_96 : decode cX7_copy 96 = .ok (.iload 5, 2) := by decide +kernel
theorem dX7_copy_98 : decode cX7_copy 98 = .ok (.i2l, 1) := by decide +kernel
theorem dX7_copy_99 : decode cX7_copy 99 = .ok (.ladd, 1) := by decide +kernel
theorem dX7_copy_100 : decode cX7_copy 100 = .ok (.aload_n 0, 1) := by decide +kernel
theorem dX7_copy_101 : decode cX7_copy 101 = .ok (.getfield 13, 3) := by decide +kernel
theorem dX7_copy_104 : decode cX7_copy 104 = .ok (.iload_n 3, 1) := by decide +kernel
theorem dX7_copy_105 : decode cX7_copy 105 = .ok (.iaload, 1) := by decide +kernel
theorem dX7_copy_106 : decode cX7_copy 106 = .ok (.i2l, 1) := by decide +kernel
theorem dX7_copy_107 : decode cX7_copy 107 = .ok (.lcmp, 1) := by decide +kernel
theorem dX7_copy_108 : decode cX7_copy 108 = .ok (.ifCond .le 9, 3) := by decide +kernel
theorem dX7_copy_111 : decode cX7_copy 111 = .ok (.aload_n 0, 1) := by decide +kernel
theorem dX7_copy_112 : decode cX7_copy 112 = .ok (.iconst 2, 1) := by decide +kernel
theorem dX7_copy_113 : decode cX7_copy 113 = .ok (.invokevirtual 91, 3) := by decide +kernel
theorem dX7_copy_116 : decode cX7_copy 116 = .ok (.ireturn, 1) := by decide +kernel
theorem dX7_copy_117 : decode cX7_copy 117 = .ok (.iconst 0, 1) := by decide +kernel
theorem dX7_copy_118 : decode cX7_copy 118 = .ok (.istore 6, 2) := by decide +kernel
theorem dX7_copy_120 : decode cX7_copy 120 = .ok (.iload 6, 2) := by decide +kernel
theorem dX7_copy_122 : decode cX7_copy 122 = .ok (.iload 5, 2) := by decide +kernel
theorem dX7_copy_124 : decode cX7_copy 124 = .ok (.if_icmp .ge 30, 3) := by decide +kernel
theorem dX7_copy_127 : decode cX7_copy 127 = .ok (.aload_n 0, 1) := by decide +kernel
theorem dX7_copy_128 : decode cX7_copy 128 = .ok (.getfield 19, 3) := by decide +kernel
theorem dX7_copy_131 : decode cX7_copy 131 = .ok (.iload 6, 2) := by decide +kernel
theorem dX7_copy_133 : decode cX7_copy 133 = .ok (.aload_n 0, 1) := by decide +kernel
theorem dX7_copy_134 : decode cX7_copy 134 = .ok (.getfield 16, 3) := by decide +kernel
theorem dX7_copy_137 : decode cX7_copy 137 = .ok (.bipush 60, 2) := by decide +kernel
theorem dX7_copy_139 : decode cX7_copy 139 = .ok (.iload_n 1, 1) := by decide +kernel
theorem dX7_copy_140 : decode cX7_copy 140 = .ok (.imul, 1) := by decide +kernel
theorem dX7_copy_141 : decode cX7_copy 141 = .ok (.iload_n 2, 1) := by decide +kernel
theorem dX7_copy_142 : decode cX7_copy 142 = .ok (.iadd, 1) := by decide +kernel
theorem dX7_copy_143 : decode cX7_copy 143 = .ok (.iload 6, 2) := by decide +kernel
theorem dX7_copy_145 : decode cX7_copy 145 = .ok (.iadd, 1) := by decide +kernel
theorem dX7_copy_146 : decode cX7_copy 146 = .ok (.iaload, 1) := by decide +kernel
theorem dX7_copy_147 : decode cX7_copy 147 = .ok (.iastore, 1) := by decide +kernel
theorem dX7_copy_148 : decode cX7_copy 148 = .ok (.iinc 6 1, 3) := by decide +kernel
theorem dX7_copy_151 : decode cX7_copy 151 = .ok (.goto (-31), 3) := by decide +kernel
theorem dX7_copy_154 : decode cX7_copy 154 = .ok (.iconst 0, 1) := by decide +kernel
theorem dX7_copy_155 : decode cX7_copy 155 = .ok (.istore 6, 2) := by decide +kernel
theorem dX7_copy_157 : decode cX7_copy 157 = .ok (.iload 6, 2) := by decide +kernel
theorem dX7_copy_159 : decode cX7_copy 159 = .ok (.iload 5, 2) := by decide +kernel
theorem dX7_copy_161 : decode cX7_copy 161 = .ok (.if_icmp .ge 31, 3) := by decide +kernel
theorem dX7_copy_164 : decode cX7_copy 164 = .ok (.aload_n 0, 1) := by decide +kernel
theorem dX7_copy_165 : decode cX7_copy 165 = .ok (.getfield 16, 3) := by decide +kernel
theorem dX7_copy_168 : decode cX7_copy 168 = .ok (.bipush 60, 2) := by decide +kernel
theorem dX7_copy_170 : decode cX7_copy 170 = .ok (.iload_n 3, 1) := by decide +kernel
theorem dX7_copy_171 : decode cX7_copy 171 = .ok (.imul, 1) := by decide +kernel
theorem dX7_copy_172 : decode cX7_copy 172 = .ok (.iload 4, 2) := by decide +kernel
theorem dX7_copy_174 : decode cX7_copy 174 = .ok (.iadd, 1) := by decide +kernel
theorem dX7_copy_175 : decode cX7_copy 175 = .ok (.iload 6, 2) := by decide +kernel
theorem dX7_copy_177 : decode cX7_copy 177 = .ok (.iadd, 1) := by decide +kernel
theorem dX7_copy_178 : decode cX7_copy 178 = .ok (.aload_n 0, 1) := by decide +kernel
theorem dX7_copy_179 : decode cX7_copy 179 = .ok (.getfield 19, 3) := by decide +kernel
theorem dX7_copy_182 : decode cX7_copy 182 = .ok (.iload 6, 2) := by decide +kernel
theorem dX7_copy_184 : decode cX7_copy 184 = .ok (.iaload, 1) := by decide +kernel
theorem dX7_copy_185 : decode cX7_copy 185 = .ok (.iastore, 1) := by decide +kernel
theorem dX7_copy_186 : decode cX7_copy 186 = .ok (.iinc 6 1, 3) := by decide +kernel
theorem dX7_copy_189 : decode cX7_copy 189 = .ok (.goto (-32), 3) := by decide +kernel
theorem dX7_copy_192 : decode cX7_copy 192 = .ok (.iconst 1, 1) := by decide +kernel
theorem dX7_copy_193 : decode cX7_copy 193 = .ok (.ireturn, 1) := by decide +kernel
theorem dX7_isText_0 : decode cX7_isText 0 = .ok (.iload_n 0, 1) := by decide +kernel
theorem dX7_isText_1 : decode cX7_isText 1 = .ok (.i2l, 1) := by decide +kernel
theorem dX7_isText_2 : decode cX7_isText 2 = .ok (.lconst 0, 1) := by decide +kernel
theorem dX7_isText_3 : decode cX7_isText 3 = .ok (.ldc2_w 89, 3) := by decide +kernel
theorem dX7_isText_6 : decode cX7_isText 6 = .ok (.invokestatic 76, 3) := by decide +kernel
theorem dX7_isText_9 : decode cX7_isText 9 = .ok (.ireturn, 1) := by decide +kernel
theorem dX7_type_0 : decode cX7_type 0 = .ok (.iload_n 1, 1) := by decide +kernel
theorem dX7_type_1 : decode cX7_type 1 = .ok (.invokestatic 104, 3) := by decide +kernel
theorem dX7_type_4 : decode cX7_type 4 = .ok (.ifCond .eq 15, 3) := by decide +kernel
theorem dX7_type_7 : decode cX7_type 7 = .ok (.iload_n 2, 1) := by decide +kernel
theorem dX7_type_8 : decode cX7_type 8 = .ok (.i2l, 1) := by decide +kernel
theorem dX7_type_9 : decode cX7_type 9 = .ok (.lconst 0, 1) := by decide +kernel
theorem dX7_type_10 : decode cX7_type 10 = .ok (.ldc2_w 107, 3) := by decide +kernel
theorem dX7_type_13 : decode cX7_type 13 = .ok (.invokestatic 76, 3) := by decide +kernel
theorem dX7_type_16 : decode cX7_type 16 = .ok (.ifCond .ne 6, 3) := by decide +kernel
theorem dX7_type_19 : decode cX7_type 19 = .ok (.bipush (-2), 2) := by decide +kernel
theorem dX7_type_21 : decode cX7_type 21 = .ok (.ireturn, 1) := by decide +kernel
theorem dX7_type_22 : decode cX7_type 22 = .ok (.aload_n 0, 1) := by decide +kernel
theorem dX7_type_23 : decode cX7_type 23 = .ok (.getfield 25, 3) := by decide +kernel
theorem dX7_type_26 : decode cX7_type 26 = .ok (.iload_n 1, 1) := by decide +kernel
theorem dX7_type_27 : decode cX7_type 27 = .ok (.iaload, 1) := by decide +kernel
theorem dX7_type_28 : decode cX7_type 28 = .ok (.iload_n 1, 1) := by decide +kernel
theorem dX7_type_29 : decode cX7_type 29 = .ok (.ifCond .ne 8, 3) := by decide +kernel
theorem dX7_type_32 : decode cX7_type 32 = .ok (.bipush 23, 2) := by decide +kernel
theorem dX7_type_34 : decode cX7_type 34 = .ok (.goto 5, 3) := by decide +kernel
theorem dX7_type_37 : decode cX7_type 37 = .ok (.bipush 47, 2) := by decide +kernel
theorem dX7_type_39 : decode cX7_type 39 = .ok (.if_icmp .ne 6, 3) := by decide +kernel
theorem dX7_type_42 : decode cX7_type 42 = .ok (.bipush (-4), 2) := by decide +kernel
theorem dX7_type_44 : decode cX7_type 44 = .ok (.ireturn, 1) := by decide +kernel
theorem dX7_type_45 : decode cX7_type 45 = .ok (.aload_n 0, 1) := by decide +kernel
theorem dX7_type_46 : decode cX7_type 46 = .ok (.getfield 22, 3) := by decide +kernel
theorem dX7_type_49 : decode cX7_type 49 = .ok (.bipush 48, 2) := by decide +kernel
theorem dX7_type_51 : decode cX7_type 51 = .ok (.iload_n 1, 1) := by decide +kernel
theorem dX7_type_52 : decode cX7_type 52 = .ok (.imul, 1) := by decide +kernel
theorem dX7_type_53 : decode cX7_type 53 = .ok (.aload_n 0, 1) := by decide +kernel
theorem dX7_type_54 : decode cX7_type 54 = .ok (.getfield 25, 3) := by decide +kernel
theorem dX7_type_57 : decode cX7_type 57 = .ok (.iload_n 1, 1) := by decide +kernel
theorem dX7_type_58 : decode cX7_type 58 = .ok (.iaload, 1) := by decide +kernel
theorem dX7_type_59 : decode cX7_type 59 = .ok (.iadd, 1) := by decide +kernel
theorem dX7_type_60 : decode cX7_type 60 = .ok (.iload_n 2, 1) := by decide +kernel
theorem dX7_type_61 : decode cX7_type 61 = .ok (.iastore, 1) := by decide +kernel
theorem dX7_type_62 : decode cX7_type 62 = .ok (.aload_n 0, 1) := by decide +kernel
theorem dX7_type_63 : decode cX7_type 63 = .ok (.getfield 25, 3) := by decide +kernel
theorem dX7_type_66 : decode cX7_type 66 = .ok (.iload_n 1, 1) := by decide +kernel
theorem dX7_type_67 : decode cX7_type 67 = .ok (.dup2, 1) := by decide +kernel
theorem dX7_type_68 : decode cX7_type 68 = .ok (.iaload, 1) := by decide +kernel
theorem dX7_type_69 : decode cX7_type 69 = .ok (.iconst 1, 1) := by decide +kernel
theorem dX7_type_70 : decode cX7_type 70 = .ok (.iadd, 1) := by decide +kernel
theorem dX7_type_71 : decode cX7_type 71 = .ok (.iastore, 1) := by decide +kernel
theorem dX7_type_72 : decode cX7_type 72 = .ok (.aload_n 0, 1) := by decide +kernel
theorem dX7_type_73 : decode cX7_type 73 = .ok (.getfield 25, 3) := by decide +kernel
theorem dX7_type_76 : decode cX7_type 76 = .ok (.iload_n 1, 1) := by decide +kernel
theorem dX7_type_77 : decode cX7_type 77 = .ok (.iaload, 1) := by decide +kernel
theorem dX7_type_78 : decode cX7_type 78 = .ok (.ireturn, 1) := by decide +kernel
theorem dX7_wipe_0 : decode cX7_wipe 0 = .ok (.iload_n 1, 1) := by decide +kernel
theorem dX7_wipe_1 : decode cX7_wipe 1 = .ok (.invokestatic 104, 3) := by decide +kernel
theorem dX7_wipe_4 : decode cX7_wipe 4 = .ok (.ifCond .ne 6, 3) := by decide +kernel
theorem dX7_wipe_7 : decode cX7_wipe 7 = .ok (.bipush (-2), 2) := by decide +kernel
theorem dX7_wipe_9 : decode cX7_wipe 9 = .ok (.ireturn, 1) := by decide +kernel
theorem dX7_wipe_10 : decode cX7_wipe 10 = .ok (.aload_n 0, 1) := by decide +kernel
theorem dX7_wipe_11 : decode cX7_wipe 11 = .ok (.getfield 25, 3) := by decide +kernel
theorem dX7_wipe_14 : decode cX7_wipe 14 = .ok (.iload_n 1, 1) := by decide +kernel
theorem dX7_wipe_15 : decode cX7_wipe 15 = .ok (.iaload, 1) := by decide +kernel
theorem dX7_wipe_16 : decode cX7_wipe 16 = .ok (.istore_n 2, 1) := by decide +kernel
theorem dX7_wipe_17 : decode cX7_wipe 17 = .ok (.aload_n 0, 1) := by decide +kernel
theorem dX7_wipe_18 : decode cX7_wipe 18 = .ok (.getfield 25, 3) := by decide +kernel
theorem dX7_wipe_21 : decode cX7_wipe 21 = .ok (.iload_n 1, 1) := by decide +kernel
theorem dX7_wipe_22 : decode cX7_wipe 22 = .ok (.iconst 0, 1) := by decide +kernel
theorem dX7_wipe_23 : decode cX7_wipe 23 = .ok (.iastore, 1) := by decide +kernel
theorem dX7_wipe_24 : decode cX7_wipe 24 = .ok (.iload_n 2, 1) := by decide +kernel
theorem dX7_wipe_25 : decode cX7_wipe 25 = .ok (.ireturn, 1) := by decide +kernel
theorem dX7_undo_0 : decode cX7_undo 0 = .ok (.iload_n 1, 1) := by decide +kernel
theorem dX7_undo_1 : decode cX7_undo 1 = .ok (.invokestatic 104, 3) := by decide +kernel
theorem dX7_undo_4 : decode cX7_undo 4 = .ok (.ifCond .ne 6, 3) := by decide +kernel
theorem dX7_undo_7 : decode cX7_undo 7 = .ok (.bipush (-2), 2) := by decide +kernel
theorem dX7_undo_9 : decode cX7_undo 9 = .ok (.ireturn, 1) := by decide +kernel
theorem dX7_undo_10 : decode cX7_undo 10 = .ok (.aload_n 0, 1) := by decide +kernel
theorem dX7_undo_11 : decode cX7_undo 11 = .ok (.getfield 25, 3) := by decide +kernel
theorem dX7_undo_14 : decode cX7_undo 14 = .ok (.iload_n 1, 1) := by decide +kernel
theorem dX7_undo_15 : decode cX7_undo 15 = .ok (.iaload, 1) := by decide +kernel
theorem dX7_undo_16 : decode cX7_undo 16 = .ok (.ifCond .ne 6, 3) := by decide +kernel
theorem dX7_undo_19 : decode cX7_undo 19 = .ok (.bipush (-3), 2) := by decide +kernel
theorem dX7_undo_21 : decode cX7_undo 21 = .ok (.ireturn, 1) := by decide +kernel
theorem dX7_undo_22 : decode cX7_undo 22 = .ok (.aload_n 0, 1) := by decide +kernel
theorem dX7_undo_23 : decode cX7_undo 23 = .ok (.getfield 25, 3) := by decide +kernel
theorem dX7_undo_26 : decode cX7_undo 26 = .ok (.iload_n 1, 1) := by decide +kernel
theorem dX7_undo_27 : decode cX7_undo 27 = .ok (.dup2, 1) := by decide +kernel
theorem dX7_undo_28 : decode cX7_undo 28 = .ok (.iaload, 1) := by decide +kernel
theorem dX7_undo_29 : decode cX7_undo 29 = .ok (.iconst 1, 1) := by decide +kernel
theorem dX7_undo_30 : decode cX7_undo 30 = .ok (.isub, 1) := by decide +kernel
theorem dX7_undo_31 : decode cX7_undo 31 = .ok (.iastore, 1) := by decide +kernel
theorem dX7_undo_32 : decode cX7_undo 32 = .ok (.aload_n 0, 1) := by decide +kernel
theorem dX7_undo_33 : decode cX7_undo 33 = .ok (.getfield 25, 3) := by decide +kernel
theorem dX7_undo_36 : decode cX7_undo 36 = .ok (.iload_n 1, 1) := by decide +kernel
theorem dX7_undo_37 : decode cX7_undo 37 = .ok (.iaload, 1) := by decide +kernel
theorem dX7_undo_38 : decode cX7_undo 38 = .ok (.ireturn, 1) := by decide +kernel
theorem dX7_dayOf_0 : decode cX7_dayOf 0 = .ok (.iload_n 0, 1) := by decide +kernel
theorem dX7_dayOf_1 : decode cX7_dayOf 1 = .ok (.i2l, 1) := by decide +kernel
theorem dX7_dayOf_2 : decode cX7_dayOf 2 = .ok (.ldc2_w 109, 3) := by decide +kernel
theorem dX7_dayOf_5 : decode cX7_dayOf 5 = .ok (.ldc2_w 111, 3) := by decide +kernel
theorem dX7_dayOf_8 : decode cX7_dayOf 8 = .ok (.invokestatic 76, 3) := by decide +kernel
theorem dX7_dayOf_11 : decode cX7_dayOf 11 = .ok (.ifCond .eq 10, 3) := by decide +kernel
theorem dX7_dayOf_14 : decode cX7_dayOf 14 = .ok (.iload_n 0, 1) := by decide +kernel
theorem dX7_dayOf_15 : decode cX7_dayOf 15 = .ok (.bipush 97, 2) := by decide +kernel
theorem dX7_dayOf_17 : decode cX7_dayOf 17 = .ok (.isub, 1) := by decide +kernel
theorem dX7_dayOf_18 : decode cX7_dayOf 18 = .ok (.goto 5, 3) := by decide +kernel
theorem dX7_dayOf_21 : decode cX7_dayOf 21 = .ok (.bipush (-9), 2) := by decide +kernel
theorem dX7_dayOf_23 : decode cX7_dayOf 23 = .ok (.ireturn, 1) := by decide +kernel
theorem dX7_figureOf_0 : decode cX7_figureOf 0 = .ok (.iload_n 0, 1) := by decide +kernel
theorem dX7_figureOf_1 : decode cX7_figureOf 1 = .ok (.i2l, 1) := by decide +kernel
theorem dX7_figureOf_2 : decode cX7_figureOf 2 = .ok (.bipush 48, 2) := by decide +kernel
theorem dX7_figureOf_4 : decode cX7_figureOf 4 = .ok (.iload_n 1, 1) := by decide +kernel
theorem dX7_figureOf_5 : decode cX7_figureOf 5 = .ok (.iadd, 1) := by decide +kernel
theorem dX7_figureOf_6 : decode cX7_figureOf 6 = .ok (.i2l, 1) := by decide +kernel
theorem dX7_figureOf_7 : decode cX7_figureOf 7 = .ok (.bipush 48, 2) := by decide +kernel
theorem dX7_figureOf_9 : decode cX7_figureOf 9 = .ok (.iload_n 2, 1) := by decide +kernel
theorem dX7_figureOf_10 : decode cX7_figureOf 10 = .ok (.iadd, 1) := by decide +kernel
theorem dX7_figureOf_11 : decode cX7_figureOf 11 = .ok (.i2l, 1) := by decide +kernel
theorem dX7_figureOf_12 : decode cX7_figureOf 12 = .ok (.invokestatic 76, 3) := by decide +kernel
theorem dX7_figureOf_15 : decode cX7_figureOf 15 = .ok (.ifCond .eq 10, 3) := by decide +kernel
theorem dX7_figureOf_18 : decode cX7_figureOf 18 = .ok (.iload_n 0, 1) := by decide +kernel
theorem dX7_figureOf_19 : decode cX7_figureOf 19 = .ok (.bipush 48, 2) := by decide +kernel
theorem dX7_figureOf_21 : decode cX7_figureOf 21 = .ok (.isub, 1) := by decide +kernel
theorem dX7_figureOf_22 : decode cX7_figureOf 22 = .ok (.goto 5, 3) := by decide +kernel
theorem dX7_figureOf_25 : decode cX7_figureOf 25 = .ok (.bipush (-9), 2) := by decide +kernel
theorem dX7_figureOf_27 : decode cX7_figureOf 27 = .ok (.ireturn, 1) := by decide +kernel
theorem dX7_personOf_0 : decode cX7_personOf 0 = .ok (.iload_n 0, 1) := by decide +kernel
theorem dX7_personOf_1 : decode cX7_personOf 1 = .ok (.ifCond .ne 46, 3) := by decide +kernel
theorem dX7_personOf_4 : decode cX7_personOf 4 = .ok (.iload_n 1, 1) := by decide +kernel
theorem dX7_personOf_5 : decode cX7_personOf 5 = .ok (.bipush 112, 2) := by decide +kernel
theorem dX7_personOf_7 : decode cX7_personOf 7 = .ok (.if_icmp .ne 7, 3) := by decide +kernel
theorem dX7_personOf_10 : decode cX7_personOf 10 = .ok (.iconst 0, 1) := by decide +kernel
theorem dX7_personOf_11 : decode cX7_personOf 11 = .ok (.goto 35, 3) := by decide +kernel
theorem dX7_personOf_14 : decode cX7_personOf 14 = .ok (.iload_n 1, 1) := by decide +kernel
theorem dX7_personOf_15 : decode cX7_personOf 15 = .ok (.bipush 111, 2) := by decide +kernel
theorem dX7_personOf_17 : decode cX7_personOf 17 = .ok (.if_icmp .ne 7, 3) := by decide +kernel
theorem dX7_personOf_20 : decode cX7_personOf 20 = .ok (.iconst 1, 1) := by decide +kernel
theorem dX7_personOf_21 : decode cX7_personOf 21 = .ok (.goto 25, 3) := by decide +kernel
theorem dX7_personOf_24 : decode cX7_personOf 24 = .ok (.iload_n 1, 1) := by decide +kernel
theorem dX7_personOf_25 : decode cX7_personOf 25 = .ok (.bipush 109, 2) := by decide +kernel
theorem dX7_personOf_27 : decode cX7_personOf 27 = .ok (.if_icmp .ne 7, 3) := by decide +kernel
theorem dX7_personOf_30 : decode cX7_personOf 30 = .ok (.iconst 2, 1) := by decide +kernel
theorem dX7_personOf_31 : decode cX7_personOf 31 = .ok (.goto 15, 3) := by decide +kernel
theorem dX7_personOf_34 : decode cX7_personOf 34 = .ok (.iload_n 1, 1) := by decide +kernel
theorem dX7_personOf_35 : decode cX7_personOf 35 = .ok (.bipush 98, 2) := by decide +kernel
theorem dX7_personOf_37 : decode cX7_personOf 37 = .ok (.if_icmp .ne 7, 3) := by decide +kernel
theorem dX7_personOf_40 : decode cX7_personOf 40 = .ok (.iconst 3, 1) := by decide +kernel
theorem dX7_personOf_41 : decode cX7_personOf 41 = .ok (.goto 5, 3) := by decide +kernel
theorem dX7_personOf_44 : decode cX7_personOf 44 = .ok (.bipush (-9), 2) := by decide +kernel
theorem dX7_personOf_46 : decode cX7_personOf 46 = .ok (.ireturn, 1) := by decide +kernel
theorem dX7_personOf_47 : decode cX7_personOf 47 = .ok (.iload_n 0, 1) := by decide +kernel
theorem dX7_personOf_48 : decode cX7_personOf 48 = .ok (.iconst 1, 1) := by decide +kernel
theorem dX7_personOf_49 : decode cX7_personOf 49 = .ok (.if_icmp .ne 10, 3) := by decide +kernel
theorem dX7_personOf_52 : decode cX7_personOf 52 = .ok (.iload_n 1, 1) := by decide +kernel
theorem dX7_personOf_53 : decode cX7_personOf 53 = .ok (.invokestatic 113, 3) := by decide +kernel
theorem dX7_personOf_56 : decode cX7_personOf 56 = .ok (.goto 15, 3) := by decide +kernel
theorem dX7_personOf_59 : decode cX7_personOf 59 = .ok (.iload_n 1, 1) := by decide +kernel
theorem dX7_personOf_60 : decode cX7_personOf 60 = .ok (.bipush 59, 2) := by decide +kernel
theorem dX7_personOf_62 : decode cX7_personOf 62 = .ok (.if_icmp .ne 7, 3) := by decide +kernel
theorem dX7_personOf_65 : decode cX7_personOf 65 = .ok (.iconst 0, 1) := by decide +kernel
theorem dX7_personOf_66 : decode cX7_personOf 66 = .ok (.goto 5, 3) := by decide +kernel
theorem dX7_personOf_69 : decode cX7_personOf 69 = .ok (.bipush (-9), 2) := by decide +kernel
theorem dX7_personOf_71 : decode cX7_personOf 71 = .ok (.ireturn, 1) := by decide +kernel
theorem dX7_readsPeople_0 : decode cX7_readsPeople 0 = .ok (.aload_n 0, 1) := by decide +kernel
theorem dX7_readsPeople_1 : decode cX7_readsPeople 1 = .ok (.iconst 0, 1) := by decide +kernel
theorem dX7_readsPeople_2 : decode cX7_readsPeople 2 = .ok (.putfield 116, 3) := by decide +kernel
theorem dX7_readsPeople_5 : decode cX7_readsPeople 5 = .ok (.aload_n 0, 1) := by decide +kernel
theorem dX7_readsPeople_6 : decode cX7_readsPeople 6 = .ok (.getfield 25, 3) := by decide +kernel
theorem dX7_readsPeople_9 : decode cX7_readsPeople 9 = .ok (.iconst 0, 1) := by decide +kernel
theorem dX7_readsPeople_10 : decode cX7_readsPeople 10 = .ok (.iaload, 1) := by decide +kernel
theorem dX7_readsPeople_11 : decode cX7_readsPeople 11 = .ok (.istore_n 1, 1) := by decide +kernel
theorem dX7_readsPeople_12 : decode cX7_readsPeople 12 = .ok (.iconst 0, 1) := by decide +kernel
theorem dX7_readsPeople_13 : decode cX7_readsPeople 13 = .ok (.istore_n 2, 1) := by decide +kernel
theorem dX7_readsPeople_14 : decode cX7_readsPeople 14 = .ok (.iload_n 2, 1) := by decide +kernel
theorem dX7_readsPeople_15 : decode cX7_readsPeople 15 = .ok (.iload_n 1, 1) := by decide +kernel
theorem dX7_readsPeople_16 : decode cX7_readsPeople 16 = .ok (.if_icmp .ge 77, 3) := by decide +kernel
theorem dX7_readsPeople_19 : decode cX7_readsPeople 19 = .ok (.iload_n 2, 1) := by decide +kernel
theorem dX7_readsPeople_20 : decode cX7_readsPeople 20 = .ok (.iconst 3, 1) := by decide +kernel
theorem dX7_readsPeople_21 : decode cX7_readsPeople 21 = .ok (.irem, 1) := by decide +kernel
theorem dX7_readsPeople_22 : decode cX7_readsPeople 22 = .ok (.istore_n 3, 1) := by decide +kernel
theorem dX7_readsPeople_23 : decode cX7_readsPeople 23 = .ok (.iload_n 3, 1) := by decide +kernel
theorem dX7_readsPeople_24 : decode cX7_readsPeople 24 = .ok (.aload_n 0, 1) := by decide +kernel
theorem dX7_readsPeople_25 : decode cX7_readsPeople 25 = .ok (.getfield 22, 3) := by decide +kernel
theorem dX7_readsPeople_28 : decode cX7_readsPeople 28 = .ok (.iload_n 2, 1) := by decide +kernel
theorem dX7_readsPeople_29 : decode cX7_readsPeople 29 = .ok (.iaload, 1) := by decide +kernel
theorem dX7_readsPeople_30 : decode cX7_readsPeople 30 = .ok (.invokestatic 119, 3) := by decide +kernel
theorem dX7_readsPeople_33 : decode cX7_readsPeople 33 = .ok (.istore 4, 2) := by decide +kernel
theorem dX7_readsPeople_35 : decode cX7_readsPeople 35 = .ok (.iload 4, 2) := by decide +kernel
theorem dX7_readsPeople_37 : decode cX7_readsPeople 37 = .ok (.bipush (-9), 2) := by decide +kernel
theorem dX7_readsPeople_39 : decode cX7_readsPeople 39 = .ok (.if_icmp .ne 10, 3) := by decide +kernel
theorem dX7_readsPeople_42 : decode cX7_readsPeople 42 = .ok (.aload_n 0, 1) := by decide +kernel
theorem dX7_readsPeople_43 : decode cX7_readsPeople 43 = .ok (.iconst 0, 1) := by decide +kernel
theorem dX7_readsPeople_44 : decode cX7_readsPeople 44 = .ok (.putfield 116, 3) := by decide +kernel
theorem dX7_readsPeople_47 : decode cX7_readsPeople 47 = .ok (.iload_n 2, 1) := by decide +kernel
theorem dX7_readsPeople_48 : decode cX7_readsPeople 48 = .ok (.ireturn, 1) := by decide +kernel
theorem dX7_readsPeople_49 : decode cX7_readsPeople 49 = .ok (.iload_n 3, 1) := by decide +kernel
theorem dX7_readsPeople_50 : decode cX7_readsPeople 50 = .ok (.iconst 2, 1) := by decide +kernel
theorem dX7_readsPeople_51 : decode cX7_readsPeople 51 = .ok (.if_icmp .ge 17, 3) := by decide +kernel
theorem dX7_readsPeople_54 : decode cX7_readsPeople 54 = .ok (.aload_n 0, 1) := by decide +kernel
theorem dX7_readsPeople_55 : decode cX7_readsPeople 55 = .ok (.getfield 28, 3) := by decide +kernel
theorem dX7_readsPeople_58 : decode cX7_readsPeople 58 = .ok (.iconst 2, 1) := by decide +kernel
theorem dX7_readsPeople_59 : decode cX7_readsPeople 59 = .ok (.iload_n 2, 1) := by decide +kernel
theorem dX7_readsPeople_60 : decode cX7_readsPeople 60 = .ok (.iconst 3, 1) := by decide +kernel
theorem dX7_readsPeople_61 : decode cX7_readsPeople 61 = .ok (.idiv, 1) := by decide +kernel
theorem dX7_readsPeople_62 : decode cX7_readsPeople 62 = .ok (.imul, 1) := by decide +kernel
theorem dX7_readsPeople_63 : decode cX7_readsPeople 63 = .ok (.iload_n 3, 1) := by decide +kernel
theorem dX7_readsPeople_64 : decode cX7_readsPeople 64 = .ok (.iadd, 1) := by decide +kernel
theorem dX7_readsPeople_65 : decode cX7_readsPeople 65 = .ok (.iload 4, 2) := by decide +kernel
theorem dX7_readsPeople_67 : decode cX7_readsPeople 67 = .ok (.iastore, 1) := by decide +kernel
theorem dX7_readsPeople_68 : decode cX7_readsPeople 68 = .ok (.aload_n 0, 1) := by decide +kernel
theorem dX7_readsPeople_69 : decode cX7_readsPeople 69 = .ok (.dup, 1) := by decide +kernel
theorem dX7_readsPeople_70 : decode cX7_readsPeople 70 = .ok (.getfield 116, 3) := by decide +kernel
theorem dX7_readsPeople_73 : decode cX7_readsPeople 73 = .ok (.iload_n 3, 1) := by decide +kernel
theorem dX7_readsPeople_74 : decode cX7_readsPeople 74 = .ok (.iconst 1, 1) := by decide +kernel
theorem dX7_readsPeople_75 : decode cX7_readsPeople 75 = .ok (.if_icmp .ne 7, 3) := by decide +kernel
theorem dX7_readsPeople_78 : decode cX7_readsPeople 78 = .ok (.iconst 1, 1) := by decide +kernel
theorem dX7_readsPeople_79 : decode cX7_readsPeople 79 = .ok (.goto 4, 3) := by decide +kernel
theorem dX7_readsPeople_82 : decode cX7_readsPeople 82 = .ok (.iconst 0, 1) := by decide +kernel
theorem dX7_readsPeople_83 : decode cX7_readsPeople 83 = .ok (.iadd, 1) := by decide +kernel
theorem dX7_readsPeople_84 : decode cX7_readsPeople 84 = .ok (.putfield 116, 3) := by decide +kernel
theorem dX7_readsPeople_87 : decode cX7_readsPeople 87 = .ok (.iinc 2 1, 3) := by decide +kernel
theorem dX7_readsPeople_90 : decode cX7_readsPeople 90 = .ok (.goto (-76), 3) := by decide +kernel
theorem dX7_readsPeople_93 : decode cX7_readsPeople 93 = .ok (.iload_n 1, 1) := by decide +kernel
theorem dX7_readsPeople_94 : decode cX7_readsPeople 94 = .ok (.ifCond .le 17, 3) := by decide +kernel
theorem dX7_readsPeople_97 : decode cX7_readsPeople 97 = .ok (.iload_n 1, 1) := by decide +kernel
theorem dX7_readsPeople_98 : decode cX7_readsPeople 98 = .ok (.iconst 3, 1) := by decide +kernel
theorem dX7_readsPeople_99 : decode cX7_readsPeople 99 = .ok (.irem, 1) := by decide +kernel
theorem dX7_readsPeople_100 : decode cX7_readsPeople 100 = .ok (.iconst 2, 1) := by decide +kernel
theorem dX7_readsPeople_101 : decode cX7_readsPeople 101 = .ok (.if_icmp .eq 10, 3) := by decide +kernel
theorem dX7_readsPeople_104 : decode cX7_readsPeople 104 = .ok (.aload_n 0, 1) := by decide +kernel
theorem dX7_readsPeople_105 : decode cX7_readsPeople 105 = .ok (.iconst 0, 1) := by decide +kernel
theorem dX7_readsPeople_106 : decode cX7_readsPeople 106 = .ok (.putfield 116, 3) := by decide +kernel
theorem dX7_readsPeople_109 : decode cX7_readsPeople 109 = .ok (.iload_n 1, 1) := by decide +kernel
theorem dX7_readsPeople_110 : decode cX7_readsPeople 110 = .ok (.ireturn, 1) := by decide +kernel
theorem dX7_readsPeople_111 : decode cX7_readsPeople 111 = .ok (.iconst (-1), 1) := by decide +kernel
theorem dX7_readsPeople_112 : decode cX7_readsPeople 112 = .ok (.ireturn, 1) := by decide +kernel
theorem dX7_wordOf_0 : decode cX7_wordOf 0 = .ok (.iload_n 0, 1) := by decide +kernel
theorem dX7_wordOf_1 : decode cX7_wordOf 1 = .ok (.iconst 2, 1) := by decide +kernel
theorem dX7_wordOf_2 : decode cX7_wordOf 2 = .ok (.if_icmp .ge 13, 3) := by decide +kernel
theorem dX7_wordOf_5 : decode cX7_wordOf 5 = .ok (.iload_n 1, 1) := by decide +kernel
theorem dX7_wordOf_6 : decode cX7_wordOf 6 = .ok (.iconst 0, 1) := by decide +kernel
theorem dX7_wordOf_7 : decode cX7_wordOf 7 = .ok (.bipush 7, 2) := by decide +kernel
theorem dX7_wordOf_9 : decode cX7_wordOf 9 = .ok (.invokestatic 122, 3) := by decide +kernel
theorem dX7_wordOf_12 : decode cX7_wordOf 12 = .ok (.goto 30, 3) := by decide +kernel
theorem dX7_wordOf_15 : decode cX7_wordOf 15 = .ok (.iload_n 0, 1) := by decide +kernel
theorem dX7_wordOf_16 : decode cX7_wordOf 16 = .ok (.iconst 2, 1) := by decide +kernel
theorem dX7_wordOf_17 : decode cX7_wordOf 17 = .ok (.if_icmp .ne 13, 3) := by decide +kernel
theorem dX7_wordOf_20 : decode cX7_wordOf 20 = .ok (.iload_n 1, 1) := by decide +kernel
theorem dX7_wordOf_21 : decode cX7_wordOf 21 = .ok (.iconst 1, 1) := by decide +kernel
theorem dX7_wordOf_22 : decode cX7_wordOf 22 = .ok (.bipush 9, 2) := by decide +kernel
theorem dX7_wordOf_24 : decode cX7_wordOf 24 = .ok (.invokestatic 122, 3) := by decide +kernel
theorem dX7_wordOf_27 : decode cX7_wordOf 27 = .ok (.goto 15, 3) := by decide +kernel
theorem dX7_wordOf_30 : decode cX7_wordOf 30 = .ok (.iload_n 1, 1) := by decide +kernel
theorem dX7_wordOf_31 : decode cX7_wordOf 31 = .ok (.bipush 59, 2) := by decide +kernel
theorem dX7_wordOf_33 : decode cX7_wordOf 33 = .ok (.if_icmp .ne 7, 3) := by decide +kernel
theorem dX7_wordOf_36 : decode cX7_wordOf 36 = .ok (.iconst 0, 1) := by decide +kernel
theorem dX7_wordOf_37 : decode cX7_wordOf 37 = .ok (.goto 5, 3) := by decide +kernel
theorem dX7_wordOf_40 : decode cX7_wordOf 40 = .ok (.bipush (-9), 2) := by decide +kernel
theorem dX7_wordOf_42 : decode cX7_wordOf 42 = .ok (.ireturn, 1) := by decide +kernel
theorem dX7_readsWords_0 : decode cX7_readsWords 0 = .ok (.aload_n 0, 1) := by decide +kernel
theorem dX7_readsWords_1 : decode cX7_readsWords 1 = .ok (.iconst 0, 1) := by decide +kernel
theorem dX7_readsWords_2 : decode cX7_readsWords 2 = .ok (.putfield 125, 3) := by decide +kernel
theorem dX7_readsWords_5 : decode cX7_readsWords 5 = .ok (.aload_n 0, 1) := by decide +kernel
theorem dX7_readsWords_6 : decode cX7_readsWords 6 = .ok (.getfield 25, 3) := by decide +kernel
theorem dX7_readsWords_9 : decode cX7_readsWords 9 = .ok (.iconst 1, 1) := by decide +kernel
theorem dX7_readsWords_10 : decode cX7_readsWords 10 = .ok (.iaload, 1) := by decide +kernel
theorem dX7_readsWords_11 : decode cX7_readsWords 11 = .ok (.istore_n 1, 1) := by decide +kernel
theorem dX7_readsWords_12 : decode cX7_readsWords 12 = .ok (.iconst 0, 1) := by decide +kernel
theorem dX7_readsWords_13 : decode cX7_readsWords 13 = .ok (.istore_n 2, 1) := by decide +kernel
theorem dX7_readsWords_14 : decode cX7_readsWords 14 = .ok (.iload_n 2, 1) := by decide +kernel
theorem dX7_readsWords_15 : decode cX7_readsWords 15 = .ok (.iload_n 1, 1) := by decide +kernel
theorem dX7_readsWords_16 : decode cX7_readsWords 16 = .ok (.if_icmp .ge 80, 3) := by decide +kernel
theorem dX7_readsWords_19 : decode cX7_readsWords 19 = .ok (.iload_n 2, 1) := by decide +kernel
theorem dX7_readsWords_20 : decode cX7_readsWords 20 = .ok (.iconst 4, 1) := by decide +kernel
theorem dX7_readsWords_21 : decode cX7_readsWords 21 = .ok (.irem, 1) := by decide +kernel
theorem dX7_readsWords_22 : decode cX7_readsWords 22 = .ok (.istore_n 3, 1) := by decide +kernel
theorem dX7_readsWords_23 : decode cX7_readsWords 23 = .ok (.iload_n 3, 1) := by decide +kernel
theorem dX7_readsWords_24 : decode cX7_readsWords 24 = .ok (.aload_n 0, 1) := by decide +kernel
theorem dX7_readsWords_25 : decode cX7_readsWords 25 = .ok (.getfield 22, 3) := by decide +kernel
theorem dX7_readsWords_28 : decode cX7_readsWords 28 = .ok (.bipush 48, 2) := by decide +kernel
theorem dX7_readsWords_30 : decode cX7_readsWords 30 = .ok (.iload_n 2, 1) := by decide +kernel
theorem dX7_readsWords_31 : decode cX7_readsWords 31 = .ok (.iadd, 1) := by decide +kernel
theorem dX7_readsWords_32 : decode cX7_readsWords 32 = .ok (.iaload, 1) := by decide +kernel
theorem dX7_readsWords_33 : decode cX7_readsWords 33 = .ok (.invokestatic 128, 3) := by decide +kernel
theorem dX7_readsWords_36 : decode cX7_readsWords 36 = .ok (.istore 4, 2) := by decide +kernel
theorem dX7_readsWords_38 : decode cX7_readsWords 38 = .ok (.iload 4, 2) := by decide +kernel
theorem dX7_readsWords_40 : decode cX7_readsWords 40 = .ok (.bipush (-9), 2) := by decide +kernel
theorem dX7_readsWords_42 : decode cX7_readsWords 42 = .ok (.if_icmp .ne 10, 3) := by decide +kernel
theorem dX7_readsWords_45 : decode cX7_readsWords 45 = .ok (.aload_n 0, 1) := by decide +kernel
theorem dX7_readsWords_46 : decode cX7_readsWords 46 = .ok (.iconst 0, 1) := by decide +kernel
theorem dX7_readsWords_47 : decode cX7_readsWords 47 = .ok (.putfield 125, 3) := by decide +kernel
theorem dX7_readsWords_50 : decode cX7_readsWords 50 = .ok (.iload_n 2, 1) := by decide +kernel
theorem dX7_readsWords_51 : decode cX7_readsWords 51 = .ok (.ireturn, 1) := by decide +kernel
theorem dX7_readsWords_52 : decode cX7_readsWords 52 = .ok (.iload_n 3, 1) := by decide +kernel
theorem dX7_readsWords_53 : decode cX7_readsWords 53 = .ok (.iconst 3, 1) := by decide +kernel
theorem dX7_readsWords_54 : decode cX7_readsWords 54 = .ok (.if_icmp .ge 17, 3) := by decide +kernel
theorem dX7_readsWords_57 : decode cX7_readsWords 57 = .ok (.aload_n 0, 1) := by decide +kernel
theorem dX7_readsWords_58 : decode cX7_readsWords 58 = .ok (.getfield 31, 3) := by decide +kernel
theorem dX7_readsWords_61 : decode cX7_readsWords 61 = .ok (.iconst 3, 1) := by decide +kernel
theorem dX7_readsWords_62 : decode cX7_readsWords 62 = .ok (.iload_n 2, 1) := by decide +kernel
theorem dX7_readsWords_63 : decode cX7_readsWords 63 = .ok (.iconst 4, 1) := by decide +kernel
theorem dX7_readsWords_64 : decode cX7_readsWords 64 = .ok (.idiv, 1) := by decide +kernel
theorem dX7_readsWords_65 : decode cX7_readsWords 65 = .ok (.imul, 1) := by decide +kernel
theorem dX7_readsWords_66 : decode cX7_readsWords 66 = .ok (.iload_n 3, 1) := by decide +kernel
theorem dX7_readsWords_67 : decode cX7_readsWords 67 = .ok (.iadd, 1) := by decide +kernel
theorem dX7_readsWords_68 : decode cX7_readsWords 68 = .ok (.iload 4, 2) := by decide +kernel
theorem dX7_readsWords_70 : decode cX7_readsWords 70 = .ok (.iastore, 1) := by decide +kernel
theorem dX7_readsWords_71 : decode cX7_readsWords 71 = .ok (.aload_n 0, 1) := by decide +kernel
theorem dX7_readsWords_72 : decode cX7_readsWords 72 = .ok (.dup, 1) := by decide +kernel
theorem dX7_readsWords_73 : decode cX7_readsWords 73 = .ok (.getfield 125, 3) := by decide +kernel
theorem dX7_readsWords_76 : decode cX7_readsWords 76 = .ok (.iload_n 3, 1) := by decide +kernel
theorem dX7_readsWords_77 : decode cX7_readsWords 77 = .ok (.iconst 2, 1) := by decide +kernel
theorem dX7_readsWords_78 : decode cX7_readsWords 78 = .ok (.if_icmp .ne 7, 3) := by decide +kernel
theorem dX7_readsWords_81 : decode cX7_readsWords 81 = .ok (.iconst 1, 1) := by decide +kernel
theorem dX7_readsWords_82 : decode cX7_readsWords 82 = .ok (.goto 4, 3) := by decide +kernel
theorem dX7_readsWords_85 : decode cX7_readsWords 85 = .ok (.iconst 0, 1) := by decide +kernel
theorem dX7_readsWords_86 : decode cX7_readsWords 86 = .ok (.iadd, 1) := by decide +kernel
theorem dX7_readsWords_87 : decode cX7_readsWords 87 = .ok (.putfield 125, 3) := by decide +kernel
theorem dX7_readsWords_90 : decode cX7_readsWords 90 = .ok (.iinc 2 1, 3) := by decide +kernel
theorem dX7_readsWords_93 : decode cX7_readsWords 93 = .ok (.goto (-79), 3) := by decide +kernel
theorem dX7_readsWords_96 : decode cX7_readsWords 96 = .ok (.iload_n 1, 1) := by decide +kernel
theorem dX7_readsWords_97 : decode cX7_readsWords 97 = .ok (.ifCond .le 17, 3) := by decide +kernel
theorem dX7_readsWords_100 : decode cX7_readsWords 100 = .ok (.iload_n 1, 1) := by decide +kernel
theorem dX7_readsWords_101 : decode cX7_readsWords 101 = .ok (.iconst 4, 1) := by decide +kernel
theorem dX7_readsWords_102 : decode cX7_readsWords 102 = .ok (.irem, 1) := by decide +kernel
theorem dX7_readsWords_103 : decode cX7_readsWords 103 = .ok (.iconst 3, 1) := by decide +kernel
theorem dX7_readsWords_104 : decode cX7_readsWords 104 = .ok (.if_icmp .eq 10, 3) := by decide +kernel
theorem dX7_readsWords_107 : decode cX7_readsWords 107 = .ok (.aload_n 0, 1) := by decide +kernel
theorem dX7_readsWords_108 : decode cX7_readsWords 108 = .ok (.iconst 0, 1) := by decide +kernel
theorem dX7_readsWords_109 : decode cX7_readsWords 109 = .ok (.putfield 125, 3) := by decide +kernel
theorem dX7_readsWords_112 : decode cX7_readsWords 112 = .ok (.iload_n 1, 1) := by decide +kernel
theorem dX7_readsWords_113 : decode cX7_readsWords 113 = .ok (.ireturn, 1) := by decide +kernel
theorem dX7_readsWords_114 : decode cX7_readsWords 114 = .ok (.iconst (-1), 1) := by decide +kernel
theorem dX7_readsWords_115 : decode cX7_readsWords 115 = .ok (.ireturn, 1) := by decide +kernel
theorem dX7_meetingOf_0 : decode cX7_meetingOf 0 = .ok (.iload_n 0, 1) := by decide +kernel
theorem dX7_meetingOf_1 : decode cX7_meetingOf 1 = .ok (.ifCond .ne 10, 3) := by decide +kernel
theorem dX7_meetingOf_4 : decode cX7_meetingOf 4 = .ok (.iload_n 1, 1) := by decide +kernel
theorem dX7_meetingOf_5 : decode cX7_meetingOf 5 = .ok (.invokestatic 113, 3) := by decide +kernel
theorem dX7_meetingOf_8 : decode cX7_meetingOf 8 = .ok (.goto 30, 3) := by decide +kernel
theorem dX7_meetingOf_11 : decode cX7_meetingOf 11 = .ok (.iload_n 0, 1) := by decide +kernel
theorem dX7_meetingOf_12 : decode cX7_meetingOf 12 = .ok (.iconst 3, 1) := by decide +kernel
theorem dX7_meetingOf_13 : decode cX7_meetingOf 13 = .ok (.if_icmp .ge 13, 3) := by decide +kernel
theorem dX7_meetingOf_16 : decode cX7_meetingOf 16 = .ok (.iload_n 1, 1) := by decide +kernel
theorem dX7_meetingOf_17 : decode cX7_meetingOf 17 = .ok (.iconst 0, 1) := by decide +kernel
theorem dX7_meetingOf_18 : decode cX7_meetingOf 18 = .ok (.bipush 7, 2) := by decide +kernel
theorem dX7_meetingOf_20 : decode cX7_meetingOf 20 = .ok (.invokestatic 122, 3) := by decide +kernel
theorem dX7_meetingOf_23 : decode cX7_meetingOf 23 = .ok (.goto 15, 3) := by decide +kernel
theorem dX7_meetingOf_26 : decode cX7_meetingOf 26 = .ok (.iload_n 1, 1) := by decide +kernel
theorem dX7_meetingOf_27 : decode cX7_meetingOf 27 = .ok (.bipush 59, 2) := by decide +kernel
theorem dX7_meetingOf_29 : decode cX7_meetingOf 29 = .ok (.if_icmp .ne 7, 3) := by decide +kernel
theorem dX7_meetingOf_32 : decode cX7_meetingOf 32 = .ok (.iconst 0, 1) := by decide +kernel
theorem dX7_meetingOf_33 : decode cX7_meetingOf 33 = .ok (.goto 5, 3) := by decide +kernel
theorem dX7_meetingOf_36 : decode cX7_meetingOf 36 = .ok (.bipush (-9), 2) := by decide +kernel
theorem dX7_meetingOf_38 : decode cX7_meetingOf 38 = .ok (.ireturn, 1) := by decide +kernel
theorem dX7_readsMeetings_0 : decode cX7_readsMeetings 0 = .ok (.aload_n 0, 1) := by decide +kernel
theorem dX7_readsMeetings_1 : decode cX7_readsMeetings 1 = .ok (.iconst 0, 1) := by decide +kernel
theorem dX7_readsMeetings_2 : decode cX7_readsMeetings 2 = .ok (.putfield 131, 3) := by decide +kernel
theorem dX7_readsMeetings_5 : decode cX7_readsMeetings 5 = .ok (.aload_n 0, 1) := by decide +kernel
theorem dX7_readsMeetings_6 : decode cX7_readsMeetings 6 = .ok (.getfield 25, 3) := by decide +kernel
theorem dX7_readsMeetings_9 : decode cX7_readsMeetings 9 = .ok (.iconst 2, 1) := by decide +kernel
theorem dX7_readsMeetings_10 : decode cX7_readsMeetings 10 = .ok (.iaload, 1) := by decide +kernel
theorem dX7_readsMeetings_11 : decode cX7_readsMeetings 11 = .ok (.istore_n 1, 1) := by decide +kernel
theorem dX7_readsMeetings_12 : decode cX7_readsMeetings 12 = .ok (.iconst 0, 1) := by decide +kernel
theorem dX7_readsMeetings_13 : decode cX7_readsMeetings 13 = .ok (.istore_n 2, 1) := by decide +kernel
theorem dX7_readsMeetings_14 : decode cX7_readsMeetings 14 = .ok (.iload_n 2, 1) := by decide +kernel
theorem dX7_readsMeetings_15 : decode cX7_readsMeetings 15 = .ok (.iload_n 1, 1) := by decide +kernel
theorem dX7_readsMeetings_16 : decode cX7_readsMeetings 16 = .ok (.if_icmp .ge 80, 3) := by decide +kernel
theorem dX7_readsMeetings_19 : decode cX7_readsMeetings 19 = .ok (.iload_n 2, 1) := by decide +kernel
theorem dX7_readsMeetings_20 : decode cX7_readsMeetings 20 = .ok (.iconst 4, 1) := by decide +kernel
theorem dX7_readsMeetings_21 : decode cX7_readsMeetings 21 = .ok (.irem, 1) := by decide +kernel
theorem dX7_readsMeetings_22 : decode cX7_readsMeetings 22 = .ok (.istore_n 3, 1) := by decide +kernel
theorem dX7_readsMeetings_23 : decode cX7_readsMeetings 23 = .ok (.iload_n 3, 1) := by decide +kernel
theorem dX7_readsMeetings_24 : decode cX7_readsMeetings 24 = .ok (.aload_n 0, 1) := by decide +kernel
theorem dX7_readsMeetings_25 : decode cX7_readsMeetings 25 = .ok (.getfield 22, 3) := by decide +kernel
theorem dX7_readsMeetings_28 : decode cX7_readsMeetings 28 = .ok (.bipush 96, 2) := by decide +kernel
theorem dX7_readsMeetings_30 : decode cX7_readsMeetings 30 = .ok (.iload_n 2, 1) := by decide +kernel
theorem dX7_readsMeetings_31 : decode cX7_readsMeetings 31 = .ok (.iadd, 1) := by decide +kernel
theorem dX7_readsMeetings_32 : decode cX7_readsMeetings 32 = .ok (.iaload, 1) := by decide +kernel
theorem dX7_readsMeetings_33 : decode cX7_readsMeetings 33 = .ok (.invokestatic 134, 3) := by decide +kernel
theorem dX7_readsMeetings_36 : decode cX7_readsMeetings 36 = .ok (.istore 4, 2) := by decide +kernel
theorem dX7_readsMeetings_38 : decode cX7_readsMeetings 38 = .ok (.iload 4, 2) := by decide +kernel
theorem dX7_readsMeetings_40 : decode cX7_readsMeetings 40 = .ok (.bipush (-9), 2) := by decide +kernel
theorem dX7_readsMeetings_42 : decode cX7_readsMeetings 42 = .ok (.if_icmp .ne 10, 3) := by decide +kernel
theorem dX7_readsMeetings_45 : decode cX7_readsMeetings 45 = .ok (.aload_n 0, 1) := by decide +kernel
theorem dX7_readsMeetings_46 : decode cX7_readsMeetings 46 = .ok (.iconst 0, 1) := by decide +kernel
theorem dX7_readsMeetings_47 : decode cX7_readsMeetings 47 = .ok (.putfield 131, 3) := by decide +kernel
theorem dX7_readsMeetings_50 : decode cX7_readsMeetings 50 = .ok (.iload_n 2, 1) := by decide +kernel
theorem dX7_readsMeetings_51 : decode cX7_readsMeetings 51 = .ok (.ireturn, 1) := by decide +kernel
theorem dX7_readsMeetings_52 : decode cX7_readsMeetings 52 = .ok (.iload_n 3, 1) := by decide +kernel
theorem dX7_readsMeetings_53 : decode cX7_readsMeetings 53 = .ok (.iconst 3, 1) := by decide +kernel
theorem dX7_readsMeetings_54 : decode cX7_readsMeetings 54 = .ok (.if_icmp .ge 17, 3) := by decide +kernel
theorem dX7_readsMeetings_57 : decode cX7_readsMeetings 57 = .ok (.aload_n 0, 1) := by decide +kernel
theorem dX7_readsMeetings_58 : decode cX7_readsMeetings 58 = .ok (.getfield 34, 3) := by decide +kernel
theorem dX7_readsMeetings_61 : decode cX7_readsMeetings 61 = .ok (.iconst 3, 1) := by decide +kernel
theorem dX7_readsMeetings_62 : decode cX7_readsMeetings 62 = .ok (.iload_n 2, 1) := by decide +kernel
theorem dX7_readsMeetings_63 : decode cX7_readsMeetings 63 = .ok (.iconst 4, 1) := by decide +kernel
theorem dX7_readsMeetings_64 : decode cX7_readsMeetings 64 = .ok (.idiv, 1) := by decide +kernel
theorem dX7_readsMeetings_65 : decode cX7_readsMeetings 65 = .ok (.imul, 1) := by decide +kernel
theorem dX7_readsMeetings_66 : decode cX7_readsMeetings 66 = .ok (.iload_n 3, 1) := by decide +kernel
theorem dX7_readsMeetings_67 : decode cX7_readsMeetings 67 = .ok (.iadd, 1) := by decide +kernel
theorem dX7_readsMeetings_68 : decode cX7_readsMeetings 68 = .ok (.iload 4, 2) := by decide +kernel
theorem dX7_readsMeetings_70 : decode cX7_readsMeetings 70 = .ok (.iastore, 1) := by decide +kernel
theorem dX7_readsMeetings_71 : decode cX7_readsMeetings 71 = .ok (.aload_n 0, 1) := by decide +kernel
theorem dX7_readsMeetings_72 : decode cX7_readsMeetings 72 = .ok (.dup, 1) := by decide +kernel
theorem dX7_readsMeetings_73 : decode cX7_readsMeetings 73 = .ok (.getfield 131, 3) := by decide +kernel
theorem dX7_readsMeetings_76 : decode cX7_readsMeetings 76 = .ok (.iload_n 3, 1) := by decide +kernel
theorem dX7_readsMeetings_77 : decode cX7_readsMeetings 77 = .ok (.iconst 2, 1) := by decide +kernel
theorem dX7_readsMeetings_78 : decode cX7_readsMeetings 78 = .ok (.if_icmp .ne 7, 3) := by decide +kernel
theorem dX7_readsMeetings_81 : decode cX7_readsMeetings 81 = .ok (.iconst 1, 1) := by decide +kernel
theorem dX7_readsMeetings_82 : decode cX7_readsMeetings 82 = .ok (.goto 4, 3) := by decide +kernel
theorem dX7_readsMeetings_85 : decode cX7_readsMeetings 85 = .ok (.iconst 0, 1) := by decide +kernel
theorem dX7_readsMeetings_86 : decode cX7_readsMeetings 86 = .ok (.iadd, 1) := by decide +kernel
theorem dX7_readsMeetings_87 : decode cX7_readsMeetings 87 = .ok (.putfield 131, 3) := by decide +kernel
theorem dX7_readsMeetings_90 : decode cX7_readsMeetings 90 = .ok (.iinc 2 1, 3) := by decide +kernel
theorem dX7_readsMeetings_93 : decode cX7_readsMeetings 93 = .ok (.goto (-79), 3) := by decide +kernel
theorem dX7_readsMeetings_96 : decode cX7_readsMeetings 96 = .ok (.iload_n 1, 1) := by decide +kernel
theorem dX7_readsMeetings_97 : decode cX7_readsMeetings 97 = .ok (.ifCond .le 17, 3) := by decide +kernel
theorem dX7_readsMeetings_100 : decode cX7_readsMeetings 100 = .ok (.iload_n 1, 1) := by decide +kernel
theorem dX7_readsMeetings_101 : decode cX7_readsMeetings 101 = .ok (.iconst 4, 1) := by decide +kernel
theorem dX7_readsMeetings_102 : decode cX7_readsMeetings 102 = .ok (.irem, 1) := by decide +kernel
theorem dX7_readsMeetings_103 : decode cX7_readsMeetings 103 = .ok (.iconst 3, 1) := by decide +kernel
theorem dX7_readsMeetings_104 : decode cX7_readsMeetings 104 = .ok (.if_icmp .eq 10, 3) := by decide +kernel
theorem dX7_readsMeetings_107 : decode cX7_readsMeetings 107 = .ok (.aload_n 0, 1) := by decide +kernel
theorem dX7_readsMeetings_108 : decode cX7_readsMeetings 108 = .ok (.iconst 0, 1) := by decide +kernel
theorem dX7_readsMeetings_109 : decode cX7_readsMeetings 109 = .ok (.putfield 131, 3) := by decide +kernel
theorem dX7_readsMeetings_112 : decode cX7_readsMeetings 112 = .ok (.iload_n 1, 1) := by decide +kernel
theorem dX7_readsMeetings_113 : decode cX7_readsMeetings 113 = .ok (.ireturn, 1) := by decide +kernel
theorem dX7_readsMeetings_114 : decode cX7_readsMeetings 114 = .ok (.iconst (-1), 1) := by decide +kernel
theorem dX7_readsMeetings_115 : decode cX7_readsMeetings 115 = .ok (.ireturn, 1) := by decide +kernel
theorem dX7_readsText_0 : decode cX7_readsText 0 = .ok (.iload_n 1, 1) := by decide +kernel
theorem dX7_readsText_1 : decode cX7_readsText 1 = .ok (.ifCond .ne 10, 3) := by decide +kernel
theorem dX7_readsText_4 : decode cX7_readsText 4 = .ok (.aload_n 0, 1) := by decide +kernel
theorem dX7_readsText_5 : decode cX7_readsText 5 = .ok (.invokevirtual 137, 3) := by decide +kernel
theorem dX7_readsText_8 : decode cX7_readsText 8 = .ok (.goto 19, 3) := by decide +kernel
theorem dX7_readsText_11 : decode cX7_readsText 11 = .ok (.iload_n 1, 1) := by decide +kernel
theorem dX7_readsText_12 : decode cX7_readsText 12 = .ok (.iconst 1, 1) := by decide +kernel
theorem dX7_readsText_13 : decode cX7_readsText 13 = .ok (.if_icmp .ne 10, 3) := by decide +kernel
theorem dX7_readsText_16 : decode cX7_readsText 16 = .ok (.aload_n 0, 1) := by decide +kernel
theorem dX7_readsText_17 : decode cX7_readsText 17 = .ok (.invokevirtual 141, 3) := by decide +kernel
theorem dX7_readsText_20 : decode cX7_readsText 20 = .ok (.goto 7, 3) := by decide +kernel
theorem dX7_readsText_23 : decode cX7_readsText 23 = .ok (.aload_n 0, 1) := by decide +kernel
theorem dX7_readsText_24 : decode cX7_readsText 24 = .ok (.invokevirtual 144, 3) := by decide +kernel
theorem dX7_readsText_27 : decode cX7_readsText 27 = .ok (.ireturn, 1) := by decide +kernel
theorem dX7_fault_0 : decode cX7_fault 0 = .ok (.iload_n 1, 1) := by decide +kernel
theorem dX7_fault_1 : decode cX7_fault 1 = .ok (.invokestatic 104, 3) := by decide +kernel
theorem dX7_fault_4 : decode cX7_fault 4 = .ok (.ifCond .eq 11, 3) := by decide +kernel
theorem dX7_fault_7 : decode cX7_fault 7 = .ok (.aload_n 0, 1) := by decide +kernel
theorem dX7_fault_8 : decode cX7_fault 8 = .ok (.iload_n 1, 1) := by decide +kernel
theorem dX7_fault_9 : decode cX7_fault 9 = .ok (.invokevirtual 147, 3) := by decide +kernel
theorem dX7_fault_12 : decode cX7_fault 12 = .ok (.goto 5, 3) := by decide +kernel
theorem dX7_fault_15 : decode cX7_fault 15 = .ok (.bipush (-2), 2) := by decide +kernel
theorem dX7_fault_17 : decode cX7_fault 17 = .ok (.ireturn, 1) := by decide +kernel
theorem dX7_isPerson_0 : decode cX7_isPerson 0 = .ok (.iload_n 1, 1) := by decide +kernel
theorem dX7_isPerson_1 : decode cX7_isPerson 1 = .ok (.i2l, 1) := by decide +kernel
theorem dX7_isPerson_2 : decode cX7_isPerson 2 = .ok (.lconst 0, 1) := by decide +kernel
theorem dX7_isPerson_3 : decode cX7_isPerson 3 = .ok (.aload_n 0, 1) := by decide +kernel
theorem dX7_isPerson_4 : decode cX7_isPerson 4 = .ok (.getfield 116, 3) := by decide +kernel
theorem dX7_isPerson_7 : decode cX7_isPerson 7 = .ok (.iconst 1, 1) := by decide +kernel
theorem dX7_isPerson_8 : decode cX7_isPerson 8 = .ok (.isub, 1) := by decide +kernel
theorem dX7_isPerson_9 : decode cX7_isPerson 9 = .ok (.i2l, 1) := by decide +kernel
theorem dX7_isPerson_10 : decode cX7_isPerson 10 = .ok (.invokestatic 76, 3) := by decide +kernel
theorem dX7_isPerson_13 : decode cX7_isPerson 13 = .ok (.ireturn, 1) := by decide +kernel
theorem dX7_isWord_0 : decode cX7_isWord 0 = .ok (.iload_n 1, 1) := by decide +kernel
theorem dX7_isWord_1 : decode cX7_isWord 1 = .ok (.i2l, 1) := by decide +kernel
theorem dX7_isWord_2 : decode cX7_isWord 2 = .ok (.lconst 0, 1) := by decide +kernel
theorem dX7_isWord_3 : decode cX7_isWord 3 = .ok (.aload_n 0, 1) := by decide +kernel
theorem dX7_isWord_4 : decode cX7_isWord 4 = .ok (.getfield 125, 3) := by decide +kernel
theorem dX7_isWord_7 : decode cX7_isWord 7 = .ok (.iconst 1, 1) := by decide +kernel
theorem dX7_isWord_8 : decode cX7_isWord 8 = .ok (.isub, 1) := by decide +kernel
theorem dX7_isWord_9 : decode cX7_isWord 9 = .ok (.i2l, 1) := by decide +kernel
theorem dX7_isWord_10 : decode cX7_isWord 10 = .ok (.invokestatic 76, 3) := by decide +kernel
theorem dX7_isWord_13 : decode cX7_isWord 13 = .ok (.ireturn, 1) := by decide +kernel
theorem dX7_isDay_0 : decode cX7_isDay 0 = .ok (.iload_n 0, 1) := by decide +kernel
theorem dX7_isDay_1 : decode cX7_isDay 1 = .ok (.i2l, 1) := by decide +kernel
theorem dX7_isDay_2 : decode cX7_isDay 2 = .ok (.lconst 0, 1) := by decide +kernel
theorem dX7_isDay_3 : decode cX7_isDay 3 = .ok (.ldc2_w 150, 3) := by decide +kernel
theorem dX7_isDay_6 : decode cX7_isDay 6 = .ok (.invokestatic 76, 3) := by decide +kernel
theorem dX7_isDay_9 : decode cX7_isDay 9 = .ok (.ireturn, 1) := by decide +kernel
theorem dX7_person_0 : decode cX7_person 0 = .ok (.aload_n 0, 1) := by decide +kernel
theorem dX7_person_1 : decode cX7_person 1 = .ok (.invokevirtual 137, 3) := by decide +kernel
theorem dX7_person_4 : decode cX7_person 4 = .ok (.pop, 1) := by decide +kernel
theorem dX7_person_5 : decode cX7_person 5 = .ok (.aload_n 0, 1) := by decide +kernel
theorem dX7_person_6 : decode cX7_person 6 = .ok (.iload_n 1, 1) := by decide +kernel
theorem dX7_person_7 : decode cX7_person 7 = .ok (.invokevirtual 152, 3) := by decide +kernel
theorem dX7_person_10 : decode cX7_person 10 = .ok (.ifCond .eq 23, 3) := by decide +kernel
theorem dX7_person_13 : decode cX7_person 13 = .ok (.iload_n 2, 1) := by decide +kernel
theorem dX7_person_14 : decode cX7_person 14 = .ok (.invokestatic 155, 3) := by decide +kernel
theorem dX7_person_17 : decode cX7_person 17 = .ok (.ifCond .eq 16, 3) := by decide +kernel
theorem dX7_person_20 : decode cX7_person 20 = .ok (.aload_n 0, 1) := by decide +kernel
theorem dX7_person_21 : decode cX7_person 21 = .ok (.getfield 28, 3) := by decide +kernel
theorem dX7_person_24 : decode cX7_person 24 = .ok (.iconst 2, 1) := by decide +kernel
theorem dX7_person_25 : decode cX7_person 25 = .ok (.iload_n 1, 1) := by decide +kernel
theorem dX7_person_26 : decode cX7_person 26 = .ok (.imul, 1) := by decide +kernel
theorem dX7_person_27 : decode cX7_person 27 = .ok (.iload_n 2, 1) := by decide +kernel
theorem dX7_person_28 : decode cX7_person 28 = .ok (.iadd, 1) := by decide +kernel
theorem dX7_person_29 : decode cX7_person 29 = .ok (.iaload, 1) := by decide +kernel
theorem dX7_person_30 : decode cX7_person 30 = .ok (.goto 5, 3) := by decide +kernel
theorem dX7_person_33 : decode cX7_person 33 = .ok (.bipush (-2), 2) := by decide +kernel
theorem dX7_person_35 : decode cX7_person 35 = .ok (.ireturn, 1) := by decide +kernel
theorem dX7_word_0 : decode cX7_word 0 = .ok (.aload_n 0, 1) := by decide +kernel
theorem dX7_word_1 : decode cX7_word 1 = .ok (.invokevirtual 141, 3) := by decide +kernel
theorem dX7_word_4 : decode cX7_word 4 = .ok (.pop, 1) := by decide +kernel
theorem dX7_word_5 : decode cX7_word 5 = .ok (.aload_n 0, 1) := by decide +kernel
theorem dX7_word_6 : decode cX7_word 6 = .ok (.iload_n 1, 1) := by decide +kernel
theorem dX7_word_7 : decode cX7_word 7 = .ok (.invokevirtual 158, 3) := by decide +kernel
theorem dX7_word_10 : decode cX7_word 10 = .ok (.ifCond .eq 28, 3) := by decide +kernel
theorem dX7_word_13 : decode cX7_word 13 = .ok (.iload_n 2, 1) := by decide +kernel
theorem dX7_word_14 : decode cX7_word 14 = .ok (.i2l, 1) := by decide +kernel
theorem dX7_word_15 : decode cX7_word 15 = .ok (.lconst 0, 1) := by decide +kernel
theorem dX7_word_16 : decode cX7_word 16 = .ok (.ldc2_w 89, 3) := by decide +kernel
theorem dX7_word_19 : decode cX7_word 19 = .ok (.invokestatic 76, 3) := by decide +kernel
theorem dX7_word_22 : decode cX7_word 22 = .ok (.ifCond .eq 16, 3) := by decide +kernel
theorem dX7_word_25 : decode cX7_word 25 = .ok (.aload_n 0, 1) := by decide +kernel
theorem dX7_word_26 : decode cX7_word 26 = .ok (.getfield 31, 3) := by decide +kernel
theorem dX7_word_29 : decode cX7_word 29 = .ok (.iconst 3, 1) := by decide +kernel
theorem dX7_word_30 : decode cX7_word 30 = .ok (.iload_n 1, 1) := by decide +kernel
theorem dX7_word_31 : decode cX7_word 31 = .ok (.imul, 1) := by decide +kernel
theorem dX7_word_32 : decode cX7_word 32 = .ok (.iload_n 2, 1) := by decide +kernel
theorem dX7_word_33 : decode cX7_word 33 = .ok (.iadd, 1) := by decide +kernel
theorem dX7_word_34 : decode cX7_word 34 = .ok (.iaload, 1) := by decide +kernel
theorem dX7_word_35 : decode cX7_word 35 = .ok (.goto 5, 3) := by decide +kernel
theorem dX7_word_38 : decode cX7_word 38 = .ok (.bipush (-2), 2) := by decide +kernel
theorem dX7_word_40 : decode cX7_word 40 = .ok (.ireturn, 1) := by decide +kernel
theorem dX7_meetingBy_0 : decode cX7_meetingBy 0 = .ok (.iload_n 1, 1) := by decide +kernel
theorem dX7_meetingBy_1 : decode cX7_meetingBy 1 = .ok (.aload_n 0, 1) := by decide +kernel
theorem dX7_meetingBy_2 : decode cX7_meetingBy 2 = .ok (.getfield 131, 3) := by decide +kernel
theorem dX7_meetingBy_5 : decode cX7_meetingBy 5 = .ok (.if_icmp .ge 16, 3) := by decide +kernel
theorem dX7_meetingBy_8 : decode cX7_meetingBy 8 = .ok (.aload_n 0, 1) := by decide +kernel
theorem dX7_meetingBy_9 : decode cX7_meetingBy 9 = .ok (.getfield 34, 3) := by decide +kernel
theorem dX7_meetingBy_12 : decode cX7_meetingBy 12 = .ok (.iconst 3, 1) := by decide +kernel
theorem dX7_meetingBy_13 : decode cX7_meetingBy 13 = .ok (.iload_n 1, 1) := by decide +kernel
theorem dX7_meetingBy_14 : decode cX7_meetingBy 14 = .ok (.imul, 1) := by decide +kernel
theorem dX7_meetingBy_15 : decode cX7_meetingBy 15 = .ok (.iload_n 2, 1) := by decide +kernel
theorem dX7_meetingBy_16 : decode cX7_meetingBy 16 = .ok (.iadd, 1) := by decide +kernel
theorem dX7_meetingBy_17 : decode cX7_meetingBy 17 = .ok (.iaload, 1) := by decide +kernel
theorem dX7_meetingBy_18 : decode cX7_meetingBy 18 = .ok (.goto 4, 3) := by decide +kernel
theorem dX7_meetingBy_21 : decode cX7_meetingBy 21 = .ok (.iconst (-1), 1) := by decide +kernel
theorem dX7_meetingBy_22 : decode cX7_meetingBy 22 = .ok (.ireturn, 1) := by decide +kernel
theorem dX7_meeting_0 : decode cX7_meeting 0 = .ok (.aload_n 0, 1) := by decide +kernel
theorem dX7_meeting_1 : decode cX7_meeting 1 = .ok (.invokevirtual 144, 3) := by decide +kernel
theorem dX7_meeting_4 : decode cX7_meeting 4 = .ok (.pop, 1) := by decide +kernel
theorem dX7_meeting_5 : decode cX7_meeting 5 = .ok (.iload_n 1, 1) := by decide +kernel
theorem dX7_meeting_6 : decode cX7_meeting 6 = .ok (.i2l, 1) := by decide +kernel
theorem dX7_meeting_7 : decode cX7_meeting 7 = .ok (.lconst 0, 1) := by decide +kernel
theorem dX7_meeting_8 : decode cX7_meeting 8 = .ok (.ldc2_w 161, 3) := by decide +kernel
theorem dX7_meeting_11 : decode cX7_meeting 11 = .ok (.invokestatic 76, 3) := by decide +kernel
theorem dX7_meeting_14 : decode cX7_meeting 14 = .ok (.ifCond .eq 24, 3) := by decide +kernel
theorem dX7_meeting_17 : decode cX7_meeting 17 = .ok (.iload_n 2, 1) := by decide +kernel
theorem dX7_meeting_18 : decode cX7_meeting 18 = .ok (.i2l, 1) := by decide +kernel
theorem dX7_meeting_19 : decode cX7_meeting 19 = .ok (.lconst 0, 1) := by decide +kernel
theorem dX7_meeting_20 : decode cX7_meeting 20 = .ok (.ldc2_w 89, 3) := by decide +kernel
theorem dX7_meeting_23 : decode cX7_meeting 23 = .ok (.invokestatic 76, 3) := by decide +kernel
theorem dX7_meeting_26 : decode cX7_meeting 26 = .ok (.ifCond .eq 12, 3) := by decide +kernel
theorem dX7_meeting_29 : decode cX7_meeting 29 = .ok (.aload_n 0, 1) := by decide +kernel
theorem dX7_meeting_30 : decode cX7_meeting 30 = .ok (.iload_n 1, 1) := by decide +kernel
theorem dX7_meeting_31 : decode cX7_meeting 31 = .ok (.iload_n 2, 1) := by decide +kernel
theorem dX7_meeting_32 : decode cX7_meeting 32 = .ok (.invokevirtual 163, 3) := by decide +kernel
theorem dX7_meeting_35 : decode cX7_meeting 35 = .ok (.goto 5, 3) := by decide +kernel
theorem dX7_meeting_38 : decode cX7_meeting 38 = .ok (.bipush (-2), 2) := by decide +kernel
theorem dX7_meeting_40 : decode cX7_meeting 40 = .ok (.ireturn, 1) := by decide +kernel
theorem dX7_echo_0 : decode cX7_echo 0 = .ok (.iload_n 1, 1) := by decide +kernel
theorem dX7_echo_1 : decode cX7_echo 1 = .ok (.invokestatic 166, 3) := by decide +kernel
theorem dX7_echo_4 : decode cX7_echo 4 = .ok (.ifCond .eq 15, 3) := by decide +kernel
theorem dX7_echo_7 : decode cX7_echo 7 = .ok (.iload_n 2, 1) := by decide +kernel
theorem dX7_echo_8 : decode cX7_echo 8 = .ok (.i2l, 1) := by decide +kernel
theorem dX7_echo_9 : decode cX7_echo 9 = .ok (.lconst 0, 1) := by decide +kernel
theorem dX7_echo_10 : decode cX7_echo 10 = .ok (.ldc2_w 169, 3) := by decide +kernel
theorem dX7_echo_13 : decode cX7_echo 13 = .ok (.invokestatic 76, 3) := by decide +kernel
theorem dX7_echo_16 : decode cX7_echo 16 = .ok (.ifCond .ne 6, 3) := by decide +kernel
theorem dX7_echo_19 : decode cX7_echo 19 = .ok (.bipush (-2), 2) := by decide +kernel
theorem dX7_echo_21 : decode cX7_echo 21 = .ok (.ireturn, 1) := by decide +kernel
theorem dX7_echo_22 : decode cX7_echo 22 = .ok (.aload_n 0, 1) := by decide +kernel
theorem dX7_echo_23 : decode cX7_echo 23 = .ok (.getfield 171, 3) := by decide +kernel
theorem dX7_echo_26 : decode cX7_echo 26 = .ok (.bipush 8, 2) := by decide +kernel
theorem dX7_echo_28 : decode cX7_echo 28 = .ok (.if_icmp .ne 6, 3) := by decide +kernel
theorem dX7_echo_31 : decode cX7_echo 31 = .ok (.bipush (-4), 2) := by decide +kernel
theorem dX7_echo_33 : decode cX7_echo 33 = .ok (.ireturn, 1) := by decide +kernel
theorem dX7_echo_34 : decode cX7_echo 34 = .ok (.aload_n 0, 1) := by decide +kernel
theorem dX7_echo_35 : decode cX7_echo 35 = .ok (.getfield 37, 3) := by decide +kernel
theorem dX7_echo_38 : decode cX7_echo 38 = .ok (.iconst 2, 1) := by decide +kernel
theorem dX7_echo_39 : decode cX7_echo 39 = .ok (.aload_n 0, 1) := by decide +kernel
theorem dX7_echo_40 : decode cX7_echo 40 = .ok (.getfield 171, 3) := by decide +kernel
theorem dX7_echo_43 : decode cX7_echo 43 = .ok (.imul, 1) := by decide +kernel
theorem dX7_echo_44 : decode cX7_echo 44 = .ok (.iload_n 1, 1) := by decide +kernel
theorem dX7_echo_45 : decode cX7_echo 45 = .ok (.iastore, 1) := by decide +kernel
theorem dX7_echo_46 : decode cX7_echo 46 = .ok (.aload_n 0, 1) := by decide +kernel
theorem dX7_echo_47 : decode cX7_echo 47 = .ok (.getfield 37, 3) := by decide +kernel
theorem dX7_echo_50 : decode cX7_echo 50 = .ok (.iconst 2, 1) := by decide +kernel
theorem dX7_echo_51 : decode cX7_echo 51 = .ok (.aload_n 0, 1) := by decide +kernel
theorem dX7_echo_52 : decode cX7_echo 52 = .ok (.getfield 171, 3) := by decide +kernel
theorem dX7_echo_55 : decode cX7_echo 55 = .ok (.imul, 1) := by decide +kernel
theorem dX7_echo_56 : decode cX7_echo 56 = .ok (.iconst 1, 1) := by decide +kernel
theorem dX7_echo_57 : decode cX7_echo 57 = .ok (.iadd, 1) := by decide +kernel
theorem dX7_echo_58 : decode cX7_echo 58 = .ok (.iload_n 2, 1) := by decide +kernel
theorem dX7_echo_59 : decode cX7_echo 59 = .ok (.iastore, 1) := by decide +kernel
theorem dX7_echo_60 : decode cX7_echo 60 = .ok (.aload_n 0, 1) := by decide +kernel
theorem dX7_echo_61 : decode cX7_echo 61 = .ok (.dup, 1) := by decide +kernel
theorem dX7_echo_62 : decode cX7_echo 62 = .ok (.getfield 171, 3) := by decide +kernel
theorem dX7_echo_65 : decode cX7_echo 65 = .ok (.iconst 1, 1) := by decide +kernel
theorem dX7_echo_66 : decode cX7_echo 66 = .ok (.iadd, 1) := by decide +kernel
theorem dX7_echo_67 : decode cX7_echo 67 = .ok (.putfield 171, 3) := by decide +kernel
theorem dX7_echo_70 : decode cX7_echo 70 = .ok (.aload_n 0, 1) := by decide +kernel
theorem dX7_echo_71 : decode cX7_echo 71 = .ok (.getfield 171, 3) := by decide +kernel
theorem dX7_echo_74 : decode cX7_echo 74 = .ok (.ireturn, 1) := by decide +kernel
theorem dX7_back_0 : decode cX7_back 0 = .ok (.aload_n 0, 1) := by decide +kernel
theorem dX7_back_1 : decode cX7_back 1 = .ok (.getfield 171, 3) := by decide +kernel
theorem dX7_back_4 : decode cX7_back 4 = .ok (.ifCond .ne 6, 3) := by decide +kernel
theorem dX7_back_7 : decode cX7_back 7 = .ok (.bipush (-3), 2) := by decide +kernel
theorem dX7_back_9 : decode cX7_back 9 = .ok (.ireturn, 1) := by decide +kernel
theorem dX7_back_10 : decode cX7_back 10 = .ok (.aload_n 0, 1) := by decide +kernel
theorem dX7_back_11 : decode cX7_back 11 = .ok (.dup, 1) := by decide +kernel
theorem dX7_back_12 : decode cX7_back 12 = .ok (.getfield 171, 3) := by decide +kernel
theorem dX7_back_15 : decode cX7_back 15 = .ok (.iconst 1, 1) := by decide +kernel
theorem dX7_back_16 : decode cX7_back 16 = .ok (.isub, 1) := by decide +kernel
theorem dX7_back_17 : decode cX7_back 17 = .ok (.putfield 171, 3) := by decide +kernel
theorem dX7_back_20 : decode cX7_back 20 = .ok (.aload_n 0, 1) := by decide +kernel
theorem dX7_back_21 : decode cX7_back 21 = .ok (.getfield 171, 3) := by decide +kernel
theorem dX7_back_24 : decode cX7_back 24 = .ok (.ireturn, 1) := by decide +kernel
theorem dX7_read_0 : decode cX7_read 0 = .ok (.iload_n 1, 1) := by decide +kernel
theorem dX7_read_1 : decode cX7_read 1 = .ok (.invokestatic 85, 3) := by decide +kernel
theorem dX7_read_4 : decode cX7_read 4 = .ok (.ifCond .ne 6, 3) := by decide +kernel
theorem dX7_read_7 : decode cX7_read 7 = .ok (.bipush (-2), 2) := by decide +kernel
theorem dX7_read_9 : decode cX7_read 9 = .ok (.ireturn, 1) := by decide +kernel
theorem dX7_read_10 : decode cX7_read 10 = .ok (.aload_n 0, 1) := by decide +kernel
theorem dX7_read_11 : decode cX7_read 11 = .ok (.getfield 7, 3) := by decide +kernel
theorem dX7_read_14 : decode cX7_read 14 = .ok (.iload_n 1, 1) := by decide +kernel
theorem dX7_read_15 : decode cX7_read 15 = .ok (.iaload, 1) := by decide +kernel
theorem dX7_read_16 : decode cX7_read 16 = .ok (.ifCond .ge 9, 3) := by decide +kernel
theorem dX7_read_19 : decode cX7_read 19 = .ok (.aload_n 0, 1) := by decide +kernel
theorem dX7_read_20 : decode cX7_read 20 = .ok (.iconst 1, 1) := by decide +kernel
theorem dX7_read_21 : decode cX7_read 21 = .ok (.invokevirtual 91, 3) := by decide +kernel
theorem dX7_read_24 : decode cX7_read 24 = .ok (.ireturn, 1) := by decide +kernel
theorem dX7_read_25 : decode cX7_read 25 = .ok (.iconst 0, 1) := by decide +kernel
theorem dX7_read_26 : decode cX7_read 26 = .ok (.istore_n 2, 1) := by decide +kernel
theorem dX7_read_27 : decode cX7_read 27 = .ok (.iconst 1, 1) := by decide +kernel
theorem dX7_read_28 : decode cX7_read 28 = .ok (.istore_n 3, 1) := by decide +kernel
theorem dX7_read_29 : decode cX7_read 29 = .ok (.iload_n 3, 1) := by decide +kernel
theorem dX7_read_30 : decode cX7_read 30 = .ok (.ifCond .eq 73, 3) := by decide +kernel
theorem dX7_read_33 : decode cX7_read 33 = .ok (.iconst 2, 1) := by decide +kernel
theorem dX7_read_34 : decode cX7_read 34 = .ok (.iload_n 2, 1) := by decide +kernel
theorem dX7_read_35 : decode cX7_read 35 = .ok (.imul, 1) := by decide +kernel
theorem dX7_read_36 : decode cX7_read 36 = .ok (.iconst 2, 1) := by decide +kernel
theorem dX7_read_37 : decode cX7_read 37 = .ok (.iadd, 1) := by decide +kernel
theorem dX7_read_38 : decode cX7_read 38 = .ok (.aload_n 0, 1) := by decide +kernel
theorem dX7_read_39 : decode cX7_read 39 = .ok (.getfield 13, 3) := by decide +kernel
theorem dX7_read_42 : decode cX7_read 42 = .ok (.iload_n 1, 1) := by decide +kernel
theorem dX7_read_43 : decode cX7_read 43 = .ok (.iaload, 1) := by decide +kernel
theorem dX7_read_44 : decode cX7_read 44 = .ok (.if_icmp .gt 59, 3) := by decide +kernel
theorem dX7_read_47 : decode cX7_read 47 = .ok (.aload_n 0, 1) := by decide +kernel
theorem dX7_read_48 : decode cX7_read 48 = .ok (.aload_n 0, 1) := by decide +kernel
theorem dX7_read_49 : decode cX7_read 49 = .ok (.getfield 16, 3) := by decide +kernel
theorem dX7_read_52 : decode cX7_read 52 = .ok (.bipush 60, 2) := by decide +kernel
theorem dX7_read_54 : decode cX7_read 54 = .ok (.iload_n 1, 1) := by decide +kernel
theorem dX7_read_55 : decode cX7_read 55 = .ok (.imul, 1) := by decide +kernel
theorem dX7_read_56 : decode cX7_read 56 = .ok (.iconst 2, 1) := by decide +kernel
theorem dX7_read_57 : decode cX7_read 57 = .ok (.iload_n 2, 1) := by decide +kernel
theorem dX7_read_58 : decode cX7_read 58 = .ok (.imul, 1) := by decide +kernel
theorem dX7_read_59 : decode cX7_read 59 = .ok (.iadd, 1) := by decide +kernel
theorem dX7_read_60 : decode cX7_read 60 = .ok (.iaload, 1) := by decide +kernel
theorem dX7_read_61 : decode cX7_read 61 = .ok (.aload_n 0, 1) := by decide +kernel
theorem dX7_read_62 : decode cX7_read 62 = .ok (.getfield 16, 3) := by decide +kernel
theorem dX7_read_65 : decode cX7_read 65 = .ok (.bipush 60, 2) := by decide +kernel
theorem dX7_read_67 : decode cX7_read 67 = .ok (.iload_n 1, 1) := by decide +kernel
theorem dX7_read_68 : decode cX7_read 68 = .ok (.imul, 1) := by decide +kernel
theorem dX7_read_69 : decode cX7_read 69 = .ok (.iconst 2, 1) := by decide +kernel
theorem dX7_read_70 : decode cX7_read 70 = .ok (.iload_n 2, 1) := by decide +kernel
theorem dX7_read_71 : decode cX7_read 71 = .ok (.imul, 1) := by decide +kernel
theorem dX7_read_72 : decode cX7_read 72 = .ok (.iadd, 1) := by decide +kernel
theorem dX7_read_73 : decode cX7_read 73 = .ok (.iconst 1, 1) := by decide +kernel
theorem dX7_read_74 : decode cX7_read 74 = .ok (.iadd, 1) := by decide +kernel
theorem dX7_read_75 : decode cX7_read 75 = .ok (.iaload, 1) := by decide +kernel
theorem dX7_read_76 : decode cX7_read 76 = .ok (.invokevirtual 174, 3) := by decide +kernel
theorem dX7_read_79 : decode cX7_read 79 = .ok (.ifCond .lt 7, 3) := by decide +kernel
theorem dX7_read_82 : decode cX7_read 82 = .ok (.iconst 1, 1) := by decide +kernel
theorem dX7_read_83 : decode cX7_read 83 = .ok (.goto 4, 3) := by decide +kernel
theorem dX7_read_86 : decode cX7_read 86 = .ok (.iconst 0, 1) := by decide +kernel
theorem dX7_read_87 : decode cX7_read 87 = .ok (.istore_n 3, 1) := by decide +kernel
theorem dX7_read_88 : decode cX7_read 88 = .ok (.iload_n 2, 1) := by decide +kernel
theorem dX7_read_89 : decode cX7_read 89 = .ok (.iload_n 3, 1) := by decide +kernel
theorem dX7_read_90 : decode cX7_read 90 = .ok (.ifCond .eq 7, 3) := by decide +kernel
theorem dX7_read_93 : decode cX7_read 93 = .ok (.iconst 1, 1) := by decide +kernel
theorem dX7_read_94 : decode cX7_read 94 = .ok (.goto 4, 3) := by decide +kernel
theorem dX7_read_97 : decode cX7_read 97 = .ok (.iconst 0, 1) := by decide +kernel
theorem dX7_read_98 : decode cX7_read 98 = .ok (.iadd, 1) := by decide +kernel
theorem dX7_read_99 : decode cX7_read 99 = .ok (.istore_n 2, 1) := by decide +kernel
theorem dX7_read_100 : decode cX7_read 100 = .ok (.goto (-71), 3) := by decide +kernel
theorem dX7_read_103 : decode cX7_read 103 = .ok (.iload_n 2, 1) := by decide +kernel
theorem dX7_read_104 : decode cX7_read 104 = .ok (.ireturn, 1) := by decide +kernel
theorem dX7_isEcho_0 : decode cX7_isEcho 0 = .ok (.iconst 0, 1) := by decide +kernel
theorem dX7_isEcho_1 : decode cX7_isEcho 1 = .ok (.istore_n 3, 1) := by decide +kernel
theorem dX7_isEcho_2 : decode cX7_isEcho 2 = .ok (.iconst 0, 1) := by decide +kernel
theorem dX7_isEcho_3 : decode cX7_isEcho 3 = .ok (.istore 4, 2) := by decide +kernel
theorem dX7_isEcho_5 : decode cX7_isEcho 5 = .ok (.iload 4, 2) := by decide +kernel
theorem dX7_isEcho_7 : decode cX7_isEcho 7 = .ok (.aload_n 0, 1) := by decide +kernel
theorem dX7_isEcho_8 : decode cX7_isEcho 8 = .ok (.getfield 171, 3) := by decide +kernel
theorem dX7_isEcho_11 : decode cX7_isEcho 11 = .ok (.if_icmp .ge 59, 3) := by decide +kernel
theorem dX7_isEcho_14 : decode cX7_isEcho 14 = .ok (.iload_n 3, 1) := by decide +kernel
theorem dX7_isEcho_15 : decode cX7_isEcho 15 = .ok (.ifCond .ne 43, 3) := by decide +kernel
theorem dX7_isEcho_18 : decode cX7_isEcho 18 = .ok (.aload_n 0, 1) := by decide +kernel
theorem dX7_isEcho_19 : decode cX7_isEcho 19 = .ok (.getfield 37, 3) := by decide +kernel
theorem dX7_isEcho_22 : decode cX7_isEcho 22 = .ok (.iconst 2, 1) := by decide +kernel
theorem dX7_isEcho_23 : decode cX7_isEcho 23 = .ok (.iload 4, 2) := by decide +kernel
theorem dX7_isEcho_25 : decode cX7_isEcho 25 = .ok (.imul, 1) := by decide +kernel
theorem dX7_isEcho_26 : decode cX7_isEcho 26 = .ok (.iaload, 1) := by decide +kernel
theorem dX7_isEcho_27 : decode cX7_isEcho 27 = .ok (.iload_n 1, 1) := by decide +kernel
theorem dX7_isEcho_28 : decode cX7_isEcho 28 = .ok (.if_icmp .ne 34, 3) := by decide +kernel
theorem dX7_isEcho_31 : decode cX7_isEcho 31 = .ok (.aload_n 0, 1) := by decide +kernel
theorem dX7_isEcho_32 : decode cX7_isEcho 32 = .ok (.getfield 37, 3) := by decide +kernel
theorem dX7_isEcho_35 : decode cX7_isEcho 35 = .ok (.iconst 2, 1) := by decide +kernel
theorem dX7_isEcho_36 : decode cX7_isEcho 36 = .ok (.iload 4, 2) := by decide +kernel
theorem dX7_isEcho_38 : decode cX7_isEcho 38 = .ok (.imul, 1) := by decide +kernel
theorem dX7_isEcho_39 : decode cX7_isEcho 39 = .ok (.iconst 1, 1) := by decide +kernel
theorem dX7_isEcho_40 : decode cX7_isEcho 40 = .ok (.iadd, 1) := by decide +kernel
theorem dX7_isEcho_41 : decode cX7_isEcho 41 = .ok (.iaload, 1) := by decide +kernel
theorem dX7_isEcho_42 : decode cX7_isEcho 42 = .ok (.iload_n 2, 1) := by decide +kernel
theorem dX7_isEcho_43 : decode cX7_isEcho 43 = .ok (.if_icmp .ne 19, 3) := by decide +kernel
theorem dX7_isEcho_46 : decode cX7_isEcho 46 = .ok (.aload_n 0, 1) := by decide +kernel
theorem dX7_isEcho_47 : decode cX7_isEcho 47 = .ok (.getfield 176, 3) := by decide +kernel
theorem dX7_isEcho_50 : decode cX7_isEcho 50 = .ok (.iload 4, 2) := by decide +kernel
theorem dX7_isEcho_52 : decode cX7_isEcho 52 = .ok (.invokestatic 179, 3) := by decide +kernel
theorem dX7_isEcho_55 : decode cX7_isEcho 55 = .ok (.ifCond .ne 7, 3) := by decide +kernel
theorem dX7_isEcho_58 : decode cX7_isEcho 58 = .ok (.iconst 1, 1) := by decide +kernel
theorem dX7_isEcho_59 : decode cX7_isEcho 59 = .ok (.goto 4, 3) := by decide +kernel
theorem dX7_isEcho_62 : decode cX7_isEcho 62 = .ok (.iconst 0, 1) := by decide +kernel
theorem dX7_isEcho_63 : decode cX7_isEcho 63 = .ok (.istore_n 3, 1) := by decide +kernel
theorem dX7_isEcho_64 : decode cX7_isEcho 64 = .ok (.iinc 4 1, 3) := by decide +kernel
theorem dX7_isEcho_67 : decode cX7_isEcho 67 = .ok (.goto (-62), 3) := by decide +kernel
theorem dX7_isEcho_70 : decode cX7_isEcho 70 = .ok (.iload_n 3, 1) := by decide +kernel
theorem dX7_isEcho_71 : decode cX7_isEcho 71 = .ok (.ireturn, 1) := by decide +kernel
theorem dX7_isDead_0 : decode cX7_isDead 0 = .ok (.aload_n 0, 1) := by decide +kernel
theorem dX7_isDead_1 : decode cX7_isDead 1 = .ok (.getfield 28, 3) := by decide +kernel
theorem dX7_isDead_4 : decode cX7_isDead 4 = .ok (.iconst 2, 1) := by decide +kernel
theorem dX7_isDead_5 : decode cX7_isDead 5 = .ok (.iload_n 2, 1) := by decide +kernel
theorem dX7_isDead_6 : decode cX7_isDead 6 = .ok (.imul, 1) := by decide +kernel
theorem dX7_isDead_7 : decode cX7_isDead 7 = .ok (.iconst 1, 1) := by decide +kernel
theorem dX7_isDead_8 : decode cX7_isDead 8 = .ok (.iadd, 1) := by decide +kernel
theorem dX7_isDead_9 : decode cX7_isDead 9 = .ok (.iaload, 1) := by decide +kernel
theorem dX7_isDead_10 : decode cX7_isDead 10 = .ok (.iload_n 1, 1) := by decide +kernel
theorem dX7_isDead_11 : decode cX7_isDead 11 = .ok (.if_icmp .ge 7, 3) := by decide +kernel
theorem dX7_isDead_14 : decode cX7_isDead 14 = .ok (.iconst 1, 1) := by decide +kernel
theorem dX7_isDead_15 : decode cX7_isDead 15 = .ok (.goto 4, 3) := by decide +kernel
theorem dX7_isDead_18 : decode cX7_isDead 18 = .ok (.iconst 0, 1) := by decide +kernel
theorem dX7_isDead_19 : decode cX7_isDead 19 = .ok (.ireturn, 1) := by decide +kernel
theorem dX7_grows_0 : decode cX7_grows 0 = .ok (.iconst 0, 1) := by decide +kernel
theorem dX7_grows_1 : decode cX7_grows 1 = .ok (.istore_n 1, 1) := by decide +kernel
theorem dX7_grows_2 : decode cX7_grows 2 = .ok (.iload_n 1, 1) := by decide +kernel
theorem dX7_grows_3 : decode cX7_grows 3 = .ok (.aload_n 0, 1) := by decide +kernel
theorem dX7_grows_4 : decode cX7_grows 4 = .ok (.getfield 125, 3) := by decide +kernel
theorem dX7_grows_7 : decode cX7_grows 7 = .ok (.if_icmp .ge 60, 3) := by decide +kernel
theorem dX7_grows_10 : decode cX7_grows 10 = .ok (.aload_n 0, 1) := by decide +kernel
theorem dX7_grows_11 : decode cX7_grows 11 = .ok (.getfield 40, 3) := by decide +kernel
theorem dX7_grows_14 : decode cX7_grows 14 = .ok (.iload_n 1, 1) := by decide +kernel
theorem dX7_grows_15 : decode cX7_grows 15 = .ok (.iaload, 1) := by decide +kernel
theorem dX7_grows_16 : decode cX7_grows 16 = .ok (.ifCond .ne 45, 3) := by decide +kernel
theorem dX7_grows_19 : decode cX7_grows 19 = .ok (.aload_n 0, 1) := by decide +kernel
theorem dX7_grows_20 : decode cX7_grows 20 = .ok (.getfield 43, 3) := by decide +kernel
theorem dX7_grows_23 : decode cX7_grows 23 = .ok (.iload_n 1, 1) := by decide +kernel
theorem dX7_grows_24 : decode cX7_grows 24 = .ok (.aload_n 0, 1) := by decide +kernel
theorem dX7_grows_25 : decode cX7_grows 25 = .ok (.getfield 43, 3) := by decide +kernel
theorem dX7_grows_28 : decode cX7_grows 28 = .ok (.iload_n 1, 1) := by decide +kernel
theorem dX7_grows_29 : decode cX7_grows 29 = .ok (.iaload, 1) := by decide +kernel
theorem dX7_grows_30 : decode cX7_grows 30 = .ok (.aload_n 0, 1) := by decide +kernel
theorem dX7_grows_31 : decode cX7_grows 31 = .ok (.getfield 28, 3) := by decide +kernel
theorem dX7_grows_34 : decode cX7_grows 34 = .ok (.iconst 2, 1) := by decide +kernel
theorem dX7_grows_35 : decode cX7_grows 35 = .ok (.aload_n 0, 1) := by decide +kernel
theorem dX7_grows_36 : decode cX7_grows 36 = .ok (.getfield 31, 3) := by decide +kernel
theorem dX7_grows_39 : decode cX7_grows 39 = .ok (.iconst 3, 1) := by decide +kernel
theorem dX7_grows_40 : decode cX7_grows 40 = .ok (.iload_n 1, 1) := by decide +kernel
theorem dX7_grows_41 : decode cX7_grows 41 = .ok (.imul, 1) := by decide +kernel
theorem dX7_grows_42 : decode cX7_grows 42 = .ok (.iaload, 1) := by decide +kernel
theorem dX7_grows_43 : decode cX7_grows 43 = .ok (.imul, 1) := by decide +kernel
theorem dX7_grows_44 : decode cX7_grows 44 = .ok (.iaload, 1) := by decide +kernel
theorem dX7_grows_45 : decode cX7_grows 45 = .ok (.iconst 3, 1) := by decide +kernel
theorem dX7_grows_46 : decode cX7_grows 46 = .ok (.if_icmp .ne 7, 3) := by decide +kernel
theorem dX7_grows_49 : decode cX7_grows 49 = .ok (.iconst 2, 1) := by decide +kernel
theorem dX7_grows_50 : decode cX7_grows 50 = .ok (.goto 4, 3) := by decide +kernel
theorem dX7_grows_53 : decode cX7_grows 53 = .ok (.iconst 1, 1) := by decide +kernel
theorem dX7_grows_54 : decode cX7_grows 54 = .ok (.iadd, 1) := by decide +kernel
theorem dX7_grows_55 : decode cX7_grows 55 = .ok (.bipush 9, 2) := by decide +kernel
theorem dX7_grows_57 : decode cX7_grows 57 = .ok (.invokestatic 183, 3) := by decide +kernel
theorem dX7_grows_60 : decode cX7_grows 60 = .ok (.iastore, 1) := by decide +kernel
theorem dX7_grows_61 : decode cX7_grows 61 = .ok (.iinc 1 1, 3) := by decide +kernel
theorem dX7_grows_64 : decode cX7_grows 64 = .ok (.goto (-62), 3) := by decide +kernel
theorem dX7_grows_67 : decode cX7_grows 67 = .ok (.return_, 1) := by decide +kernel
theorem dX7_says_0 : decode cX7_says 0 = .ok (.iconst (-1), 1) := by decide +kernel
theorem dX7_says_1 : decode cX7_says 1 = .ok (.istore 4, 2) := by decide +kernel
theorem dX7_says_3 : decode cX7_says 3 = .ok (.aload_n 0, 1) := by decide +kernel
theorem dX7_says_4 : decode cX7_says 4 = .ok (.getfield 125, 3) := by decide +kernel
theorem dX7_says_7 : decode cX7_says 7 = .ok (.iconst 1, 1) := by decide +kernel
theorem dX7_says_8 : decode cX7_says 8 = .ok (.isub, 1) := by decide +kernel
theorem dX7_says_9 : decode cX7_says 9 = .ok (.istore 5, 2) := by decide +kernel
theorem dX7_says_11 : decode cX7_says 11 = .ok (.iload 5, 2) := by decide +kernel
theorem dX7_says_13 : decode cX7_says 13 = .ok (.ifCond .lt 56, 3) := by decide +kernel
theorem dX7_says_16 : decode cX7_says 16 = .ok (.aload_n 0, 1) := by decide +kernel
theorem dX7_says_17 : decode cX7_says 17 = .ok (.getfield 40, 3) := by decide +kernel
theorem dX7_says_20 : decode cX7_says 20 = .ok (.iload 5, 2) := by decide +kernel
theorem dX7_says_22 : decode cX7_says 22 = .ok (.iaload, 1) := by decide +kernel
theorem dX7_says_23 : decode cX7_says 23 = .ok (.ifCond .ne 36, 3) := by decide +kernel
theorem dX7_says_26 : decode cX7_says 26 = .ok (.aload_n 0, 1) := by decide +kernel
theorem dX7_says_27 : decode cX7_says 27 = .ok (.getfield 31, 3) := by decide +kernel
theorem dX7_says_30 : decode cX7_says 30 = .ok (.iconst 3, 1) := by decide +kernel
theorem dX7_says_31 : decode cX7_says 31 = .ok (.iload 5, 2) := by decide +kernel
theorem dX7_says_33 : decode cX7_says 33 = .ok (.imul, 1) := by decide +kernel
theorem dX7_says_34 : decode cX7_says 34 = .ok (.iaload, 1) := by decide +kernel
theorem dX7_says_35 : decode cX7_says 35 = .ok (.iload_n 3, 1) := by decide +kernel
theorem dX7_says_36 : decode cX7_says 36 = .ok (.if_icmp .ne 23, 3) := by decide +kernel
theorem dX7_says_39 : decode cX7_says 39 = .ok (.aload_n 0, 1) := by decide +kernel
theorem dX7_says_40 : decode cX7_says 40 = .ok (.getfield 31, 3) := by decide +kernel
theorem dX7_says_43 : decode cX7_says 43 = .ok (.iconst 3, 1) := by decide +kernel
theorem dX7_says_44 : decode cX7_says 44 = .ok (.iload 5, 2) := by decide +kernel
theorem dX7_says_46 : decode cX7_says 46 = .ok (.imul, 1) := by decide +kernel
theorem dX7_says_47 : decode cX7_says 47 = .ok (.iconst 1, 1) := by decide +kernel
theorem dX7_says_48 : decode cX7_says 48 = .ok (.iadd, 1) := by decide +kernel
theorem dX7_says_49 : decode cX7_says 49 = .ok (.iaload, 1) := by decide +kernel
theorem dX7_says_50 : decode cX7_says 50 = .ok (.iload_n 2, 1) := by decide +kernel
theorem dX7_says_51 : decode cX7_says 51 = .ok (.if_icmp .ne 8, 3) := by decide +kernel
theorem dX7_says_54 : decode cX7_says 54 = .ok (.iload 5, 2) := by decide +kernel
theorem dX7_says_56 : decode cX7_says 56 = .ok (.goto 5, 3) := by decide +kernel
theorem dX7_says_59 : decode cX7_says 59 = .ok (.iload 4, 2) := by decide +kernel
theorem dX7_says_61 : decode cX7_says 61 = .ok (.istore 4, 2) := by decide +kernel
theorem dX7_says_63 : decode cX7_says 63 = .ok (.iinc 5 (-1), 3) := by decide +kernel
theorem dX7_says_66 : decode cX7_says 66 = .ok (.goto (-55), 3) := by decide +kernel
theorem dX7_says_69 : decode cX7_says 69 = .ok (.iload 4, 2) := by decide +kernel
theorem dX7_says_71 : decode cX7_says 71 = .ok (.iconst (-1), 1) := by decide +kernel
theorem dX7_says_72 : decode cX7_says 72 = .ok (.if_icmp .eq 15, 3) := by decide +kernel
theorem dX7_says_75 : decode cX7_says 75 = .ok (.aload_n 0, 1) := by decide +kernel
theorem dX7_says_76 : decode cX7_says 76 = .ok (.getfield 28, 3) := by decide +kernel
theorem dX7_says_79 : decode cX7_says 79 = .ok (.iconst 2, 1) := by decide +kernel
theorem dX7_says_80 : decode cX7_says 80 = .ok (.iload_n 2, 1) := by decide +kernel
theorem dX7_says_81 : decode cX7_says 81 = .ok (.imul, 1) := by decide +kernel
theorem dX7_says_82 : decode cX7_says 82 = .ok (.iaload, 1) := by decide +kernel
theorem dX7_says_83 : decode cX7_says 83 = .ok (.iconst 2, 1) := by decide +kernel
theorem dX7_says_84 : decode cX7_says 84 = .ok (.if_icmp .ne 4, 3) := by decide +kernel
theorem dX7_says_87 : decode cX7_says 87 = .ok (.return_, 1) := by decide +kernel
theorem dX7_says_88 : decode cX7_says 88 = .ok (.aload_n 0, 1) := by decide +kernel
theorem dX7_says_89 : decode cX7_says 89 = .ok (.getfield 49, 3) := by decide +kernel
theorem dX7_says_92 : decode cX7_says 92 = .ok (.iload_n 2, 1) := by decide +kernel
theorem dX7_says_93 : decode cX7_says 93 = .ok (.dup2, 1) := by decide +kernel
theorem dX7_says_94 : decode cX7_says 94 = .ok (.iaload, 1) := by decide +kernel
theorem dX7_says_95 : decode cX7_says 95 = .ok (.iconst 1, 1) := by decide +kernel
theorem dX7_says_96 : decode cX7_says 96 = .ok (.iadd, 1) := by decide +kernel
theorem dX7_says_97 : decode cX7_says 97 = .ok (.iastore, 1) := by decide +kernel
theorem dX7_says_98 : decode cX7_says 98 = .ok (.aload_n 0, 1) := by decide +kernel
theorem dX7_says_99 : decode cX7_says 99 = .ok (.getfield 28, 3) := by decide +kernel
theorem dX7_says_102 : decode cX7_says 102 = .ok (.iconst 2, 1) := by decide +kernel
theorem dX7_says_103 : decode cX7_says 103 = .ok (.iload_n 2, 1) := by decide +kernel
theorem dX7_says_104 : decode cX7_says 104 = .ok (.imul, 1) := by decide +kernel
theorem dX7_says_105 : decode cX7_says 105 = .ok (.iaload, 1) := by decide +kernel
theorem dX7_says_106 : decode cX7_says 106 = .ok (.iconst 1, 1) := by decide +kernel
theorem dX7_says_107 : decode cX7_says 107 = .ok (.if_icmp .ne 16, 3) := by decide +kernel
theorem dX7_says_110 : decode cX7_says 110 = .ok (.aload_n 0, 1) := by decide +kernel
theorem dX7_says_111 : decode cX7_says 111 = .ok (.getfield 49, 3) := by decide +kernel
theorem dX7_says_114 : decode cX7_says 114 = .ok (.iload_n 2, 1) := by decide +kernel
theorem dX7_says_115 : decode cX7_says 115 = .ok (.iaload, 1) := by decide +kernel
theorem dX7_says_116 : decode cX7_says 116 = .ok (.iconst 2, 1) := by decide +kernel
theorem dX7_says_117 : decode cX7_says 117 = .ok (.irem, 1) := by decide +kernel
theorem dX7_says_118 : decode cX7_says 118 = .ok (.iconst 1, 1) := by decide +kernel
theorem dX7_says_119 : decode cX7_says 119 = .ok (.if_icmp .ne 4, 3) := by decide +kernel
theorem dX7_says_122 : decode cX7_says 122 = .ok (.return_, 1) := by decide +kernel
theorem dX7_says_123 : decode cX7_says 123 = .ok (.aload_n 0, 1) := by decide +kernel
theorem dX7_says_124 : decode cX7_says 124 = .ok (.getfield 46, 3) := by decide +kernel
theorem dX7_says_127 : decode cX7_says 127 = .ok (.iload_n 2, 1) := by decide +kernel
theorem dX7_says_128 : decode cX7_says 128 = .ok (.dup2, 1) := by decide +kernel
theorem dX7_says_129 : decode cX7_says 129 = .ok (.iaload, 1) := by decide +kernel
theorem dX7_says_130 : decode cX7_says 130 = .ok (.iconst 1, 1) := by decide +kernel
theorem dX7_says_131 : decode cX7_says 131 = .ok (.iadd, 1) := by decide +kernel
theorem dX7_says_132 : decode cX7_says 132 = .ok (.iastore, 1) := by decide +kernel
theorem dX7_says_133 : decode cX7_says 133 = .ok (.aload_n 0, 1) := by decide +kernel
theorem dX7_says_134 : decode cX7_says 134 = .ok (.iload_n 1, 1) := by decide +kernel
theorem dX7_says_135 : decode cX7_says 135 = .ok (.iload_n 2, 1) := by decide +kernel
theorem dX7_says_136 : decode cX7_says 136 = .ok (.invokevirtual 186, 3) := by decide +kernel
theorem dX7_says_139 : decode cX7_says 139 = .ok (.ifCond .ne 61, 3) := by decide +kernel
theorem dX7_says_142 : decode cX7_says 142 = .ok (.aload_n 0, 1) := by decide +kernel
theorem dX7_says_143 : decode cX7_says 143 = .ok (.getfield 43, 3) := by decide +kernel
theorem dX7_says_146 : decode cX7_says 146 = .ok (.iload 4, 2) := by decide +kernel
theorem dX7_says_148 : decode cX7_says 148 = .ok (.aload_n 0, 1) := by decide +kernel
theorem dX7_says_149 : decode cX7_says 149 = .ok (.getfield 43, 3) := by decide +kernel
theorem dX7_says_152 : decode cX7_says 152 = .ok (.iload 4, 2) := by decide +kernel
theorem dX7_says_154 : decode cX7_says 154 = .ok (.iaload, 1) := by decide +kernel
theorem dX7_says_155 : decode cX7_says 155 = .ok (.aload_n 0, 1) := by decide +kernel
theorem dX7_says_156 : decode cX7_says 156 = .ok (.getfield 28, 3) := by decide +kernel
theorem dX7_says_159 : decode cX7_says 159 = .ok (.iconst 2, 1) := by decide +kernel
theorem dX7_says_160 : decode cX7_says 160 = .ok (.iload_n 2, 1) := by decide +kernel
theorem dX7_says_161 : decode cX7_says 161 = .ok (.imul, 1) := by decide +kernel
theorem dX7_says_162 : decode cX7_says 162 = .ok (.iaload, 1) := by decide +kernel
theorem dX7_says_163 : decode cX7_says 163 = .ok (.iconst 3, 1) := by decide +kernel
theorem dX7_says_164 : decode cX7_says 164 = .ok (.if_icmp .ne 7, 3) := by decide +kernel
theorem dX7_says_167 : decode cX7_says 167 = .ok (.iconst 2, 1) := by decide +kernel
theorem dX7_says_168 : decode cX7_says 168 = .ok (.goto 4, 3) := by decide +kernel
theorem dX7_says_171 : decode cX7_says 171 = .ok (.iconst 1, 1) := by decide +kernel
theorem dX7_says_172 : decode cX7_says 172 = .ok (.isub, 1) := by decide +kernel
theorem dX7_says_173 : decode cX7_says 173 = .ok (.iconst 0, 1) := by decide +kernel
theorem dX7_says_174 : decode cX7_says 174 = .ok (.invokestatic 189, 3) := by decide +kernel
theorem dX7_says_177 : decode cX7_says 177 = .ok (.iastore, 1) := by decide +kernel
theorem dX7_says_178 : decode cX7_says 178 = .ok (.aload_n 0, 1) := by decide +kernel
theorem dX7_says_179 : decode cX7_says 179 = .ok (.getfield 40, 3) := by decide +kernel
theorem dX7_says_182 : decode cX7_says 182 = .ok (.iload 4, 2) := by decide +kernel
theorem dX7_says_184 : decode cX7_says 184 = .ok (.aload_n 0, 1) := by decide +kernel
theorem dX7_says_185 : decode cX7_says 185 = .ok (.getfield 43, 3) := by decide +kernel
theorem dX7_says_188 : decode cX7_says 188 = .ok (.iload 4, 2) := by decide +kernel
theorem dX7_says_190 : decode cX7_says 190 = .ok (.iaload, 1) := by decide +kernel
theorem dX7_says_191 : decode cX7_says 191 = .ok (.ifCond .ne 7, 3) := by decide +kernel
theorem dX7_says_194 : decode cX7_says 194 = .ok (.iconst 1, 1) := by decide +kernel
theorem dX7_says_195 : decode cX7_says 195 = .ok (.goto 4, 3) := by decide +kernel
theorem dX7_says_198 : decode cX7_says 198 = .ok (.iconst 0, 1) := by decide +kernel
theorem dX7_says_199 : decode cX7_says 199 = .ok (.iastore, 1) := by decide +kernel
theorem dX7_says_200 : decode cX7_says 200 = .ok (.return_, 1) := by decide +kernel
theorem dX7_talk_0 : decode cX7_talk 0 = .ok (.aload_n 0, 1) := by decide +kernel
theorem dX7_talk_1 : decode cX7_talk 1 = .ok (.iload_n 2, 1) := by decide +kernel
theorem dX7_talk_2 : decode cX7_talk 2 = .ok (.invokevirtual 152, 3) := by decide +kernel
theorem dX7_talk_5 : decode cX7_talk 5 = .ok (.ifCond .eq 48, 3) := by decide +kernel
theorem dX7_talk_8 : decode cX7_talk 8 = .ok (.aload_n 0, 1) := by decide +kernel
theorem dX7_talk_9 : decode cX7_talk 9 = .ok (.iload_n 3, 1) := by decide +kernel
theorem dX7_talk_10 : decode cX7_talk 10 = .ok (.invokevirtual 152, 3) := by decide +kernel
theorem dX7_talk_13 : decode cX7_talk 13 = .ok (.ifCond .eq 40, 3) := by decide +kernel
theorem dX7_talk_16 : decode cX7_talk 16 = .ok (.iload_n 2, 1) := by decide +kernel
theorem dX7_talk_17 : decode cX7_talk 17 = .ok (.iload_n 3, 1) := by decide +kernel
theorem dX7_talk_18 : decode cX7_talk 18 = .ok (.if_icmp .eq 35, 3) := by decide +kernel
theorem dX7_talk_21 : decode cX7_talk 21 = .ok (.aload_n 0, 1) := by decide +kernel
theorem dX7_talk_22 : decode cX7_talk 22 = .ok (.iload_n 1, 1) := by decide +kernel
theorem dX7_talk_23 : decode cX7_talk 23 = .ok (.iload_n 2, 1) := by decide +kernel
theorem dX7_talk_24 : decode cX7_talk 24 = .ok (.invokevirtual 192, 3) := by decide +kernel
theorem dX7_talk_27 : decode cX7_talk 27 = .ok (.ifCond .ne 26, 3) := by decide +kernel
theorem dX7_talk_30 : decode cX7_talk 30 = .ok (.aload_n 0, 1) := by decide +kernel
theorem dX7_talk_31 : decode cX7_talk 31 = .ok (.iload_n 1, 1) := by decide +kernel
theorem dX7_talk_32 : decode cX7_talk 32 = .ok (.iload_n 3, 1) := by decide +kernel
theorem dX7_talk_33 : decode cX7_talk 33 = .ok (.invokevirtual 192, 3) := by decide +kernel
theorem dX7_talk_36 : decode cX7_talk 36 = .ok (.ifCond .ne 17, 3) := by decide +kernel
theorem dX7_talk_39 : decode cX7_talk 39 = .ok (.aload_n 0, 1) := by decide +kernel
theorem dX7_talk_40 : decode cX7_talk 40 = .ok (.iload_n 1, 1) := by decide +kernel
theorem dX7_talk_41 : decode cX7_talk 41 = .ok (.iload_n 2, 1) := by decide +kernel
theorem dX7_talk_42 : decode cX7_talk 42 = .ok (.iload_n 3, 1) := by decide +kernel
theorem dX7_talk_43 : decode cX7_talk 43 = .ok (.invokevirtual 195, 3) := by decide +kernel
theorem dX7_talk_46 : decode cX7_talk 46 = .ok (.aload_n 0, 1) := by decide +kernel
theorem dX7_talk_47 : decode cX7_talk 47 = .ok (.iload_n 1, 1) := by decide +kernel
theorem dX7_talk_48 : decode cX7_talk 48 = .ok (.iload_n 3, 1) := by decide +kernel
theorem dX7_talk_49 : decode cX7_talk 49 = .ok (.iload_n 2, 1) := by decide +kernel
theorem dX7_talk_50 : decode cX7_talk 50 = .ok (.invokevirtual 195, 3) := by decide +kernel
theorem dX7_talk_53 : decode cX7_talk 53 = .ok (.return_, 1) := by decide +kernel
theorem dX7_dies_0 : decode cX7_dies 0 = .ok (.iconst 0, 1) := by decide +kernel
theorem dX7_dies_1 : decode cX7_dies 1 = .ok (.istore_n 2, 1) := by decide +kernel
theorem dX7_dies_2 : decode cX7_dies 2 = .ok (.iload_n 2, 1) := by decide +kernel
theorem dX7_dies_3 : decode cX7_dies 3 = .ok (.aload_n 0, 1) := by decide +kernel
theorem dX7_dies_4 : decode cX7_dies 4 = .ok (.getfield 125, 3) := by decide +kernel
theorem dX7_dies_7 : decode cX7_dies 7 = .ok (.if_icmp .ge 99, 3) := by decide +kernel
theorem dX7_dies_10 : decode cX7_dies 10 = .ok (.aload_n 0, 1) := by decide +kernel
theorem dX7_dies_11 : decode cX7_dies 11 = .ok (.getfield 40, 3) := by decide +kernel
theorem dX7_dies_14 : decode cX7_dies 14 = .ok (.iload_n 2, 1) := by decide +kernel
theorem dX7_dies_15 : decode cX7_dies 15 = .ok (.iaload, 1) := by decide +kernel
theorem dX7_dies_16 : decode cX7_dies 16 = .ok (.ifCond .ne 84, 3) := by decide +kernel
theorem dX7_dies_19 : decode cX7_dies 19 = .ok (.aload_n 0, 1) := by decide +kernel
theorem dX7_dies_20 : decode cX7_dies 20 = .ok (.getfield 28, 3) := by decide +kernel
theorem dX7_dies_23 : decode cX7_dies 23 = .ok (.iconst 2, 1) := by decide +kernel
theorem dX7_dies_24 : decode cX7_dies 24 = .ok (.aload_n 0, 1) := by decide +kernel
theorem dX7_dies_25 : decode cX7_dies 25 = .ok (.getfield 31, 3) := by decide +kernel
theorem dX7_dies_28 : decode cX7_dies 28 = .ok (.iconst 3, 1) := by decide +kernel
theorem dX7_dies_29 : decode cX7_dies 29 = .ok (.iload_n 2, 1) := by decide +kernel
theorem dX7_dies_30 : decode cX7_dies 30 = .ok (.imul, 1) := by decide +kernel
theorem dX7_dies_31 : decode cX7_dies 31 = .ok (.iconst 1, 1) := by decide +kernel
theorem dX7_dies_32 : decode cX7_dies 32 = .ok (.iadd, 1) := by decide +kernel
theorem dX7_dies_33 : decode cX7_dies 33 = .ok (.iaload, 1) := by decide +kernel
theorem dX7_dies_34 : decode cX7_dies 34 = .ok (.imul, 1) := by decide +kernel
theorem dX7_dies_35 : decode cX7_dies 35 = .ok (.iconst 1, 1) := by decide +kernel
theorem dX7_dies_36 : decode cX7_dies 36 = .ok (.iadd, 1) := by decide +kernel
theorem dX7_dies_37 : decode cX7_dies 37 = .ok (.iaload, 1) := by decide +kernel
theorem dX7_dies_38 : decode cX7_dies 38 = .ok (.iload_n 1, 1) := by decide +kernel
theorem dX7_dies_39 : decode cX7_dies 39 = .ok (.if_icmp .ne 7, 3) := by decide +kernel
theorem dX7_dies_42 : decode cX7_dies 42 = .ok (.iconst 1, 1) := by decide +kernel
theorem dX7_dies_43 : decode cX7_dies 43 = .ok (.goto 4, 3) := by decide +kernel
theorem dX7_dies_46 : decode cX7_dies 46 = .ok (.iconst 0, 1) := by decide +kernel
theorem dX7_dies_47 : decode cX7_dies 47 = .ok (.istore_n 3, 1) := by decide +kernel
theorem dX7_dies_48 : decode cX7_dies 48 = .ok (.aload_n 0, 1) := by decide +kernel
theorem dX7_dies_49 : decode cX7_dies 49 = .ok (.getfield 28, 3) := by decide +kernel
theorem dX7_dies_52 : decode cX7_dies 52 = .ok (.iconst 2, 1) := by decide +kernel
theorem dX7_dies_53 : decode cX7_dies 53 = .ok (.aload_n 0, 1) := by decide +kernel
theorem dX7_dies_54 : decode cX7_dies 54 = .ok (.getfield 31, 3) := by decide +kernel
theorem dX7_dies_57 : decode cX7_dies 57 = .ok (.iconst 3, 1) := by decide +kernel
theorem dX7_dies_58 : decode cX7_dies 58 = .ok (.iload_n 2, 1) := by decide +kernel
theorem dX7_dies_59 : decode cX7_dies 59 = .ok (.imul, 1) := by decide +kernel
theorem dX7_dies_60 : decode cX7_dies 60 = .ok (.iaload, 1) := by decide +kernel
theorem dX7_dies_61 : decode cX7_dies 61 = .ok (.imul, 1) := by decide +kernel
theorem dX7_dies_62 : decode cX7_dies 62 = .ok (.iconst 1, 1) := by decide +kernel
theorem dX7_dies_63 : decode cX7_dies 63 = .ok (.iadd, 1) := by decide +kernel
theorem dX7_dies_64 : decode cX7_dies 64 = .ok (.iaload, 1) := by decide +kernel
theorem dX7_dies_65 : decode cX7_dies 65 = .ok (.iload_n 1, 1) := by decide +kernel
theorem dX7_dies_66 : decode cX7_dies 66 = .ok (.if_icmp .ne 7, 3) := by decide +kernel
theorem dX7_dies_69 : decode cX7_dies 69 = .ok (.iconst 1, 1) := by decide +kernel
theorem dX7_dies_70 : decode cX7_dies 70 = .ok (.goto 4, 3) := by decide +kernel
theorem dX7_dies_73 : decode cX7_dies 73 = .ok (.iconst 0, 1) := by decide +kernel
theorem dX7_dies_74 : decode cX7_dies 74 = .ok (.istore 4, 2) := by decide +kernel
theorem dX7_dies_76 : decode cX7_dies 76 = .ok (.aload_n 0, 1) := by decide +kernel
theorem dX7_dies_77 : decode cX7_dies 77 = .ok (.getfield 40, 3) := by decide +kernel
theorem dX7_dies_80 : decode cX7_dies 80 = .ok (.iload_n 2, 1) := by decide +kernel
theorem dX7_dies_81 : decode cX7_dies 81 = .ok (.iload_n 3, 1) := by decide +kernel
theorem dX7_dies_82 : decode cX7_dies 82 = .ok (.ifCond .eq 7, 3) := by decide +kernel
theorem dX7_dies_85 : decode cX7_dies 85 = .ok (.iconst 3, 1) := by decide +kernel
theorem dX7_dies_86 : decode cX7_dies 86 = .ok (.goto 13, 3) := by decide +kernel
theorem dX7_dies_89 : decode cX7_dies 89 = .ok (.iload 4, 2) := by decide +kernel
theorem dX7_dies_91 : decode cX7_dies 91 = .ok (.ifCond .eq 7, 3) := by decide +kernel
theorem dX7_dies_94 : decode cX7_dies 94 = .ok (.iconst 2, 1) := by decide +kernel
theorem dX7_dies_95 : decode cX7_dies 95 = .ok (.goto 4, 3) := by decide +kernel
theorem dX7_dies_98 : decode cX7_dies 98 = .ok (.iconst 0, 1) := by decide +kernel
theorem dX7_dies_99 : decode cX7_dies 99 = .ok (.iastore, 1) := by decide +kernel
theorem dX7_dies_100 : decode cX7_dies 100 = .ok (.iinc 2 1, 3) := by decide +kernel
theorem dX7_dies_103 : decode cX7_dies 103 = .ok (.goto (-101), 3) := by decide +kernel
theorem dX7_dies_106 : decode cX7_dies 106 = .ok (.return_, 1) := by decide +kernel
theorem dX7_passes_0 : decode cX7_passes 0 = .ok (.iload_n 1, 1) := by decide +kernel
theorem dX7_passes_1 : decode cX7_passes 1 = .ok (.bipush 7, 2) := by decide +kernel
theorem dX7_passes_3 : decode cX7_passes 3 = .ok (.irem, 1) := by decide +kernel
theorem dX7_passes_4 : decode cX7_passes 4 = .ok (.bipush 6, 2) := by decide +kernel
theorem dX7_passes_6 : decode cX7_passes 6 = .ok (.if_icmp .ne 7, 3) := by decide +kernel
theorem dX7_passes_9 : decode cX7_passes 9 = .ok (.aload_n 0, 1) := by decide +kernel
theorem dX7_passes_10 : decode cX7_passes 10 = .ok (.invokevirtual 199, 3) := by decide +kernel
theorem dX7_passes_13 : decode cX7_passes 13 = .ok (.iconst 0, 1) := by decide +kernel
theorem dX7_passes_14 : decode cX7_passes 14 = .ok (.istore_n 2, 1) := by decide +kernel
theorem dX7_passes_15 : decode cX7_passes 15 = .ok (.iload_n 2, 1) := by decide +kernel
theorem dX7_passes_16 : decode cX7_passes 16 = .ok (.aload_n 0, 1) := by decide +kernel
theorem dX7_passes_17 : decode cX7_passes 17 = .ok (.getfield 131, 3) := by decide +kernel
theorem dX7_passes_20 : decode cX7_passes 20 = .ok (.if_icmp .ge 46, 3) := by decide +kernel
theorem dX7_passes_23 : decode cX7_passes 23 = .ok (.aload_n 0, 1) := by decide +kernel
theorem dX7_passes_24 : decode cX7_passes 24 = .ok (.getfield 34, 3) := by decide +kernel
theorem dX7_passes_27 : decode cX7_passes 27 = .ok (.iconst 3, 1) := by decide +kernel
theorem dX7_passes_28 : decode cX7_passes 28 = .ok (.iload_n 2, 1) := by decide +kernel
theorem dX7_passes_29 : decode cX7_passes 29 = .ok (.imul, 1) := by decide +kernel
theorem dX7_passes_30 : decode cX7_passes 30 = .ok (.iaload, 1) := by decide +kernel
theorem dX7_passes_31 : decode cX7_passes 31 = .ok (.iload_n 1, 1) := by decide +kernel
theorem dX7_passes_32 : decode cX7_passes 32 = .ok (.if_icmp .ne 28, 3) := by decide +kernel
theorem dX7_passes_35 : decode cX7_passes 35 = .ok (.aload_n 0, 1) := by decide +kernel
theorem dX7_passes_36 : decode cX7_passes 36 = .ok (.iload_n 1, 1) := by decide +kernel
theorem dX7_passes_37 : decode cX7_passes 37 = .ok (.aload_n 0, 1) := by decide +kernel
theorem dX7_passes_38 : decode cX7_passes 38 = .ok (.getfield 34, 3) := by decide +kernel
theorem dX7_passes_41 : decode cX7_passes 41 = .ok (.iconst 3, 1) := by decide +kernel
theorem dX7_passes_42 : decode cX7_passes 42 = .ok (.iload_n 2, 1) := by decide +kernel
theorem dX7_passes_43 : decode cX7_passes 43 = .ok (.imul, 1) := by decide +kernel
theorem dX7_passes_44 : decode cX7_passes 44 = .ok (.iconst 1, 1) := by decide +kernel
theorem dX7_passes_45 : decode cX7_passes 45 = .ok (.iadd, 1) := by decide +kernel
theorem dX7_passes_46 : decode cX7_passes 46 = .ok (.iaload, 1) := by decide +kernel
theorem dX7_passes_47 : decode cX7_passes 47 = .ok (.aload_n 0, 1) := by decide +kernel
theorem dX7_passes_48 : decode cX7_passes 48 = .ok (.getfield 34, 3) := by decide +kernel
theorem dX7_passes_51 : decode cX7_passes 51 = .ok (.iconst 3, 1) := by decide +kernel
theorem dX7_passes_52 : decode cX7_passes 52 = .ok (.iload_n 2, 1) := by decide +kernel
theorem dX7_passes_53 : decode cX7_passes 53 = .ok (.imul, 1) := by decide +kernel
theorem dX7_passes_54 : decode cX7_passes 54 = .ok (.iconst 2, 1) := by decide +kernel
theorem dX7_passes_55 : decode cX7_passes 55 = .ok (.iadd, 1) := by decide +kernel
theorem dX7_passes_56 : decode cX7_passes 56 = .ok (.iaload, 1) := by decide +kernel
theorem dX7_passes_57 : decode cX7_passes 57 = .ok (.invokevirtual 202, 3) := by decide +kernel
theorem dX7_passes_60 : decode cX7_passes 60 = .ok (.iinc 2 1, 3) := by decide +kernel
theorem dX7_passes_63 : decode cX7_passes 63 = .ok (.goto (-48), 3) := by decide +kernel
theorem dX7_passes_66 : decode cX7_passes 66 = .ok (.aload_n 0, 1) := by decide +kernel
theorem dX7_passes_67 : decode cX7_passes 67 = .ok (.getfield 70, 3) := by decide +kernel
theorem dX7_passes_70 : decode cX7_passes 70 = .ok (.iload_n 1, 1) := by decide +kernel
theorem dX7_passes_71 : decode cX7_passes 71 = .ok (.if_icmp .ne 16, 3) := by decide +kernel
theorem dX7_passes_74 : decode cX7_passes 74 = .ok (.aload_n 0, 1) := by decide +kernel
theorem dX7_passes_75 : decode cX7_passes 75 = .ok (.iload_n 1, 1) := by decide +kernel
theorem dX7_passes_76 : decode cX7_passes 76 = .ok (.aload_n 0, 1) := by decide +kernel
theorem dX7_passes_77 : decode cX7_passes 77 = .ok (.getfield 205, 3) := by decide +kernel
theorem dX7_passes_80 : decode cX7_passes 80 = .ok (.aload_n 0, 1) := by decide +kernel
theorem dX7_passes_81 : decode cX7_passes 81 = .ok (.getfield 208, 3) := by decide +kernel
theorem dX7_passes_84 : decode cX7_passes 84 = .ok (.invokevirtual 202, 3) := by decide +kernel
theorem dX7_passes_87 : decode cX7_passes 87 = .ok (.aload_n 0, 1) := by decide +kernel
theorem dX7_passes_88 : decode cX7_passes 88 = .ok (.iload_n 1, 1) := by decide +kernel
theorem dX7_passes_89 : decode cX7_passes 89 = .ok (.invokevirtual 211, 3) := by decide +kernel
theorem dX7_passes_92 : decode cX7_passes 92 = .ok (.iconst 0, 1) := by decide +kernel
theorem dX7_passes_93 : decode cX7_passes 93 = .ok (.istore_n 2, 1) := by decide +kernel
theorem dX7_passes_94 : decode cX7_passes 94 = .ok (.iload_n 2, 1) := by decide +kernel
theorem dX7_passes_95 : decode cX7_passes 95 = .ok (.aload_n 0, 1) := by decide +kernel
theorem dX7_passes_96 : decode cX7_passes 96 = .ok (.getfield 125, 3) := by decide +kernel
theorem dX7_passes_99 : decode cX7_passes 99 = .ok (.if_icmp .ge 43, 3) := by decide +kernel
theorem dX7_passes_102 : decode cX7_passes 102 = .ok (.aload_n 0, 1) := by decide +kernel
theorem dX7_passes_103 : decode cX7_passes 103 = .ok (.getfield 52, 3) := by decide +kernel
theorem dX7_passes_106 : decode cX7_passes 106 = .ok (.bipush 12, 2) := by decide +kernel
theorem dX7_passes_108 : decode cX7_passes 108 = .ok (.iload_n 1, 1) := by decide +kernel
theorem dX7_passes_109 : decode cX7_passes 109 = .ok (.imul, 1) := by decide +kernel
theorem dX7_passes_110 : decode cX7_passes 110 = .ok (.iload_n 2, 1) := by decide +kernel
theorem dX7_passes_111 : decode cX7_passes 111 = .ok (.iadd, 1) := by decide +kernel
theorem dX7_passes_112 : decode cX7_passes 112 = .ok (.aload_n 0, 1) := by decide +kernel
theorem dX7_passes_113 : decode cX7_passes 113 = .ok (.getfield 40, 3) := by decide +kernel
theorem dX7_passes_116 : decode cX7_passes 116 = .ok (.iload_n 2, 1) := by decide +kernel
theorem dX7_passes_117 : decode cX7_passes 117 = .ok (.iaload, 1) := by decide +kernel
theorem dX7_passes_118 : decode cX7_passes 118 = .ok (.iastore, 1) := by decide +kernel
theorem dX7_passes_119 : decode cX7_passes 119 = .ok (.aload_n 0, 1) := by decide +kernel
theorem dX7_passes_120 : decode cX7_passes 120 = .ok (.getfield 55, 3) := by decide +kernel
theorem dX7_passes_123 : decode cX7_passes 123 = .ok (.bipush 12, 2) := by decide +kernel
theorem dX7_passes_125 : decode cX7_passes 125 = .ok (.iload_n 1, 1) := by decide +kernel
theorem dX7_passes_126 : decode cX7_passes 126 = .ok (.imul, 1) := by decide +kernel
theorem dX7_passes_127 : decode cX7_passes 127 = .ok (.iload_n 2, 1) := by decide +kernel
theorem dX7_passes_128 : decode cX7_passes 128 = .ok (.iadd, 1) := by decide +kernel
theorem dX7_passes_129 : decode cX7_passes 129 = .ok (.aload_n 0, 1) := by decide +kernel
theorem dX7_passes_130 : decode cX7_passes 130 = .ok (.getfield 43, 3) := by decide +kernel
theorem dX7_passes_133 : decode cX7_passes 133 = .ok (.iload_n 2, 1) := by decide +kernel
theorem dX7_passes_134 : decode cX7_passes 134 = .ok (.iaload, 1) := by decide +kernel
theorem dX7_passes_135 : decode cX7_passes 135 = .ok (.iastore, 1) := by decide +kernel
theorem dX7_passes_136 : decode cX7_passes 136 = .ok (.iinc 2 1, 3) := by decide +kernel
theorem dX7_passes_139 : decode cX7_passes 139 = .ok (.goto (-45), 3) := by decide +kernel
theorem dX7_passes_142 : decode cX7_passes 142 = .ok (.iconst 0, 1) := by decide +kernel
theorem dX7_passes_143 : decode cX7_passes 143 = .ok (.istore_n 2, 1) := by decide +kernel
theorem dX7_passes_144 : decode cX7_passes 144 = .ok (.iload_n 2, 1) := by decide +kernel
theorem dX7_passes_145 : decode cX7_passes 145 = .ok (.aload_n 0, 1) := by decide +kernel
theorem dX7_passes_146 : decode cX7_passes 146 = .ok (.getfield 116, 3) := by decide +kernel
theorem dX7_passes_149 : decode cX7_passes 149 = .ok (.if_icmp .ge 26, 3) := by decide +kernel
theorem dX7_passes_152 : decode cX7_passes 152 = .ok (.aload_n 0, 1) := by decide +kernel
theorem dX7_passes_153 : decode cX7_passes 153 = .ok (.getfield 58, 3) := by decide +kernel
theorem dX7_passes_156 : decode cX7_passes 156 = .ok (.bipush 8, 2) := by decide +kernel
theorem dX7_passes_158 : decode cX7_passes 158 = .ok (.iload_n 1, 1) := by decide +kernel
theorem dX7_passes_159 : decode cX7_passes 159 = .ok (.imul, 1) := by decide +kernel
theorem dX7_passes_160 : decode cX7_passes 160 = .ok (.iload_n 2, 1) := by decide +kernel
theorem dX7_passes_161 : decode cX7_passes 161 = .ok (.iadd, 1) := by decide +kernel
theorem dX7_passes_162 : decode cX7_passes 162 = .ok (.aload_n 0, 1) := by decide +kernel
theorem dX7_passes_163 : decode cX7_passes 163 = .ok (.getfield 46, 3) := by decide +kernel
theorem dX7_passes_166 : decode cX7_passes 166 = .ok (.iload_n 2, 1) := by decide +kernel
theorem dX7_passes_167 : decode cX7_passes 167 = .ok (.iaload, 1) := by decide +kernel
theorem dX7_passes_168 : decode cX7_passes 168 = .ok (.iastore, 1) := by decide +kernel
theorem dX7_passes_169 : decode cX7_passes 169 = .ok (.iinc 2 1, 3) := by decide +kernel
theorem dX7_passes_172 : decode cX7_passes 172 = .ok (.goto (-28), 3) := by decide +kernel
theorem dX7_passes_175 : decode cX7_passes 175 = .ok (.return_, 1) := by decide +kernel
theorem dX7_runs_0 : decode cX7_runs 0 = .ok (.iconst 0, 1) := by decide +kernel
theorem dX7_runs_1 : decode cX7_runs 1 = .ok (.istore_n 1, 1) := by decide +kernel
theorem dX7_runs_2 : decode cX7_runs 2 = .ok (.iload_n 1, 1) := by decide +kernel
theorem dX7_runs_3 : decode cX7_runs 3 = .ok (.aload_n 0, 1) := by decide +kernel
theorem dX7_runs_4 : decode cX7_runs 4 = .ok (.getfield 125, 3) := by decide +kernel
theorem dX7_runs_7 : decode cX7_runs 7 = .ok (.if_icmp .ge 99, 3) := by decide +kernel
theorem dX7_runs_10 : decode cX7_runs 10 = .ok (.aload_n 0, 1) := by decide +kernel
theorem dX7_runs_11 : decode cX7_runs 11 = .ok (.aload_n 0, 1) := by decide +kernel
theorem dX7_runs_12 : decode cX7_runs 12 = .ok (.getfield 31, 3) := by decide +kernel
theorem dX7_runs_15 : decode cX7_runs 15 = .ok (.iconst 3, 1) := by decide +kernel
theorem dX7_runs_16 : decode cX7_runs 16 = .ok (.iload_n 1, 1) := by decide +kernel
theorem dX7_runs_17 : decode cX7_runs 17 = .ok (.imul, 1) := by decide +kernel
theorem dX7_runs_18 : decode cX7_runs 18 = .ok (.iaload, 1) := by decide +kernel
theorem dX7_runs_19 : decode cX7_runs 19 = .ok (.invokevirtual 152, 3) := by decide +kernel
theorem dX7_runs_22 : decode cX7_runs 22 = .ok (.ifCond .eq 45, 3) := by decide +kernel
theorem dX7_runs_25 : decode cX7_runs 25 = .ok (.aload_n 0, 1) := by decide +kernel
theorem dX7_runs_26 : decode cX7_runs 26 = .ok (.aload_n 0, 1) := by decide +kernel
theorem dX7_runs_27 : decode cX7_runs 27 = .ok (.getfield 31, 3) := by decide +kernel
theorem dX7_runs_30 : decode cX7_runs 30 = .ok (.iconst 3, 1) := by decide +kernel
theorem dX7_runs_31 : decode cX7_runs 31 = .ok (.iload_n 1, 1) := by decide +kernel
theorem dX7_runs_32 : decode cX7_runs 32 = .ok (.imul, 1) := by decide +kernel
theorem dX7_runs_33 : decode cX7_runs 33 = .ok (.iconst 1, 1) := by decide +kernel
theorem dX7_runs_34 : decode cX7_runs 34 = .ok (.iadd, 1) := by decide +kernel
theorem dX7_runs_35 : decode cX7_runs 35 = .ok (.iaload, 1) := by decide +kernel
theorem dX7_runs_36 : decode cX7_runs 36 = .ok (.invokevirtual 152, 3) := by decide +kernel
theorem dX7_runs_39 : decode cX7_runs 39 = .ok (.ifCond .eq 28, 3) := by decide +kernel
theorem dX7_runs_42 : decode cX7_runs 42 = .ok (.aload_n 0, 1) := by decide +kernel
theorem dX7_runs_43 : decode cX7_runs 43 = .ok (.getfield 31, 3) := by decide +kernel
theorem dX7_runs_46 : decode cX7_runs 46 = .ok (.iconst 3, 1) := by decide +kernel
theorem dX7_runs_47 : decode cX7_runs 47 = .ok (.iload_n 1, 1) := by decide +kernel
theorem dX7_runs_48 : decode cX7_runs 48 = .ok (.imul, 1) := by decide +kernel
theorem dX7_runs_49 : decode cX7_runs 49 = .ok (.iaload, 1) := by decide +kernel
theorem dX7_runs_50 : decode cX7_runs 50 = .ok (.aload_n 0, 1) := by decide +kernel
theorem dX7_runs_51 : decode cX7_runs 51 = .ok (.getfield 31, 3) := by decide +kernel
theorem dX7_runs_54 : decode cX7_runs 54 = .ok (.iconst 3, 1) := by decide +kernel
theorem dX7_runs_55 : decode cX7_runs 55 = .ok (.iload_n 1, 1) := by decide +kernel
theorem dX7_runs_56 : decode cX7_runs 56 = .ok (.imul, 1) := by decide +kernel
theorem dX7_runs_57 : decode cX7_runs 57 = .ok (.iconst 1, 1) := by decide +kernel
theorem dX7_runs_58 : decode cX7_runs 58 = .ok (.iadd, 1) := by decide +kernel
theorem dX7_runs_59 : decode cX7_runs 59 = .ok (.iaload, 1) := by decide +kernel
theorem dX7_runs_60 : decode cX7_runs 60 = .ok (.if_icmp .eq 7, 3) := by decide +kernel
theorem dX7_runs_63 : decode cX7_runs 63 = .ok (.iconst 1, 1) := by decide +kernel
theorem dX7_runs_64 : decode cX7_runs 64 = .ok (.goto 4, 3) := by decide +kernel
theorem dX7_runs_67 : decode cX7_runs 67 = .ok (.iconst 0, 1) := by decide +kernel
theorem dX7_runs_68 : decode cX7_runs 68 = .ok (.istore_n 2, 1) := by decide +kernel
theorem dX7_runs_69 : decode cX7_runs 69 = .ok (.aload_n 0, 1) := by decide +kernel
theorem dX7_runs_70 : decode cX7_runs 70 = .ok (.getfield 40, 3) := by decide +kernel
theorem dX7_runs_73 : decode cX7_runs 73 = .ok (.iload_n 1, 1) := by decide +kernel
theorem dX7_runs_74 : decode cX7_runs 74 = .ok (.iload_n 2, 1) := by decide +kernel
theorem dX7_runs_75 : decode cX7_runs 75 = .ok (.ifCond .eq 7, 3) := by decide +kernel
theorem dX7_runs_78 : decode cX7_runs 78 = .ok (.iconst 0, 1) := by decide +kernel
theorem dX7_runs_79 : decode cX7_runs 79 = .ok (.goto 4, 3) := by decide +kernel
theorem dX7_runs_82 : decode cX7_runs 82 = .ok (.iconst 4, 1) := by decide +kernel
theorem dX7_runs_83 : decode cX7_runs 83 = .ok (.iastore, 1) := by decide +kernel
theorem dX7_runs_84 : decode cX7_runs 84 = .ok (.aload_n 0, 1) := by decide +kernel
theorem dX7_runs_85 : decode cX7_runs 85 = .ok (.getfield 43, 3) := by decide +kernel
theorem dX7_runs_88 : decode cX7_runs 88 = .ok (.iload_n 1, 1) := by decide +kernel
theorem dX7_runs_89 : decode cX7_runs 89 = .ok (.aload_n 0, 1) := by decide +kernel
theorem dX7_runs_90 : decode cX7_runs 90 = .ok (.getfield 31, 3) := by decide +kernel
theorem dX7_runs_93 : decode cX7_runs 93 = .ok (.iconst 3, 1) := by decide +kernel
theorem dX7_runs_94 : decode cX7_runs 94 = .ok (.iload_n 1, 1) := by decide +kernel
theorem dX7_runs_95 : decode cX7_runs 95 = .ok (.imul, 1) := by decide +kernel
theorem dX7_runs_96 : decode cX7_runs 96 = .ok (.iconst 2, 1) := by decide +kernel
theorem dX7_runs_97 : decode cX7_runs 97 = .ok (.iadd, 1) := by decide +kernel
theorem dX7_runs_98 : decode cX7_runs 98 = .ok (.iaload, 1) := by decide +kernel
theorem dX7_runs_99 : decode cX7_runs 99 = .ok (.iastore, 1) := by decide +kernel
theorem dX7_runs_100 : decode cX7_runs 100 = .ok (.iinc 1 1, 3) := by decide +kernel
theorem dX7_runs_103 : decode cX7_runs 103 = .ok (.goto (-101), 3) := by decide +kernel
theorem dX7_runs_106 : decode cX7_runs 106 = .ok (.iconst 0, 1) := by decide +kernel
theorem dX7_runs_107 : decode cX7_runs 107 = .ok (.istore_n 1, 1) := by decide +kernel
theorem dX7_runs_108 : decode cX7_runs 108 = .ok (.iload_n 1, 1) := by decide +kernel
theorem dX7_runs_109 : decode cX7_runs 109 = .ok (.bipush 8, 2) := by decide +kernel
theorem dX7_runs_111 : decode cX7_runs 111 = .ok (.if_icmp .ge 23, 3) := by decide +kernel
theorem dX7_runs_114 : decode cX7_runs 114 = .ok (.aload_n 0, 1) := by decide +kernel
theorem dX7_runs_115 : decode cX7_runs 115 = .ok (.getfield 46, 3) := by decide +kernel
theorem dX7_runs_118 : decode cX7_runs 118 = .ok (.iload_n 1, 1) := by decide +kernel
theorem dX7_runs_119 : decode cX7_runs 119 = .ok (.iconst 0, 1) := by decide +kernel
theorem dX7_runs_120 : decode cX7_runs 120 = .ok (.iastore, 1) := by decide +kernel
theorem dX7_runs_121 : decode cX7_runs 121 = .ok (.aload_n 0, 1) := by decide +kernel
theorem dX7_runs_122 : decode cX7_runs 122 = .ok (.getfield 49, 3) := by decide +kernel
theorem dX7_runs_125 : decode cX7_runs 125 = .ok (.iload_n 1, 1) := by decide +kernel
theorem dX7_runs_126 : decode cX7_runs 126 = .ok (.iconst 0, 1) := by decide +kernel
theorem dX7_runs_127 : decode cX7_runs 127 = .ok (.iastore, 1) := by decide +kernel
theorem dX7_runs_128 : decode cX7_runs 128 = .ok (.iinc 1 1, 3) := by decide +kernel
theorem dX7_runs_131 : decode cX7_runs 131 = .ok (.goto (-23), 3) := by decide +kernel
theorem dX7_runs_134 : decode cX7_runs 134 = .ok (.iconst 0, 1) := by decide +kernel
theorem dX7_runs_135 : decode cX7_runs 135 = .ok (.istore_n 1, 1) := by decide +kernel
theorem dX7_runs_136 : decode cX7_runs 136 = .ok (.iload_n 1, 1) := by decide +kernel
theorem dX7_runs_137 : decode cX7_runs 137 = .ok (.bipush 24, 2) := by decide +kernel
theorem dX7_runs_139 : decode cX7_runs 139 = .ok (.if_icmp .ge 14, 3) := by decide +kernel
theorem dX7_runs_142 : decode cX7_runs 142 = .ok (.aload_n 0, 1) := by decide +kernel
theorem dX7_runs_143 : decode cX7_runs 143 = .ok (.iload_n 1, 1) := by decide +kernel
theorem dX7_runs_144 : decode cX7_runs 144 = .ok (.invokevirtual 215, 3) := by decide +kernel
theorem dX7_runs_147 : decode cX7_runs 147 = .ok (.iinc 1 1, 3) := by decide +kernel
theorem dX7_runs_150 : decode cX7_runs 150 = .ok (.goto (-14), 3) := by decide +kernel
theorem dX7_runs_153 : decode cX7_runs 153 = .ok (.return_, 1) := by decide +kernel
theorem dX7_find_0 : decode cX7_find 0 = .ok (.aload_n 0, 1) := by decide +kernel
theorem dX7_find_1 : decode cX7_find 1 = .ok (.invokevirtual 137, 3) := by decide +kernel
theorem dX7_find_4 : decode cX7_find 4 = .ok (.pop, 1) := by decide +kernel
theorem dX7_find_5 : decode cX7_find 5 = .ok (.aload_n 0, 1) := by decide +kernel
theorem dX7_find_6 : decode cX7_find 6 = .ok (.invokevirtual 141, 3) := by decide +kernel
theorem dX7_find_9 : decode cX7_find 9 = .ok (.pop, 1) := by decide +kernel
theorem dX7_find_10 : decode cX7_find 10 = .ok (.aload_n 0, 1) := by decide +kernel
theorem dX7_find_11 : decode cX7_find 11 = .ok (.invokevirtual 144, 3) := by decide +kernel
theorem dX7_find_14 : decode cX7_find 14 = .ok (.pop, 1) := by decide +kernel
theorem dX7_find_15 : decode cX7_find 15 = .ok (.aload_n 0, 1) := by decide +kernel
theorem dX7_find_16 : decode cX7_find 16 = .ok (.invokevirtual 218, 3) := by decide +kernel
theorem dX7_find_19 : decode cX7_find 19 = .ok (.return_, 1) := by decide +kernel
theorem dX7_standsBy_0 : decode cX7_standsBy 0 = .ok (.iload_n 3, 1) := by decide +kernel
theorem dX7_standsBy_1 : decode cX7_standsBy 1 = .ok (.ifCond .ne 17, 3) := by decide +kernel
theorem dX7_standsBy_4 : decode cX7_standsBy 4 = .ok (.aload_n 0, 1) := by decide +kernel
theorem dX7_standsBy_5 : decode cX7_standsBy 5 = .ok (.getfield 52, 3) := by decide +kernel
theorem dX7_standsBy_8 : decode cX7_standsBy 8 = .ok (.bipush 12, 2) := by decide +kernel
theorem dX7_standsBy_10 : decode cX7_standsBy 10 = .ok (.iload_n 1, 1) := by decide +kernel
theorem dX7_standsBy_11 : decode cX7_standsBy 11 = .ok (.imul, 1) := by decide +kernel
theorem dX7_standsBy_12 : decode cX7_standsBy 12 = .ok (.iload_n 2, 1) := by decide +kernel
theorem dX7_standsBy_13 : decode cX7_standsBy 13 = .ok (.iadd, 1) := by decide +kernel
theorem dX7_standsBy_14 : decode cX7_standsBy 14 = .ok (.iaload, 1) := by decide +kernel
theorem dX7_standsBy_15 : decode cX7_standsBy 15 = .ok (.goto 14, 3) := by decide +kernel
theorem dX7_standsBy_18 : decode cX7_standsBy 18 = .ok (.aload_n 0, 1) := by decide +kernel
theorem dX7_standsBy_19 : decode cX7_standsBy 19 = .ok (.getfield 55, 3) := by decide +kernel
theorem dX7_standsBy_22 : decode cX7_standsBy 22 = .ok (.bipush 12, 2) := by decide +kernel
theorem dX7_standsBy_24 : decode cX7_standsBy 24 = .ok (.iload_n 1, 1) := by decide +kernel
theorem dX7_standsBy_25 : decode cX7_standsBy 25 = .ok (.imul, 1) := by decide +kernel
theorem dX7_standsBy_26 : decode cX7_standsBy 26 = .ok (.iload_n 2, 1) := by decide +kernel
theorem dX7_standsBy_27 : decode cX7_standsBy 27 = .ok (.iadd, 1) := by decide +kernel
theorem dX7_standsBy_28 : decode cX7_standsBy 28 = .ok (.iaload, 1) := by decide +kernel
theorem dX7_standsBy_29 : decode cX7_standsBy 29 = .ok (.ireturn, 1) := by decide +kernel
theorem dX7_stands_0 : decode cX7_stands 0 = .ok (.aload_n 0, 1) := by decide +kernel
theorem dX7_stands_1 : decode cX7_stands 1 = .ok (.invokevirtual 221, 3) := by decide +kernel
theorem dX7_stands_4 : decode cX7_stands 4 = .ok (.iload_n 1, 1) := by decide +kernel
theorem dX7_stands_5 : decode cX7_stands 5 = .ok (.invokestatic 166, 3) := by decide +kernel
theorem dX7_stands_8 : decode cX7_stands 8 = .ok (.ifCond .eq 28, 3) := by decide +kernel
theorem dX7_stands_11 : decode cX7_stands 11 = .ok (.aload_n 0, 1) := by decide +kernel
theorem dX7_stands_12 : decode cX7_stands 12 = .ok (.iload_n 2, 1) := by decide +kernel
theorem dX7_stands_13 : decode cX7_stands 13 = .ok (.invokevirtual 158, 3) := by decide +kernel
theorem dX7_stands_16 : decode cX7_stands 16 = .ok (.ifCond .eq 20, 3) := by decide +kernel
theorem dX7_stands_19 : decode cX7_stands 19 = .ok (.iload_n 3, 1) := by decide +kernel
theorem dX7_stands_20 : decode cX7_stands 20 = .ok (.invokestatic 155, 3) := by decide +kernel
theorem dX7_stands_23 : decode cX7_stands 23 = .ok (.ifCond .eq 13, 3) := by decide +kernel
theorem dX7_stands_26 : decode cX7_stands 26 = .ok (.aload_n 0, 1) := by decide +kernel
theorem dX7_stands_27 : decode cX7_stands 27 = .ok (.iload_n 1, 1) := by decide +kernel
theorem dX7_stands_28 : decode cX7_stands 28 = .ok (.iload_n 2, 1) := by decide +kernel
theorem dX7_stands_29 : decode cX7_stands 29 = .ok (.iload_n 3, 1) := by decide +kernel
theorem dX7_stands_30 : decode cX7_stands 30 = .ok (.invokevirtual 224, 3) := by decide +kernel
theorem dX7_stands_33 : decode cX7_stands 33 = .ok (.goto 5, 3) := by decide +kernel
theorem dX7_stands_36 : decode cX7_stands 36 = .ok (.bipush (-2), 2) := by decide +kernel
theorem dX7_stands_38 : decode cX7_stands 38 = .ok (.ireturn, 1) := by decide +kernel
theorem dX7_openOf_0 : decode cX7_openOf 0 = .ok (.iconst 0, 1) := by decide +kernel
theorem dX7_openOf_1 : decode cX7_openOf 1 = .ok (.istore 4, 2) := by decide +kernel
theorem dX7_openOf_3 : decode cX7_openOf 3 = .ok (.iconst 0, 1) := by decide +kernel
theorem dX7_openOf_4 : decode cX7_openOf 4 = .ok (.istore 5, 2) := by decide +kernel
theorem dX7_openOf_6 : decode cX7_openOf 6 = .ok (.iload 5, 2) := by decide +kernel
theorem dX7_openOf_8 : decode cX7_openOf 8 = .ok (.aload_n 0, 1) := by decide +kernel
theorem dX7_openOf_9 : decode cX7_openOf 9 = .ok (.getfield 125, 3) := by decide +kernel
theorem dX7_openOf_12 : decode cX7_openOf 12 = .ok (.if_icmp .ge 60, 3) := by decide +kernel
theorem dX7_openOf_15 : decode cX7_openOf 15 = .ok (.iload 4, 2) := by decide +kernel
theorem dX7_openOf_17 : decode cX7_openOf 17 = .ok (.aload_n 0, 1) := by decide +kernel
theorem dX7_openOf_18 : decode cX7_openOf 18 = .ok (.getfield 52, 3) := by decide +kernel
theorem dX7_openOf_21 : decode cX7_openOf 21 = .ok (.bipush 12, 2) := by decide +kernel
theorem dX7_openOf_23 : decode cX7_openOf 23 = .ok (.iload_n 1, 1) := by decide +kernel
theorem dX7_openOf_24 : decode cX7_openOf 24 = .ok (.imul, 1) := by decide +kernel
theorem dX7_openOf_25 : decode cX7_openOf 25 = .ok (.iload 5, 2) := by decide +kernel
theorem dX7_openOf_27 : decode cX7_openOf 27 = .ok (.iadd, 1) := by decide +kernel
theorem dX7_openOf_28 : decode cX7_openOf 28 = .ok (.iaload, 1) := by decide +kernel
theorem dX7_openOf_29 : decode cX7_openOf 29 = .ok (.ifCond .ne 33, 3) := by decide +kernel
theorem dX7_openOf_32 : decode cX7_openOf 32 = .ok (.aload_n 0, 1) := by decide +kernel
theorem dX7_openOf_33 : decode cX7_openOf 33 = .ok (.getfield 31, 3) := by decide +kernel
theorem dX7_openOf_36 : decode cX7_openOf 36 = .ok (.iconst 3, 1) := by decide +kernel
theorem dX7_openOf_37 : decode cX7_openOf 37 = .ok (.iload 5, 2) := by decide +kernel
theorem dX7_openOf_39 : decode cX7_openOf 39 = .ok (.imul, 1) := by decide +kernel
theorem dX7_openOf_40 : decode cX7_openOf 40 = .ok (.iload_n 3, 1) := by decide +kernel
theorem dX7_openOf_41 : decode cX7_openOf 41 = .ok (.iadd, 1) := by decide +kernel
theorem dX7_openOf_42 : decode cX7_openOf 42 = .ok (.iaload, 1) := by decide +kernel
theorem dX7_openOf_43 : decode cX7_openOf 43 = .ok (.iload_n 2, 1) := by decide +kernel
theorem dX7_openOf_44 : decode cX7_openOf 44 = .ok (.if_icmp .ne 18, 3) := by decide +kernel
theorem dX7_openOf_47 : decode cX7_openOf 47 = .ok (.aload_n 0, 1) := by decide +kernel
theorem dX7_openOf_48 : decode cX7_openOf 48 = .ok (.getfield 55, 3) := by decide +kernel
theorem dX7_openOf_51 : decode cX7_openOf 51 = .ok (.bipush 12, 2) := by decide +kernel
theorem dX7_openOf_53 : decode cX7_openOf 53 = .ok (.iload_n 1, 1) := by decide +kernel
theorem dX7_openOf_54 : decode cX7_openOf 54 = .ok (.imul, 1) := by decide +kernel
theorem dX7_openOf_55 : decode cX7_openOf 55 = .ok (.iload 5, 2) := by decide +kernel
theorem dX7_openOf_57 : decode cX7_openOf 57 = .ok (.iadd, 1) := by decide +kernel
theorem dX7_openOf_58 : decode cX7_openOf 58 = .ok (.iaload, 1) := by decide +kernel
theorem dX7_openOf_59 : decode cX7_openOf 59 = .ok (.goto 4, 3) := by decide +kernel
theorem dX7_openOf_62 : decode cX7_openOf 62 = .ok (.iconst 0, 1) := by decide +kernel
theorem dX7_openOf_63 : decode cX7_openOf 63 = .ok (.iadd, 1) := by decide +kernel
theorem dX7_openOf_64 : decode cX7_openOf 64 = .ok (.istore 4, 2) := by decide +kernel
theorem dX7_openOf_66 : decode cX7_openOf 66 = .ok (.iinc 5 1, 3) := by decide +kernel
theorem dX7_openOf_69 : decode cX7_openOf 69 = .ok (.goto (-63), 3) := by decide +kernel
theorem dX7_openOf_72 : decode cX7_openOf 72 = .ok (.iload 4, 2) := by decide +kernel
theorem dX7_openOf_74 : decode cX7_openOf 74 = .ok (.ireturn, 1) := by decide +kernel
theorem dX7_atOf_0 : decode cX7_atOf 0 = .ok (.iload_n 3, 1) := by decide +kernel
theorem dX7_atOf_1 : decode cX7_atOf 1 = .ok (.tableswitch 60 0 2 #[27, 44, 52], 27) := by decide +kernel
theorem dX7_atOf_28 : decode cX7_atOf 28 = .ok (.aload_n 0, 1) := by decide +kernel
theorem dX7_atOf_29 : decode cX7_atOf 29 = .ok (.iload_n 1, 1) := by decide +kernel
theorem dX7_atOf_30 : decode cX7_atOf 30 = .ok (.iconst 1, 1) := by decide +kernel
theorem dX7_atOf_31 : decode cX7_atOf 31 = .ok (.iadd, 1) := by decide +kernel
theorem dX7_atOf_32 : decode cX7_atOf 32 = .ok (.iload_n 2, 1) := by decide +kernel
theorem dX7_atOf_33 : decode cX7_atOf 33 = .ok (.invokevirtual 192, 3) := by decide +kernel
theorem dX7_atOf_36 : decode cX7_atOf 36 = .ok (.ifCond .eq 7, 3) := by decide +kernel
theorem dX7_atOf_39 : decode cX7_atOf 39 = .ok (.iconst 1, 1) := by decide +kernel
theorem dX7_atOf_40 : decode cX7_atOf 40 = .ok (.goto 4, 3) := by decide +kernel
theorem dX7_atOf_43 : decode cX7_atOf 43 = .ok (.iconst 0, 1) := by decide +kernel
theorem dX7_atOf_44 : decode cX7_atOf 44 = .ok (.ireturn, 1) := by decide +kernel
theorem dX7_atOf_45 : decode cX7_atOf 45 = .ok (.aload_n 0, 1) := by decide +kernel
theorem dX7_atOf_46 : decode cX7_atOf 46 = .ok (.iload_n 1, 1) := by decide +kernel
theorem dX7_atOf_47 : decode cX7_atOf 47 = .ok (.iload_n 2, 1) := by decide +kernel
theorem dX7_atOf_48 : decode cX7_atOf 48 = .ok (.iconst 1, 1) := by decide +kernel
theorem dX7_atOf_49 : decode cX7_atOf 49 = .ok (.invokevirtual 227, 3) := by decide +kernel
theorem dX7_atOf_52 : decode cX7_atOf 52 = .ok (.ireturn, 1) := by decide +kernel
theorem dX7_atOf_53 : decode cX7_atOf 53 = .ok (.aload_n 0, 1) := by decide +kernel
theorem dX7_atOf_54 : decode cX7_atOf 54 = .ok (.iload_n 1, 1) := by decide +kernel
theorem dX7_atOf_55 : decode cX7_atOf 55 = .ok (.iload_n 2, 1) := by decide +kernel
theorem dX7_atOf_56 : decode cX7_atOf 56 = .ok (.iconst 0, 1) := by decide +kernel
theorem dX7_atOf_57 : decode cX7_atOf 57 = .ok (.invokevirtual 227, 3) := by decide +kernel
theorem dX7_atOf_60 : decode cX7_atOf 60 = .ok (.ireturn, 1) := by decide +kernel
theorem dX7_atOf_61 : decode cX7_atOf 61 = .ok (.aload_n 0, 1) := by decide +kernel
theorem dX7_atOf_62 : decode cX7_atOf 62 = .ok (.getfield 58, 3) := by decide +kernel
theorem dX7_atOf_65 : decode cX7_atOf 65 = .ok (.bipush 8, 2) := by decide +kernel
theorem dX7_atOf_67 : decode cX7_atOf 67 = .ok (.iload_n 1, 1) := by decide +kernel
theorem dX7_atOf_68 : decode cX7_atOf 68 = .ok (.imul, 1) := by decide +kernel
theorem dX7_atOf_69 : decode cX7_atOf 69 = .ok (.iload_n 2, 1) := by decide +kernel
theorem dX7_atOf_70 : decode cX7_atOf 70 = .ok (.iadd, 1) := by decide +kernel
theorem dX7_atOf_71 : decode cX7_atOf 71 = .ok (.iaload, 1) := by decide +kernel
theorem dX7_atOf_72 : decode cX7_atOf 72 = .ok (.ireturn, 1) := by decide +kernel
theorem dX7_at_0 : decode cX7_at 0 = .ok (.aload_n 0, 1) := by decide +kernel
theorem dX7_at_1 : decode cX7_at 1 = .ok (.invokevirtual 221, 3) := by decide +kernel
theorem dX7_at_4 : decode cX7_at 4 = .ok (.iload_n 1, 1) := by decide +kernel
theorem dX7_at_5 : decode cX7_at 5 = .ok (.invokestatic 166, 3) := by decide +kernel
theorem dX7_at_8 : decode cX7_at 8 = .ok (.ifCond .eq 33, 3) := by decide +kernel
theorem dX7_at_11 : decode cX7_at 11 = .ok (.aload_n 0, 1) := by decide +kernel
theorem dX7_at_12 : decode cX7_at 12 = .ok (.iload_n 2, 1) := by decide +kernel
theorem dX7_at_13 : decode cX7_at 13 = .ok (.invokevirtual 152, 3) := by decide +kernel
theorem dX7_at_16 : decode cX7_at 16 = .ok (.ifCond .eq 25, 3) := by decide +kernel
theorem dX7_at_19 : decode cX7_at 19 = .ok (.iload_n 3, 1) := by decide +kernel
theorem dX7_at_20 : decode cX7_at 20 = .ok (.i2l, 1) := by decide +kernel
theorem dX7_at_21 : decode cX7_at 21 = .ok (.lconst 0, 1) := by decide +kernel
theorem dX7_at_22 : decode cX7_at 22 = .ok (.ldc2_w 83, 3) := by decide +kernel
theorem dX7_at_25 : decode cX7_at 25 = .ok (.invokestatic 76, 3) := by decide +kernel
theorem dX7_at_28 : decode cX7_at 28 = .ok (.ifCond .eq 13, 3) := by decide +kernel
theorem dX7_at_31 : decode cX7_at 31 = .ok (.aload_n 0, 1) := by decide +kernel
theorem dX7_at_32 : decode cX7_at 32 = .ok (.iload_n 1, 1) := by decide +kernel
theorem dX7_at_33 : decode cX7_at 33 = .ok (.iload_n 2, 1) := by decide +kernel
theorem dX7_at_34 : decode cX7_at 34 = .ok (.iload_n 3, 1) := by decide +kernel
theorem dX7_at_35 : decode cX7_at 35 = .ok (.invokevirtual 230, 3) := by decide +kernel
theorem dX7_at_38 : decode cX7_at 38 = .ok (.goto 5, 3) := by decide +kernel
theorem dX7_at_41 : decode cX7_at 41 = .ok (.bipush (-2), 2) := by decide +kernel
theorem dX7_at_43 : decode cX7_at 43 = .ok (.ireturn, 1) := by decide +kernel
theorem dX7_isLost_0 : decode cX7_isLost 0 = .ok (.iconst 0, 1) := by decide +kernel
theorem dX7_isLost_1 : decode cX7_isLost 1 = .ok (.istore_n 3, 1) := by decide +kernel
theorem dX7_isLost_2 : decode cX7_isLost 2 = .ok (.iconst 0, 1) := by decide +kernel
theorem dX7_isLost_3 : decode cX7_isLost 3 = .ok (.istore 4, 2) := by decide +kernel
theorem dX7_isLost_5 : decode cX7_isLost 5 = .ok (.iload 4, 2) := by decide +kernel
theorem dX7_isLost_7 : decode cX7_isLost 7 = .ok (.aload_n 0, 1) := by decide +kernel
theorem dX7_isLost_8 : decode cX7_isLost 8 = .ok (.getfield 125, 3) := by decide +kernel
theorem dX7_isLost_11 : decode cX7_isLost 11 = .ok (.if_icmp .ge 50, 3) := by decide +kernel
theorem dX7_isLost_14 : decode cX7_isLost 14 = .ok (.iload_n 3, 1) := by decide +kernel
theorem dX7_isLost_15 : decode cX7_isLost 15 = .ok (.ifCond .ne 34, 3) := by decide +kernel
theorem dX7_isLost_18 : decode cX7_isLost 18 = .ok (.aload_n 0, 1) := by decide +kernel
theorem dX7_isLost_19 : decode cX7_isLost 19 = .ok (.getfield 52, 3) := by decide +kernel
theorem dX7_isLost_22 : decode cX7_isLost 22 = .ok (.bipush 12, 2) := by decide +kernel
theorem dX7_isLost_24 : decode cX7_isLost 24 = .ok (.iload_n 1, 1) := by decide +kernel
theorem dX7_isLost_25 : decode cX7_isLost 25 = .ok (.imul, 1) := by decide +kernel
theorem dX7_isLost_26 : decode cX7_isLost 26 = .ok (.iload 4, 2) := by decide +kernel
theorem dX7_isLost_28 : decode cX7_isLost 28 = .ok (.iadd, 1) := by decide +kernel
theorem dX7_isLost_29 : decode cX7_isLost 29 = .ok (.iaload, 1) := by decide +kernel
theorem dX7_isLost_30 : decode cX7_isLost 30 = .ok (.iconst 3, 1) := by decide +kernel
theorem dX7_isLost_31 : decode cX7_isLost 31 = .ok (.if_icmp .ne 22, 3) := by decide +kernel
theorem dX7_isLost_34 : decode cX7_isLost 34 = .ok (.aload_n 0, 1) := by decide +kernel
theorem dX7_isLost_35 : decode cX7_isLost 35 = .ok (.getfield 31, 3) := by decide +kernel
theorem dX7_isLost_38 : decode cX7_isLost 38 = .ok (.iconst 3, 1) := by decide +kernel
theorem dX7_isLost_39 : decode cX7_isLost 39 = .ok (.iload 4, 2) := by decide +kernel
theorem dX7_isLost_41 : decode cX7_isLost 41 = .ok (.imul, 1) := by decide +kernel
theorem dX7_isLost_42 : decode cX7_isLost 42 = .ok (.iconst 1, 1) := by decide +kernel
theorem dX7_isLost_43 : decode cX7_isLost 43 = .ok (.iadd, 1) := by decide +kernel
theorem dX7_isLost_44 : decode cX7_isLost 44 = .ok (.iaload, 1) := by decide +kernel
theorem dX7_isLost_45 : decode cX7_isLost 45 = .ok (.iload_n 2, 1) := by decide +kernel
theorem dX7_isLost_46 : decode cX7_isLost 46 = .ok (.if_icmp .ne 7, 3) := by decide +kernel
theorem dX7_isLost_49 : decode cX7_isLost 49 = .ok (.iconst 1, 1) := by decide +kernel
theorem dX7_isLost_50 : decode cX7_isLost 50 = .ok (.goto 4, 3) := by decide +kernel
theorem dX7_isLost_53 : decode cX7_isLost 53 = .ok (.iconst 0, 1) := by decide +kernel
theorem dX7_isLost_54 : decode cX7_isLost 54 = .ok (.istore_n 3, 1) := by decide +kernel
theorem dX7_isLost_55 : decode cX7_isLost 55 = .ok (.iinc 4 1, 3) := by decide +kernel
theorem dX7_isLost_58 : decode cX7_isLost 58 = .ok (.goto (-53), 3) := by decide +kernel
theorem dX7_isLost_61 : decode cX7_isLost 61 = .ok (.iload_n 3, 1) := by decide +kernel
theorem dX7_isLost_62 : decode cX7_isLost 62 = .ok (.ireturn, 1) := by decide +kernel
theorem dX7_clearOf_0 : decode cX7_clearOf 0 = .ok (.iconst (-1), 1) := by decide +kernel
theorem dX7_clearOf_1 : decode cX7_clearOf 1 = .ok (.istore_n 2, 1) := by decide +kernel
theorem dX7_clearOf_2 : decode cX7_clearOf 2 = .ok (.bipush 23, 2) := by decide +kernel
theorem dX7_clearOf_4 : decode cX7_clearOf 4 = .ok (.istore_n 3, 1) := by decide +kernel
theorem dX7_clearOf_5 : decode cX7_clearOf 5 = .ok (.iload_n 3, 1) := by decide +kernel
theorem dX7_clearOf_6 : decode cX7_clearOf 6 = .ok (.ifCond .lt 34, 3) := by decide +kernel
theorem dX7_clearOf_9 : decode cX7_clearOf 9 = .ok (.aload_n 0, 1) := by decide +kernel
theorem dX7_clearOf_10 : decode cX7_clearOf 10 = .ok (.iload_n 3, 1) := by decide +kernel
theorem dX7_clearOf_11 : decode cX7_clearOf 11 = .ok (.iload_n 1, 1) := by decide +kernel
theorem dX7_clearOf_12 : decode cX7_clearOf 12 = .ok (.iconst 1, 1) := by decide +kernel
theorem dX7_clearOf_13 : decode cX7_clearOf 13 = .ok (.invokevirtual 227, 3) := by decide +kernel
theorem dX7_clearOf_16 : decode cX7_clearOf 16 = .ok (.ifCond .ne 16, 3) := by decide +kernel
theorem dX7_clearOf_19 : decode cX7_clearOf 19 = .ok (.aload_n 0, 1) := by decide +kernel
theorem dX7_clearOf_20 : decode cX7_clearOf 20 = .ok (.iload_n 3, 1) := by decide +kernel
theorem dX7_clearOf_21 : decode cX7_clearOf 21 = .ok (.iload_n 1, 1) := by decide +kernel
theorem dX7_clearOf_22 : decode cX7_clearOf 22 = .ok (.invokevirtual 233, 3) := by decide +kernel
theorem dX7_clearOf_25 : decode cX7_clearOf 25 = .ok (.ifCond .ne 7, 3) := by decide +kernel
theorem dX7_clearOf_28 : decode cX7_clearOf 28 = .ok (.iload_n 3, 1) := by decide +kernel
theorem dX7_clearOf_29 : decode cX7_clearOf 29 = .ok (.goto 4, 3) := by decide +kernel
theorem dX7_clearOf_32 : decode cX7_clearOf 32 = .ok (.iload_n 2, 1) := by decide +kernel
theorem dX7_clearOf_33 : decode cX7_clearOf 33 = .ok (.istore_n 2, 1) := by decide +kernel
theorem dX7_clearOf_34 : decode cX7_clearOf 34 = .ok (.iinc 3 (-1), 3) := by decide +kernel
theorem dX7_clearOf_37 : decode cX7_clearOf 37 = .ok (.goto (-32), 3) := by decide +kernel
theorem dX7_clearOf_40 : decode cX7_clearOf 40 = .ok (.iload_n 2, 1) := by decide +kernel
theorem dX7_clearOf_41 : decode cX7_clearOf 41 = .ok (.ireturn, 1) := by decide +kernel
theorem dX7_clear_0 : decode cX7_clear 0 = .ok (.aload_n 0, 1) := by decide +kernel
theorem dX7_clear_1 : decode cX7_clear 1 = .ok (.invokevirtual 221, 3) := by decide +kernel
theorem dX7_clear_4 : decode cX7_clear 4 = .ok (.aload_n 0, 1) := by decide +kernel
theorem dX7_clear_5 : decode cX7_clear 5 = .ok (.iload_n 1, 1) := by decide +kernel
theorem dX7_clear_6 : decode cX7_clear 6 = .ok (.invokevirtual 152, 3) := by decide +kernel
theorem dX7_clear_9 : decode cX7_clear 9 = .ok (.ifCond .eq 11, 3) := by decide +kernel
theorem dX7_clear_12 : decode cX7_clear 12 = .ok (.aload_n 0, 1) := by decide +kernel
theorem dX7_clear_13 : decode cX7_clear 13 = .ok (.iload_n 1, 1) := by decide +kernel
theorem dX7_clear_14 : decode cX7_clear 14 = .ok (.invokevirtual 236, 3) := by decide +kernel
theorem dX7_clear_17 : decode cX7_clear 17 = .ok (.goto 5, 3) := by decide +kernel
theorem dX7_clear_20 : decode cX7_clear 20 = .ok (.bipush (-2), 2) := by decide +kernel
theorem dX7_clear_22 : decode cX7_clear 22 = .ok (.ireturn, 1) := by decide +kernel
theorem dX7_bankOf_0 : decode cX7_bankOf 0 = .ok (.iconst (-1), 1) := by decide +kernel
theorem dX7_bankOf_1 : decode cX7_bankOf 1 = .ok (.istore_n 2, 1) := by decide +kernel
theorem dX7_bankOf_2 : decode cX7_bankOf 2 = .ok (.iconst 0, 1) := by decide +kernel
theorem dX7_bankOf_3 : decode cX7_bankOf 3 = .ok (.istore_n 3, 1) := by decide +kernel
theorem dX7_bankOf_4 : decode cX7_bankOf 4 = .ok (.iconst 0, 1) := by decide +kernel
theorem dX7_bankOf_5 : decode cX7_bankOf 5 = .ok (.istore 4, 2) := by decide +kernel
theorem dX7_bankOf_7 : decode cX7_bankOf 7 = .ok (.iload 4, 2) := by decide +kernel
theorem dX7_bankOf_9 : decode cX7_bankOf 9 = .ok (.aload_n 0, 1) := by decide +kernel
theorem dX7_bankOf_10 : decode cX7_bankOf 10 = .ok (.getfield 116, 3) := by decide +kernel
theorem dX7_bankOf_13 : decode cX7_bankOf 13 = .ok (.if_icmp .ge 39, 3) := by decide +kernel
theorem dX7_bankOf_16 : decode cX7_bankOf 16 = .ok (.aload_n 0, 1) := by decide +kernel
theorem dX7_bankOf_17 : decode cX7_bankOf 17 = .ok (.iload_n 1, 1) := by decide +kernel
theorem dX7_bankOf_18 : decode cX7_bankOf 18 = .ok (.iload 4, 2) := by decide +kernel
theorem dX7_bankOf_20 : decode cX7_bankOf 20 = .ok (.iconst 0, 1) := by decide +kernel
theorem dX7_bankOf_21 : decode cX7_bankOf 21 = .ok (.invokevirtual 227, 3) := by decide +kernel
theorem dX7_bankOf_24 : decode cX7_bankOf 24 = .ok (.istore 5, 2) := by decide +kernel
theorem dX7_bankOf_26 : decode cX7_bankOf 26 = .ok (.iload 5, 2) := by decide +kernel
theorem dX7_bankOf_28 : decode cX7_bankOf 28 = .ok (.iload_n 3, 1) := by decide +kernel
theorem dX7_bankOf_29 : decode cX7_bankOf 29 = .ok (.if_icmp .le 8, 3) := by decide +kernel
theorem dX7_bankOf_32 : decode cX7_bankOf 32 = .ok (.iload 4, 2) := by decide +kernel
theorem dX7_bankOf_34 : decode cX7_bankOf 34 = .ok (.goto 4, 3) := by decide +kernel
theorem dX7_bankOf_37 : decode cX7_bankOf 37 = .ok (.iload_n 2, 1) := by decide +kernel
theorem dX7_bankOf_38 : decode cX7_bankOf 38 = .ok (.istore_n 2, 1) := by decide +kernel
theorem dX7_bankOf_39 : decode cX7_bankOf 39 = .ok (.iload 5, 2) := by decide +kernel
theorem dX7_bankOf_41 : decode cX7_bankOf 41 = .ok (.iload_n 3, 1) := by decide +kernel
theorem dX7_bankOf_42 : decode cX7_bankOf 42 = .ok (.invokestatic 189, 3) := by decide +kernel
theorem dX7_bankOf_45 : decode cX7_bankOf 45 = .ok (.istore_n 3, 1) := by decide +kernel
theorem dX7_bankOf_46 : decode cX7_bankOf 46 = .ok (.iinc 4 1, 3) := by decide +kernel
theorem dX7_bankOf_49 : decode cX7_bankOf 49 = .ok (.goto (-42), 3) := by decide +kernel
theorem dX7_bankOf_52 : decode cX7_bankOf 52 = .ok (.iload_n 2, 1) := by decide +kernel
theorem dX7_bankOf_53 : decode cX7_bankOf 53 = .ok (.ireturn, 1) := by decide +kernel
theorem dX7_bank_0 : decode cX7_bank 0 = .ok (.aload_n 0, 1) := by decide +kernel
theorem dX7_bank_1 : decode cX7_bank 1 = .ok (.invokevirtual 221, 3) := by decide +kernel
theorem dX7_bank_4 : decode cX7_bank 4 = .ok (.iload_n 1, 1) := by decide +kernel
theorem dX7_bank_5 : decode cX7_bank 5 = .ok (.invokestatic 166, 3) := by decide +kernel
theorem dX7_bank_8 : decode cX7_bank 8 = .ok (.ifCond .eq 11, 3) := by decide +kernel
theorem dX7_bank_11 : decode cX7_bank 11 = .ok (.aload_n 0, 1) := by decide +kernel
theorem dX7_bank_12 : decode cX7_bank 12 = .ok (.iload_n 1, 1) := by decide +kernel
theorem dX7_bank_13 : decode cX7_bank 13 = .ok (.invokevirtual 239, 3) := by decide +kernel
theorem dX7_bank_16 : decode cX7_bank 16 = .ok (.goto 5, 3) := by decide +kernel
theorem dX7_bank_19 : decode cX7_bank 19 = .ok (.bipush (-2), 2) := by decide +kernel
theorem dX7_bank_21 : decode cX7_bank 21 = .ok (.ireturn, 1) := by decide +kernel
theorem dX7_debts_0 : decode cX7_debts 0 = .ok (.iconst 0, 1) := by decide +kernel
theorem dX7_debts_1 : decode cX7_debts 1 = .ok (.istore_n 2, 1) := by decide +kernel
theorem dX7_debts_2 : decode cX7_debts 2 = .ok (.iload_n 2, 1) := by decide +kernel
theorem dX7_debts_3 : decode cX7_debts 3 = .ok (.bipush 8, 2) := by decide +kernel
theorem dX7_debts_5 : decode cX7_debts 5 = .ok (.if_icmp .ge 16, 3) := by decide +kernel
theorem dX7_debts_8 : decode cX7_debts 8 = .ok (.aload_n 0, 1) := by decide +kernel
theorem dX7_debts_9 : decode cX7_debts 9 = .ok (.getfield 61, 3) := by decide +kernel
theorem dX7_debts_12 : decode cX7_debts 12 = .ok (.iload_n 2, 1) := by decide +kernel
theorem dX7_debts_13 : decode cX7_debts 13 = .ok (.iconst 0, 1) := by decide +kernel
theorem dX7_debts_14 : decode cX7_debts 14 = .ok (.iastore, 1) := by decide +kernel
theorem dX7_debts_15 : decode cX7_debts 15 = .ok (.iinc 2 1, 3) := by decide +kernel
theorem dX7_debts_18 : decode cX7_debts 18 = .ok (.goto (-16), 3) := by decide +kernel
theorem dX7_debts_21 : decode cX7_debts 21 = .ok (.iconst 0, 1) := by decide +kernel
theorem dX7_debts_22 : decode cX7_debts 22 = .ok (.istore_n 2, 1) := by decide +kernel
theorem dX7_debts_23 : decode cX7_debts 23 = .ok (.iload_n 2, 1) := by decide +kernel
theorem dX7_debts_24 : decode cX7_debts 24 = .ok (.aload_n 0, 1) := by decide +kernel
theorem dX7_debts_25 : decode cX7_debts 25 = .ok (.getfield 125, 3) := by decide +kernel
theorem dX7_debts_28 : decode cX7_debts 28 = .ok (.if_icmp .ge 51, 3) := by decide +kernel
theorem dX7_debts_31 : decode cX7_debts 31 = .ok (.aload_n 0, 1) := by decide +kernel
theorem dX7_debts_32 : decode cX7_debts 32 = .ok (.getfield 52, 3) := by decide +kernel
theorem dX7_debts_35 : decode cX7_debts 35 = .ok (.bipush 12, 2) := by decide +kernel
theorem dX7_debts_37 : decode cX7_debts 37 = .ok (.iload_n 1, 1) := by decide +kernel
theorem dX7_debts_38 : decode cX7_debts 38 = .ok (.imul, 1) := by decide +kernel
theorem dX7_debts_39 : decode cX7_debts 39 = .ok (.iload_n 2, 1) := by decide +kernel
theorem dX7_debts_40 : decode cX7_debts 40 = .ok (.iadd, 1) := by decide +kernel
theorem dX7_debts_41 : decode cX7_debts 41 = .ok (.iaload, 1) := by decide +kernel
theorem dX7_debts_42 : decode cX7_debts 42 = .ok (.ifCond .ne 31, 3) := by decide +kernel
theorem dX7_debts_45 : decode cX7_debts 45 = .ok (.aload_n 0, 1) := by decide +kernel
theorem dX7_debts_46 : decode cX7_debts 46 = .ok (.getfield 61, 3) := by decide +kernel
theorem dX7_debts_49 : decode cX7_debts 49 = .ok (.aload_n 0, 1) := by decide +kernel
theorem dX7_debts_50 : decode cX7_debts 50 = .ok (.getfield 31, 3) := by decide +kernel
theorem dX7_debts_53 : decode cX7_debts 53 = .ok (.iconst 3, 1) := by decide +kernel
theorem dX7_debts_54 : decode cX7_debts 54 = .ok (.iload_n 2, 1) := by decide +kernel
theorem dX7_debts_55 : decode cX7_debts 55 = .ok (.imul, 1) := by decide +kernel
theorem dX7_debts_56 : decode cX7_debts 56 = .ok (.iconst 1, 1) := by decide +kernel
theorem dX7_debts_57 : decode cX7_debts 57 = .ok (.iadd, 1) := by decide +kernel
theorem dX7_debts_58 : decode cX7_debts 58 = .ok (.iaload, 1) := by decide +kernel
theorem dX7_debts_59 : decode cX7_debts 59 = .ok (.dup2, 1) := by decide +kernel
theorem dX7_debts_60 : decode cX7_debts 60 = .ok (.iaload, 1) := by decide +kernel
theorem dX7_debts_61 : decode cX7_debts 61 = .ok (.iconst 1, 1) := by decide +kernel
theorem dX7_debts_62 : decode cX7_debts 62 = .ok (.aload_n 0, 1) := by decide +kernel
theorem dX7_debts_63 : decode cX7_debts 63 = .ok (.getfield 31, 3) := by decide +kernel
theorem dX7_debts_66 : decode cX7_debts 66 = .ok (.iconst 3, 1) := by decide +kernel
theorem dX7_debts_67 : decode cX7_debts 67 = .ok (.iload_n 2, 1) := by decide +kernel
theorem dX7_debts_68 : decode cX7_debts 68 = .ok (.imul, 1) := by decide +kernel
theorem dX7_debts_69 : decode cX7_debts 69 = .ok (.iaload, 1) := by decide +kernel
theorem dX7_debts_70 : decode cX7_debts 70 = .ok (.ishl, 1) := by decide +kernel
theorem dX7_debts_71 : decode cX7_debts 71 = .ok (.ior, 1) := by decide +kernel
theorem dX7_debts_72 : decode cX7_debts 72 = .ok (.iastore, 1) := by decide +kernel
theorem dX7_debts_73 : decode cX7_debts 73 = .ok (.iinc 2 1, 3) := by decide +kernel
theorem dX7_debts_76 : decode cX7_debts 76 = .ok (.goto (-53), 3) := by decide +kernel
theorem dX7_debts_79 : decode cX7_debts 79 = .ok (.return_, 1) := by decide +kernel
theorem dX7_ringWith_0 : decode cX7_ringWith 0 = .ok (.aload_n 0, 1) := by decide +kernel
theorem dX7_ringWith_1 : decode cX7_ringWith 1 = .ok (.getfield 61, 3) := by decide +kernel
theorem dX7_ringWith_4 : decode cX7_ringWith 4 = .ok (.iload_n 1, 1) := by decide +kernel
theorem dX7_ringWith_5 : decode cX7_ringWith 5 = .ok (.iaload, 1) := by decide +kernel
theorem dX7_ringWith_6 : decode cX7_ringWith 6 = .ok (.istore_n 2, 1) := by decide +kernel
theorem dX7_ringWith_7 : decode cX7_ringWith 7 = .ok (.iconst 1, 1) := by decide +kernel
theorem dX7_ringWith_8 : decode cX7_ringWith 8 = .ok (.istore_n 3, 1) := by decide +kernel
theorem dX7_ringWith_9 : decode cX7_ringWith 9 = .ok (.iload_n 2, 1) := by decide +kernel
theorem dX7_ringWith_10 : decode cX7_ringWith 10 = .ok (.iload_n 1, 1) := by decide +kernel
theorem dX7_ringWith_11 : decode cX7_ringWith 11 = .ok (.invokestatic 179, 3) := by decide +kernel
theorem dX7_ringWith_14 : decode cX7_ringWith 14 = .ok (.ifCond .ne 62, 3) := by decide +kernel
theorem dX7_ringWith_17 : decode cX7_ringWith 17 = .ok (.iload_n 3, 1) := by decide +kernel
theorem dX7_ringWith_18 : decode cX7_ringWith 18 = .ok (.bipush 9, 2) := by decide +kernel
theorem dX7_ringWith_20 : decode cX7_ringWith 20 = .ok (.if_icmp .ge 56, 3) := by decide +kernel
theorem dX7_ringWith_23 : decode cX7_ringWith 23 = .ok (.iload_n 2, 1) := by decide +kernel
theorem dX7_ringWith_24 : decode cX7_ringWith 24 = .ok (.istore 4, 2) := by decide +kernel
theorem dX7_ringWith_26 : decode cX7_ringWith 26 = .ok (.iconst 0, 1) := by decide +kernel
theorem dX7_ringWith_27 : decode cX7_ringWith 27 = .ok (.istore 5, 2) := by decide +kernel
theorem dX7_ringWith_29 : decode cX7_ringWith 29 = .ok (.iload 5, 2) := by decide +kernel
theorem dX7_ringWith_31 : decode cX7_ringWith 31 = .ok (.bipush 8, 2) := by decide +kernel
theorem dX7_ringWith_33 : decode cX7_ringWith 33 = .ok (.if_icmp .ge 34, 3) := by decide +kernel
theorem dX7_ringWith_36 : decode cX7_ringWith 36 = .ok (.iload 4, 2) := by decide +kernel
theorem dX7_ringWith_38 : decode cX7_ringWith 38 = .ok (.iload_n 2, 1) := by decide +kernel
theorem dX7_ringWith_39 : decode cX7_ringWith 39 = .ok (.iload 5, 2) := by decide +kernel
theorem dX7_ringWith_41 : decode cX7_ringWith 41 = .ok (.invokestatic 179, 3) := by decide +kernel
theorem dX7_ringWith_44 : decode cX7_ringWith 44 = .ok (.ifCond .eq 13, 3) := by decide +kernel
theorem dX7_ringWith_47 : decode cX7_ringWith 47 = .ok (.aload_n 0, 1) := by decide +kernel
theorem dX7_ringWith_48 : decode cX7_ringWith 48 = .ok (.getfield 61, 3) := by decide +kernel
theorem dX7_ringWith_51 : decode cX7_ringWith 51 = .ok (.iload 5, 2) := by decide +kernel
theorem dX7_ringWith_53 : decode cX7_ringWith 53 = .ok (.iaload, 1) := by decide +kernel
theorem dX7_ringWith_54 : decode cX7_ringWith 54 = .ok (.goto 4, 3) := by decide +kernel
theorem dX7_ringWith_57 : decode cX7_ringWith 57 = .ok (.iconst 0, 1) := by decide +kernel
theorem dX7_ringWith_58 : decode cX7_ringWith 58 = .ok (.ior, 1) := by decide +kernel
theorem dX7_ringWith_59 : decode cX7_ringWith 59 = .ok (.istore 4, 2) := by decide +kernel
theorem dX7_ringWith_61 : decode cX7_ringWith 61 = .ok (.iinc 5 1, 3) := by decide +kernel
theorem dX7_ringWith_64 : decode cX7_ringWith 64 = .ok (.goto (-35), 3) := by decide +kernel
theorem dX7_ringWith_67 : decode cX7_ringWith 67 = .ok (.iload 4, 2) := by decide +kernel
theorem dX7_ringWith_69 : decode cX7_ringWith 69 = .ok (.istore_n 2, 1) := by decide +kernel
theorem dX7_ringWith_70 : decode cX7_ringWith 70 = .ok (.iinc 3 1, 3) := by decide +kernel
theorem dX7_ringWith_73 : decode cX7_ringWith 73 = .ok (.goto (-64), 3) := by decide +kernel
theorem dX7_ringWith_76 : decode cX7_ringWith 76 = .ok (.iload_n 3, 1) := by decide +kernel
theorem dX7_ringWith_77 : decode cX7_ringWith 77 = .ok (.ireturn, 1) := by decide +kernel
theorem dX7_ringOf_0 : decode cX7_ringOf 0 = .ok (.aload_n 0, 1) := by decide +kernel
theorem dX7_ringOf_1 : decode cX7_ringOf 1 = .ok (.iload_n 1, 1) := by decide +kernel
theorem dX7_ringOf_2 : decode cX7_ringOf 2 = .ok (.invokevirtual 242, 3) := by decide +kernel
theorem dX7_ringOf_5 : decode cX7_ringOf 5 = .ok (.iconst (-1), 1) := by decide +kernel
theorem dX7_ringOf_6 : decode cX7_ringOf 6 = .ok (.istore_n 3, 1) := by decide +kernel
theorem dX7_ringOf_7 : decode cX7_ringOf 7 = .ok (.bipush 9, 2) := by decide +kernel
theorem dX7_ringOf_9 : decode cX7_ringOf 9 = .ok (.istore 4, 2) := by decide +kernel
theorem dX7_ringOf_11 : decode cX7_ringOf 11 = .ok (.iconst 0, 1) := by decide +kernel
theorem dX7_ringOf_12 : decode cX7_ringOf 12 = .ok (.istore 5, 2) := by decide +kernel
theorem dX7_ringOf_14 : decode cX7_ringOf 14 = .ok (.iload 5, 2) := by decide +kernel
theorem dX7_ringOf_16 : decode cX7_ringOf 16 = .ok (.aload_n 0, 1) := by decide +kernel
theorem dX7_ringOf_17 : decode cX7_ringOf 17 = .ok (.getfield 116, 3) := by decide +kernel
theorem dX7_ringOf_20 : decode cX7_ringOf 20 = .ok (.if_icmp .ge 40, 3) := by decide +kernel
theorem dX7_ringOf_23 : decode cX7_ringOf 23 = .ok (.aload_n 0, 1) := by decide +kernel
theorem dX7_ringOf_24 : decode cX7_ringOf 24 = .ok (.iload 5, 2) := by decide +kernel
theorem dX7_ringOf_26 : decode cX7_ringOf 26 = .ok (.invokevirtual 245, 3) := by decide +kernel
theorem dX7_ringOf_29 : decode cX7_ringOf 29 = .ok (.istore 6, 2) := by decide +kernel
theorem dX7_ringOf_31 : decode cX7_ringOf 31 = .ok (.iload 6, 2) := by decide +kernel
theorem dX7_ringOf_33 : decode cX7_ringOf 33 = .ok (.iload 4, 2) := by decide +kernel
theorem dX7_ringOf_35 : decode cX7_ringOf 35 = .ok (.if_icmp .ge 8, 3) := by decide +kernel
theorem dX7_ringOf_38 : decode cX7_ringOf 38 = .ok (.iload 5, 2) := by decide +kernel
theorem dX7_ringOf_40 : decode cX7_ringOf 40 = .ok (.goto 4, 3) := by decide +kernel
theorem dX7_ringOf_43 : decode cX7_ringOf 43 = .ok (.iload_n 3, 1) := by decide +kernel
theorem dX7_ringOf_44 : decode cX7_ringOf 44 = .ok (.istore_n 3, 1) := by decide +kernel
theorem dX7_ringOf_45 : decode cX7_ringOf 45 = .ok (.iload 6, 2) := by decide +kernel
theorem dX7_ringOf_47 : decode cX7_ringOf 47 = .ok (.iload 4, 2) := by decide +kernel
theorem dX7_ringOf_49 : decode cX7_ringOf 49 = .ok (.invokestatic 183, 3) := by decide +kernel
theorem dX7_ringOf_52 : decode cX7_ringOf 52 = .ok (.istore 4, 2) := by decide +kernel
theorem dX7_ringOf_54 : decode cX7_ringOf 54 = .ok (.iinc 5 1, 3) := by decide +kernel
theorem dX7_ringOf_57 : decode cX7_ringOf 57 = .ok (.goto (-43), 3) := by decide +kernel
theorem dX7_ringOf_60 : decode cX7_ringOf 60 = .ok (.iload_n 3, 1) := by decide +kernel
theorem dX7_ringOf_61 : decode cX7_ringOf 61 = .ok (.iconst (-1), 1) := by decide +kernel
theorem dX7_ringOf_62 : decode cX7_ringOf 62 = .ok (.if_icmp .ne 7, 3) := by decide +kernel
theorem dX7_ringOf_65 : decode cX7_ringOf 65 = .ok (.iconst (-1), 1) := by decide +kernel
theorem dX7_ringOf_66 : decode cX7_ringOf 66 = .ok (.goto 13, 3) := by decide +kernel
theorem dX7_ringOf_69 : decode cX7_ringOf 69 = .ok (.iload_n 2, 1) := by decide +kernel
theorem dX7_ringOf_70 : decode cX7_ringOf 70 = .ok (.ifCond .ne 8, 3) := by decide +kernel
theorem dX7_ringOf_73 : decode cX7_ringOf 73 = .ok (.iload 4, 2) := by decide +kernel
theorem dX7_ringOf_75 : decode cX7_ringOf 75 = .ok (.goto 4, 3) := by decide +kernel
theorem dX7_ringOf_78 : decode cX7_ringOf 78 = .ok (.iload_n 3, 1) := by decide +kernel
theorem dX7_ringOf_79 : decode cX7_ringOf 79 = .ok (.ireturn, 1) := by decide +kernel
theorem dX7_ring_0 : decode cX7_ring 0 = .ok (.aload_n 0, 1) := by decide +kernel
theorem dX7_ring_1 : decode cX7_ring 1 = .ok (.invokevirtual 221, 3) := by decide +kernel
theorem dX7_ring_4 : decode cX7_ring 4 = .ok (.iload_n 1, 1) := by decide +kernel
theorem dX7_ring_5 : decode cX7_ring 5 = .ok (.invokestatic 166, 3) := by decide +kernel
theorem dX7_ring_8 : decode cX7_ring 8 = .ok (.ifCond .eq 19, 3) := by decide +kernel
theorem dX7_ring_11 : decode cX7_ring 11 = .ok (.iload_n 2, 1) := by decide +kernel
theorem dX7_ring_12 : decode cX7_ring 12 = .ok (.invokestatic 155, 3) := by decide +kernel
theorem dX7_ring_15 : decode cX7_ring 15 = .ok (.ifCond .eq 12, 3) := by decide +kernel
theorem dX7_ring_18 : decode cX7_ring 18 = .ok (.aload_n 0, 1) := by decide +kernel
theorem dX7_ring_19 : decode cX7_ring 19 = .ok (.iload_n 1, 1) := by decide +kernel
theorem dX7_ring_20 : decode cX7_ring 20 = .ok (.iload_n 2, 1) := by decide +kernel
theorem dX7_ring_21 : decode cX7_ring 21 = .ok (.invokevirtual 248, 3) := by decide +kernel
theorem dX7_ring_24 : decode cX7_ring 24 = .ok (.goto 5, 3) := by decide +kernel
theorem dX7_ring_27 : decode cX7_ring 27 = .ok (.bipush (-2), 2) := by decide +kernel
theorem dX7_ring_29 : decode cX7_ring 29 = .ok (.ireturn, 1) := by decide +kernel
theorem dX7_silentNow_0 : decode cX7_silentNow 0 = .ok (.iconst 0, 1) := by decide +kernel
theorem dX7_silentNow_1 : decode cX7_silentNow 1 = .ok (.istore_n 1, 1) := by decide +kernel
theorem dX7_silentNow_2 : decode cX7_silentNow 2 = .ok (.iconst 0, 1) := by decide +kernel
theorem dX7_silentNow_3 : decode cX7_silentNow 3 = .ok (.istore_n 2, 1) := by decide +kernel
theorem dX7_silentNow_4 : decode cX7_silentNow 4 = .ok (.iload_n 2, 1) := by decide +kernel
theorem dX7_silentNow_5 : decode cX7_silentNow 5 = .ok (.aload_n 0, 1) := by decide +kernel
theorem dX7_silentNow_6 : decode cX7_silentNow 6 = .ok (.getfield 116, 3) := by decide +kernel
theorem dX7_silentNow_9 : decode cX7_silentNow 9 = .ok (.if_icmp .ge 28, 3) := by decide +kernel
theorem dX7_silentNow_12 : decode cX7_silentNow 12 = .ok (.iload_n 1, 1) := by decide +kernel
theorem dX7_silentNow_13 : decode cX7_silentNow 13 = .ok (.aload_n 0, 1) := by decide +kernel
theorem dX7_silentNow_14 : decode cX7_silentNow 14 = .ok (.getfield 46, 3) := by decide +kernel
theorem dX7_silentNow_17 : decode cX7_silentNow 17 = .ok (.iload_n 2, 1) := by decide +kernel
theorem dX7_silentNow_18 : decode cX7_silentNow 18 = .ok (.iaload, 1) := by decide +kernel
theorem dX7_silentNow_19 : decode cX7_silentNow 19 = .ok (.ifCond .ne 9, 3) := by decide +kernel
theorem dX7_silentNow_22 : decode cX7_silentNow 22 = .ok (.iconst 1, 1) := by decide +kernel
theorem dX7_silentNow_23 : decode cX7_silentNow 23 = .ok (.iload_n 2, 1) := by decide +kernel
theorem dX7_silentNow_24 : decode cX7_silentNow 24 = .ok (.ishl, 1) := by decide +kernel
theorem dX7_silentNow_25 : decode cX7_silentNow 25 = .ok (.goto 4, 3) := by decide +kernel
theorem dX7_silentNow_28 : decode cX7_silentNow 28 = .ok (.iconst 0, 1) := by decide +kernel
theorem dX7_silentNow_29 : decode cX7_silentNow 29 = .ok (.ior, 1) := by decide +kernel
theorem dX7_silentNow_30 : decode cX7_silentNow 30 = .ok (.istore_n 1, 1) := by decide +kernel
theorem dX7_silentNow_31 : decode cX7_silentNow 31 = .ok (.iinc 2 1, 3) := by decide +kernel
theorem dX7_silentNow_34 : decode cX7_silentNow 34 = .ok (.goto (-30), 3) := by decide +kernel
theorem dX7_silentNow_37 : decode cX7_silentNow 37 = .ok (.iload_n 1, 1) := by decide +kernel
theorem dX7_silentNow_38 : decode cX7_silentNow 38 = .ok (.ireturn, 1) := by decide +kernel
theorem dX7_silent_0 : decode cX7_silent 0 = .ok (.aload_n 0, 1) := by decide +kernel
theorem dX7_silent_1 : decode cX7_silent 1 = .ok (.invokevirtual 221, 3) := by decide +kernel
theorem dX7_silent_4 : decode cX7_silent 4 = .ok (.aload_n 0, 1) := by decide +kernel
theorem dX7_silent_5 : decode cX7_silent 5 = .ok (.invokevirtual 251, 3) := by decide +kernel
theorem dX7_silent_8 : decode cX7_silent 8 = .ok (.ireturn, 1) := by decide +kernel
theorem dX7_many_0 : decode cX7_many 0 = .ok (.iconst 0, 1) := by decide +kernel
theorem dX7_many_1 : decode cX7_many 1 = .ok (.istore_n 2, 1) := by decide +kernel
theorem dX7_many_2 : decode cX7_many 2 = .ok (.iconst 0, 1) := by decide +kernel
theorem dX7_many_3 : decode cX7_many 3 = .ok (.istore_n 3, 1) := by decide +kernel
theorem dX7_many_4 : decode cX7_many 4 = .ok (.iload_n 3, 1) := by decide +kernel
theorem dX7_many_5 : decode cX7_many 5 = .ok (.aload_n 0, 1) := by decide +kernel
theorem dX7_many_6 : decode cX7_many 6 = .ok (.getfield 125, 3) := by decide +kernel
theorem dX7_many_9 : decode cX7_many 9 = .ok (.if_icmp .ge 27, 3) := by decide +kernel
theorem dX7_many_12 : decode cX7_many 12 = .ok (.iload_n 2, 1) := by decide +kernel
theorem dX7_many_13 : decode cX7_many 13 = .ok (.aload_n 0, 1) := by decide +kernel
theorem dX7_many_14 : decode cX7_many 14 = .ok (.getfield 40, 3) := by decide +kernel
theorem dX7_many_17 : decode cX7_many 17 = .ok (.iload_n 3, 1) := by decide +kernel
theorem dX7_many_18 : decode cX7_many 18 = .ok (.iaload, 1) := by decide +kernel
theorem dX7_many_19 : decode cX7_many 19 = .ok (.iload_n 1, 1) := by decide +kernel
theorem dX7_many_20 : decode cX7_many 20 = .ok (.if_icmp .ne 7, 3) := by decide +kernel
theorem dX7_many_23 : decode cX7_many 23 = .ok (.iconst 1, 1) := by decide +kernel
theorem dX7_many_24 : decode cX7_many 24 = .ok (.goto 4, 3) := by decide +kernel
theorem dX7_many_27 : decode cX7_many 27 = .ok (.iconst 0, 1) := by decide +kernel
theorem dX7_many_28 : decode cX7_many 28 = .ok (.iadd, 1) := by decide +kernel
theorem dX7_many_29 : decode cX7_many 29 = .ok (.istore_n 2, 1) := by decide +kernel
theorem dX7_many_30 : decode cX7_many 30 = .ok (.iinc 3 1, 3) := by decide +kernel
theorem dX7_many_33 : decode cX7_many 33 = .ok (.goto (-29), 3) := by decide +kernel
theorem dX7_many_36 : decode cX7_many 36 = .ok (.iload_n 2, 1) := by decide +kernel
theorem dX7_many_37 : decode cX7_many 37 = .ok (.ireturn, 1) := by decide +kernel
theorem dX7_owedYet_0 : decode cX7_owedYet 0 = .ok (.iconst 0, 1) := by decide +kernel
theorem dX7_owedYet_1 : decode cX7_owedYet 1 = .ok (.istore_n 1, 1) := by decide +kernel
theorem dX7_owedYet_2 : decode cX7_owedYet 2 = .ok (.iconst 0, 1) := by decide +kernel
theorem dX7_owedYet_3 : decode cX7_owedYet 3 = .ok (.istore_n 2, 1) := by decide +kernel
theorem dX7_owedYet_4 : decode cX7_owedYet 4 = .ok (.iload_n 2, 1) := by decide +kernel
theorem dX7_owedYet_5 : decode cX7_owedYet 5 = .ok (.aload_n 0, 1) := by decide +kernel
theorem dX7_owedYet_6 : decode cX7_owedYet 6 = .ok (.getfield 125, 3) := by decide +kernel
theorem dX7_owedYet_9 : decode cX7_owedYet 9 = .ok (.if_icmp .ge 41, 3) := by decide +kernel
theorem dX7_owedYet_12 : decode cX7_owedYet 12 = .ok (.iload_n 1, 1) := by decide +kernel
theorem dX7_owedYet_13 : decode cX7_owedYet 13 = .ok (.aload_n 0, 1) := by decide +kernel
theorem dX7_owedYet_14 : decode cX7_owedYet 14 = .ok (.getfield 40, 3) := by decide +kernel
theorem dX7_owedYet_17 : decode cX7_owedYet 17 = .ok (.iload_n 2, 1) := by decide +kernel
theorem dX7_owedYet_18 : decode cX7_owedYet 18 = .ok (.iaload, 1) := by decide +kernel
theorem dX7_owedYet_19 : decode cX7_owedYet 19 = .ok (.ifCond .eq 13, 3) := by decide +kernel
theorem dX7_owedYet_22 : decode cX7_owedYet 22 = .ok (.aload_n 0, 1) := by decide +kernel
theorem dX7_owedYet_23 : decode cX7_owedYet 23 = .ok (.getfield 40, 3) := by decide +kernel
theorem dX7_owedYet_26 : decode cX7_owedYet 26 = .ok (.iload_n 2, 1) := by decide +kernel
theorem dX7_owedYet_27 : decode cX7_owedYet 27 = .ok (.iaload, 1) := by decide +kernel
theorem dX7_owedYet_28 : decode cX7_owedYet 28 = .ok (.iconst 3, 1) := by decide +kernel
theorem dX7_owedYet_29 : decode cX7_owedYet 29 = .ok (.if_icmp .ne 12, 3) := by decide +kernel
theorem dX7_owedYet_32 : decode cX7_owedYet 32 = .ok (.aload_n 0, 1) := by decide +kernel
theorem dX7_owedYet_33 : decode cX7_owedYet 33 = .ok (.getfield 43, 3) := by decide +kernel
theorem dX7_owedYet_36 : decode cX7_owedYet 36 = .ok (.iload_n 2, 1) := by decide +kernel
theorem dX7_owedYet_37 : decode cX7_owedYet 37 = .ok (.iaload, 1) := by decide +kernel
theorem dX7_owedYet_38 : decode cX7_owedYet 38 = .ok (.goto 4, 3) := by decide +kernel
theorem dX7_owedYet_41 : decode cX7_owedYet 41 = .ok (.iconst 0, 1) := by decide +kernel
theorem dX7_owedYet_42 : decode cX7_owedYet 42 = .ok (.iadd, 1) := by decide +kernel
theorem dX7_owedYet_43 : decode cX7_owedYet 43 = .ok (.istore_n 1, 1) := by decide +kernel
theorem dX7_owedYet_44 : decode cX7_owedYet 44 = .ok (.iinc 2 1, 3) := by decide +kernel
theorem dX7_owedYet_47 : decode cX7_owedYet 47 = .ok (.goto (-43), 3) := by decide +kernel
theorem dX7_owedYet_50 : decode cX7_owedYet 50 = .ok (.iload_n 1, 1) := by decide +kernel
theorem dX7_owedYet_51 : decode cX7_owedYet 51 = .ok (.ireturn, 1) := by decide +kernel
theorem dX7_meetOf_0 : decode cX7_meetOf 0 = .ok (.iconst (-1), 1) := by decide +kernel
theorem dX7_meetOf_1 : decode cX7_meetOf 1 = .ok (.istore_n 3, 1) := by decide +kernel
theorem dX7_meetOf_2 : decode cX7_meetOf 2 = .ok (.sipush 999, 3) := by decide +kernel
theorem dX7_meetOf_5 : decode cX7_meetOf 5 = .ok (.istore 4, 2) := by decide +kernel
theorem dX7_meetOf_7 : decode cX7_meetOf 7 = .ok (.aload_n 0, 1) := by decide +kernel
theorem dX7_meetOf_8 : decode cX7_meetOf 8 = .ok (.iload_n 1, 1) := by decide +kernel
theorem dX7_meetOf_9 : decode cX7_meetOf 9 = .ok (.putfield 70, 3) := by decide +kernel
theorem dX7_meetOf_12 : decode cX7_meetOf 12 = .ok (.iconst 0, 1) := by decide +kernel
theorem dX7_meetOf_13 : decode cX7_meetOf 13 = .ok (.istore 5, 2) := by decide +kernel
theorem dX7_meetOf_15 : decode cX7_meetOf 15 = .ok (.iload 5, 2) := by decide +kernel
theorem dX7_meetOf_17 : decode cX7_meetOf 17 = .ok (.bipush 64, 2) := by decide +kernel
theorem dX7_meetOf_19 : decode cX7_meetOf 19 = .ok (.if_icmp .ge 82, 3) := by decide +kernel
theorem dX7_meetOf_22 : decode cX7_meetOf 22 = .ok (.aload_n 0, 1) := by decide +kernel
theorem dX7_meetOf_23 : decode cX7_meetOf 23 = .ok (.iload 5, 2) := by decide +kernel
theorem dX7_meetOf_25 : decode cX7_meetOf 25 = .ok (.bipush 8, 2) := by decide +kernel
theorem dX7_meetOf_27 : decode cX7_meetOf 27 = .ok (.idiv, 1) := by decide +kernel
theorem dX7_meetOf_28 : decode cX7_meetOf 28 = .ok (.putfield 205, 3) := by decide +kernel
theorem dX7_meetOf_31 : decode cX7_meetOf 31 = .ok (.aload_n 0, 1) := by decide +kernel
theorem dX7_meetOf_32 : decode cX7_meetOf 32 = .ok (.iload 5, 2) := by decide +kernel
theorem dX7_meetOf_34 : decode cX7_meetOf 34 = .ok (.bipush 8, 2) := by decide +kernel
theorem dX7_meetOf_36 : decode cX7_meetOf 36 = .ok (.irem, 1) := by decide +kernel
theorem dX7_meetOf_37 : decode cX7_meetOf 37 = .ok (.putfield 208, 3) := by decide +kernel
theorem dX7_meetOf_40 : decode cX7_meetOf 40 = .ok (.aload_n 0, 1) := by decide +kernel
theorem dX7_meetOf_41 : decode cX7_meetOf 41 = .ok (.getfield 205, 3) := by decide +kernel
theorem dX7_meetOf_44 : decode cX7_meetOf 44 = .ok (.aload_n 0, 1) := by decide +kernel
theorem dX7_meetOf_45 : decode cX7_meetOf 45 = .ok (.getfield 208, 3) := by decide +kernel
theorem dX7_meetOf_48 : decode cX7_meetOf 48 = .ok (.if_icmp .ge 47, 3) := by decide +kernel
theorem dX7_meetOf_51 : decode cX7_meetOf 51 = .ok (.aload_n 0, 1) := by decide +kernel
theorem dX7_meetOf_52 : decode cX7_meetOf 52 = .ok (.aload_n 0, 1) := by decide +kernel
theorem dX7_meetOf_53 : decode cX7_meetOf 53 = .ok (.getfield 208, 3) := by decide +kernel
theorem dX7_meetOf_56 : decode cX7_meetOf 56 = .ok (.invokevirtual 152, 3) := by decide +kernel
theorem dX7_meetOf_59 : decode cX7_meetOf 59 = .ok (.ifCond .eq 36, 3) := by decide +kernel
theorem dX7_meetOf_62 : decode cX7_meetOf 62 = .ok (.aload_n 0, 1) := by decide +kernel
theorem dX7_meetOf_63 : decode cX7_meetOf 63 = .ok (.invokevirtual 218, 3) := by decide +kernel
theorem dX7_meetOf_66 : decode cX7_meetOf 66 = .ok (.aload_n 0, 1) := by decide +kernel
theorem dX7_meetOf_67 : decode cX7_meetOf 67 = .ok (.invokevirtual 254, 3) := by decide +kernel
theorem dX7_meetOf_70 : decode cX7_meetOf 70 = .ok (.istore 6, 2) := by decide +kernel
theorem dX7_meetOf_72 : decode cX7_meetOf 72 = .ok (.iload 6, 2) := by decide +kernel
theorem dX7_meetOf_74 : decode cX7_meetOf 74 = .ok (.iload 4, 2) := by decide +kernel
theorem dX7_meetOf_76 : decode cX7_meetOf 76 = .ok (.if_icmp .ge 8, 3) := by decide +kernel
theorem dX7_meetOf_79 : decode cX7_meetOf 79 = .ok (.iload 5, 2) := by decide +kernel
theorem dX7_meetOf_81 : decode cX7_meetOf 81 = .ok (.goto 4, 3) := by decide +kernel
theorem dX7_meetOf_84 : decode cX7_meetOf 84 = .ok (.iload_n 3, 1) := by decide +kernel
theorem dX7_meetOf_85 : decode cX7_meetOf 85 = .ok (.istore_n 3, 1) := by decide +kernel
theorem dX7_meetOf_86 : decode cX7_meetOf 86 = .ok (.iload 6, 2) := by decide +kernel
theorem dX7_meetOf_88 : decode cX7_meetOf 88 = .ok (.iload 4, 2) := by decide +kernel
theorem dX7_meetOf_90 : decode cX7_meetOf 90 = .ok (.invokestatic 183, 3) := by decide +kernel
theorem dX7_meetOf_93 : decode cX7_meetOf 93 = .ok (.istore 4, 2) := by decide +kernel
theorem dX7_meetOf_95 : decode cX7_meetOf 95 = .ok (.iinc 5 1, 3) := by decide +kernel
theorem dX7_meetOf_98 : decode cX7_meetOf 98 = .ok (.goto (-83), 3) := by decide +kernel
theorem dX7_meetOf_101 : decode cX7_meetOf 101 = .ok (.aload_n 0, 1) := by decide +kernel
theorem dX7_meetOf_102 : decode cX7_meetOf 102 = .ok (.iconst (-1), 1) := by decide +kernel
theorem dX7_meetOf_103 : decode cX7_meetOf 103 = .ok (.putfield 70, 3) := by decide +kernel
theorem dX7_meetOf_106 : decode cX7_meetOf 106 = .ok (.iload_n 3, 1) := by decide +kernel
theorem dX7_meetOf_107 : decode cX7_meetOf 107 = .ok (.iconst (-1), 1) := by decide +kernel
theorem dX7_meetOf_108 : decode cX7_meetOf 108 = .ok (.if_icmp .ne 7, 3) := by decide +kernel
theorem dX7_meetOf_111 : decode cX7_meetOf 111 = .ok (.iconst (-1), 1) := by decide +kernel
theorem dX7_meetOf_112 : decode cX7_meetOf 112 = .ok (.goto 28, 3) := by decide +kernel
theorem dX7_meetOf_115 : decode cX7_meetOf 115 = .ok (.iload_n 2, 1) := by decide +kernel
theorem dX7_meetOf_116 : decode cX7_meetOf 116 = .ok (.ifCond .ne 10, 3) := by decide +kernel
theorem dX7_meetOf_119 : decode cX7_meetOf 119 = .ok (.iload_n 3, 1) := by decide +kernel
theorem dX7_meetOf_120 : decode cX7_meetOf 120 = .ok (.bipush 8, 2) := by decide +kernel
theorem dX7_meetOf_122 : decode cX7_meetOf 122 = .ok (.idiv, 1) := by decide +kernel
theorem dX7_meetOf_123 : decode cX7_meetOf 123 = .ok (.goto 17, 3) := by decide +kernel
theorem dX7_meetOf_126 : decode cX7_meetOf 126 = .ok (.iload_n 2, 1) := by decide +kernel
theorem dX7_meetOf_127 : decode cX7_meetOf 127 = .ok (.iconst 1, 1) := by decide +kernel
theorem dX7_meetOf_128 : decode cX7_meetOf 128 = .ok (.if_icmp .ne 10, 3) := by decide +kernel
theorem dX7_meetOf_131 : decode cX7_meetOf 131 = .ok (.iload_n 3, 1) := by decide +kernel
theorem dX7_meetOf_132 : decode cX7_meetOf 132 = .ok (.bipush 8, 2) := by decide +kernel
theorem dX7_meetOf_134 : decode cX7_meetOf 134 = .ok (.irem, 1) := by decide +kernel
theorem dX7_meetOf_135 : decode cX7_meetOf 135 = .ok (.goto 5, 3) := by decide +kernel
theorem dX7_meetOf_138 : decode cX7_meetOf 138 = .ok (.iload 4, 2) := by decide +kernel
theorem dX7_meetOf_140 : decode cX7_meetOf 140 = .ok (.ireturn, 1) := by decide +kernel
theorem dX7_meet_0 : decode cX7_meet 0 = .ok (.aload_n 0, 1) := by decide +kernel
theorem dX7_meet_1 : decode cX7_meet 1 = .ok (.invokevirtual 221, 3) := by decide +kernel
theorem dX7_meet_4 : decode cX7_meet 4 = .ok (.iload_n 1, 1) := by decide +kernel
theorem dX7_meet_5 : decode cX7_meet 5 = .ok (.invokestatic 166, 3) := by decide +kernel
theorem dX7_meet_8 : decode cX7_meet 8 = .ok (.ifCond .eq 24, 3) := by decide +kernel
theorem dX7_meet_11 : decode cX7_meet 11 = .ok (.iload_n 2, 1) := by decide +kernel
theorem dX7_meet_12 : decode cX7_meet 12 = .ok (.i2l, 1) := by decide +kernel
theorem dX7_meet_13 : decode cX7_meet 13 = .ok (.lconst 0, 1) := by decide +kernel
theorem dX7_meet_14 : decode cX7_meet 14 = .ok (.ldc2_w 89, 3) := by decide +kernel
theorem dX7_meet_17 : decode cX7_meet 17 = .ok (.invokestatic 76, 3) := by decide +kernel
theorem dX7_meet_20 : decode cX7_meet 20 = .ok (.ifCond .eq 12, 3) := by decide +kernel
theorem dX7_meet_23 : decode cX7_meet 23 = .ok (.aload_n 0, 1) := by decide +kernel
theorem dX7_meet_24 : decode cX7_meet 24 = .ok (.iload_n 1, 1) := by decide +kernel
theorem dX7_meet_25 : decode cX7_meet 25 = .ok (.iload_n 2, 1) := by decide +kernel
theorem dX7_meet_26 : decode cX7_meet 26 = .ok (.invokevirtual 257, 3) := by decide +kernel
theorem dX7_meet_29 : decode cX7_meet 29 = .ok (.goto 5, 3) := by decide +kernel
theorem dX7_meet_32 : decode cX7_meet 32 = .ok (.bipush (-2), 2) := by decide +kernel
theorem dX7_meet_34 : decode cX7_meet 34 = .ok (.ireturn, 1) := by decide +kernel
theorem dX7_liveOf_0 : decode cX7_liveOf 0 = .ok (.aload_n 0, 1) := by decide +kernel
theorem dX7_liveOf_1 : decode cX7_liveOf 1 = .ok (.getfield 28, 3) := by decide +kernel
theorem dX7_liveOf_4 : decode cX7_liveOf 4 = .ok (.iconst 2, 1) := by decide +kernel
theorem dX7_liveOf_5 : decode cX7_liveOf 5 = .ok (.iload_n 1, 1) := by decide +kernel
theorem dX7_liveOf_6 : decode cX7_liveOf 6 = .ok (.imul, 1) := by decide +kernel
theorem dX7_liveOf_7 : decode cX7_liveOf 7 = .ok (.iconst 1, 1) := by decide +kernel
theorem dX7_liveOf_8 : decode cX7_liveOf 8 = .ok (.iadd, 1) := by decide +kernel
theorem dX7_liveOf_9 : decode cX7_liveOf 9 = .ok (.iaload, 1) := by decide +kernel
theorem dX7_liveOf_10 : decode cX7_liveOf 10 = .ok (.istore_n 2, 1) := by decide +kernel
theorem dX7_liveOf_11 : decode cX7_liveOf 11 = .ok (.iconst (-1), 1) := by decide +kernel
theorem dX7_liveOf_12 : decode cX7_liveOf 12 = .ok (.istore_n 3, 1) := by decide +kernel
theorem dX7_liveOf_13 : decode cX7_liveOf 13 = .ok (.bipush 23, 2) := by decide +kernel
theorem dX7_liveOf_15 : decode cX7_liveOf 15 = .ok (.istore 4, 2) := by decide +kernel
theorem dX7_liveOf_17 : decode cX7_liveOf 17 = .ok (.iload 4, 2) := by decide +kernel
theorem dX7_liveOf_19 : decode cX7_liveOf 19 = .ok (.ifCond .lt 42, 3) := by decide +kernel
theorem dX7_liveOf_22 : decode cX7_liveOf 22 = .ok (.aload_n 0, 1) := by decide +kernel
theorem dX7_liveOf_23 : decode cX7_liveOf 23 = .ok (.getfield 28, 3) := by decide +kernel
theorem dX7_liveOf_26 : decode cX7_liveOf 26 = .ok (.iconst 2, 1) := by decide +kernel
theorem dX7_liveOf_27 : decode cX7_liveOf 27 = .ok (.iload_n 1, 1) := by decide +kernel
theorem dX7_liveOf_28 : decode cX7_liveOf 28 = .ok (.imul, 1) := by decide +kernel
theorem dX7_liveOf_29 : decode cX7_liveOf 29 = .ok (.iconst 1, 1) := by decide +kernel
theorem dX7_liveOf_30 : decode cX7_liveOf 30 = .ok (.iadd, 1) := by decide +kernel
theorem dX7_liveOf_31 : decode cX7_liveOf 31 = .ok (.iload 4, 2) := by decide +kernel
theorem dX7_liveOf_33 : decode cX7_liveOf 33 = .ok (.iastore, 1) := by decide +kernel
theorem dX7_liveOf_34 : decode cX7_liveOf 34 = .ok (.aload_n 0, 1) := by decide +kernel
theorem dX7_liveOf_35 : decode cX7_liveOf 35 = .ok (.invokevirtual 218, 3) := by decide +kernel
theorem dX7_liveOf_38 : decode cX7_liveOf 38 = .ok (.aload_n 0, 1) := by decide +kernel
theorem dX7_liveOf_39 : decode cX7_liveOf 39 = .ok (.bipush 23, 2) := by decide +kernel
theorem dX7_liveOf_41 : decode cX7_liveOf 41 = .ok (.iload_n 1, 1) := by decide +kernel
theorem dX7_liveOf_42 : decode cX7_liveOf 42 = .ok (.invokevirtual 233, 3) := by decide +kernel
theorem dX7_liveOf_45 : decode cX7_liveOf 45 = .ok (.ifCond .eq 7, 3) := by decide +kernel
theorem dX7_liveOf_48 : decode cX7_liveOf 48 = .ok (.iload_n 3, 1) := by decide +kernel
theorem dX7_liveOf_49 : decode cX7_liveOf 49 = .ok (.goto 5, 3) := by decide +kernel
theorem dX7_liveOf_52 : decode cX7_liveOf 52 = .ok (.iload 4, 2) := by decide +kernel
theorem dX7_liveOf_54 : decode cX7_liveOf 54 = .ok (.istore_n 3, 1) := by decide +kernel
theorem dX7_liveOf_55 : decode cX7_liveOf 55 = .ok (.iinc 4 (-1), 3) := by decide +kernel
theorem dX7_liveOf_58 : decode cX7_liveOf 58 = .ok (.goto (-41), 3) := by decide +kernel
theorem dX7_liveOf_61 : decode cX7_liveOf 61 = .ok (.aload_n 0, 1) := by decide +kernel
theorem dX7_liveOf_62 : decode cX7_liveOf 62 = .ok (.getfield 28, 3) := by decide +kernel
theorem dX7_liveOf_65 : decode cX7_liveOf 65 = .ok (.iconst 2, 1) := by decide +kernel
theorem dX7_liveOf_66 : decode cX7_liveOf 66 = .ok (.iload_n 1, 1) := by decide +kernel
theorem dX7_liveOf_67 : decode cX7_liveOf 67 = .ok (.imul, 1) := by decide +kernel
theorem dX7_liveOf_68 : decode cX7_liveOf 68 = .ok (.iconst 1, 1) := by decide +kernel
theorem dX7_liveOf_69 : decode cX7_liveOf 69 = .ok (.iadd, 1) := by decide +kernel
theorem dX7_liveOf_70 : decode cX7_liveOf 70 = .ok (.iload_n 2, 1) := by decide +kernel
theorem dX7_liveOf_71 : decode cX7_liveOf 71 = .ok (.iastore, 1) := by decide +kernel
theorem dX7_liveOf_72 : decode cX7_liveOf 72 = .ok (.iload_n 3, 1) := by decide +kernel
theorem dX7_liveOf_73 : decode cX7_liveOf 73 = .ok (.ireturn, 1) := by decide +kernel
theorem dX7_live_0 : decode cX7_live 0 = .ok (.aload_n 0, 1) := by decide +kernel
theorem dX7_live_1 : decode cX7_live 1 = .ok (.invokevirtual 221, 3) := by decide +kernel
theorem dX7_live_4 : decode cX7_live 4 = .ok (.aload_n 0, 1) := by decide +kernel
theorem dX7_live_5 : decode cX7_live 5 = .ok (.iload_n 1, 1) := by decide +kernel
theorem dX7_live_6 : decode cX7_live 6 = .ok (.invokevirtual 152, 3) := by decide +kernel
theorem dX7_live_9 : decode cX7_live 9 = .ok (.ifCond .eq 11, 3) := by decide +kernel
theorem dX7_live_12 : decode cX7_live 12 = .ok (.aload_n 0, 1) := by decide +kernel
theorem dX7_live_13 : decode cX7_live 13 = .ok (.iload_n 1, 1) := by decide +kernel
theorem dX7_live_14 : decode cX7_live 14 = .ok (.invokevirtual 260, 3) := by decide +kernel
theorem dX7_live_17 : decode cX7_live 17 = .ok (.goto 5, 3) := by decide +kernel
theorem dX7_live_20 : decode cX7_live 20 = .ok (.bipush (-2), 2) := by decide +kernel
theorem dX7_live_22 : decode cX7_live 22 = .ok (.ireturn, 1) := by decide +kernel
theorem dX7_voiceBy_0 : decode cX7_voiceBy 0 = .ok (.iconst (-1), 1) := by decide +kernel
theorem dX7_voiceBy_1 : decode cX7_voiceBy 1 = .ok (.istore_n 2, 1) := by decide +kernel
theorem dX7_voiceBy_2 : decode cX7_voiceBy 2 = .ok (.iconst (-1), 1) := by decide +kernel
theorem dX7_voiceBy_3 : decode cX7_voiceBy 3 = .ok (.istore_n 3, 1) := by decide +kernel
theorem dX7_voiceBy_4 : decode cX7_voiceBy 4 = .ok (.iconst 0, 1) := by decide +kernel
theorem dX7_voiceBy_5 : decode cX7_voiceBy 5 = .ok (.istore 4, 2) := by decide +kernel
theorem dX7_voiceBy_7 : decode cX7_voiceBy 7 = .ok (.iload 4, 2) := by decide +kernel
theorem dX7_voiceBy_9 : decode cX7_voiceBy 9 = .ok (.aload_n 0, 1) := by decide +kernel
theorem dX7_voiceBy_10 : decode cX7_voiceBy 10 = .ok (.getfield 116, 3) := by decide +kernel
theorem dX7_voiceBy_13 : decode cX7_voiceBy 13 = .ok (.if_icmp .ge 72, 3) := by decide +kernel
theorem dX7_voiceBy_16 : decode cX7_voiceBy 16 = .ok (.aload_n 0, 1) := by decide +kernel
theorem dX7_voiceBy_17 : decode cX7_voiceBy 17 = .ok (.getfield 28, 3) := by decide +kernel
theorem dX7_voiceBy_20 : decode cX7_voiceBy 20 = .ok (.iconst 2, 1) := by decide +kernel
theorem dX7_voiceBy_21 : decode cX7_voiceBy 21 = .ok (.iload 4, 2) := by decide +kernel
theorem dX7_voiceBy_23 : decode cX7_voiceBy 23 = .ok (.imul, 1) := by decide +kernel
theorem dX7_voiceBy_24 : decode cX7_voiceBy 24 = .ok (.iaload, 1) := by decide +kernel
theorem dX7_voiceBy_25 : decode cX7_voiceBy 25 = .ok (.istore 5, 2) := by decide +kernel
theorem dX7_voiceBy_27 : decode cX7_voiceBy 27 = .ok (.aload_n 0, 1) := by decide +kernel
theorem dX7_voiceBy_28 : decode cX7_voiceBy 28 = .ok (.getfield 28, 3) := by decide +kernel
theorem dX7_voiceBy_31 : decode cX7_voiceBy 31 = .ok (.iconst 2, 1) := by decide +kernel
theorem dX7_voiceBy_32 : decode cX7_voiceBy 32 = .ok (.iload 4, 2) := by decide +kernel
theorem dX7_voiceBy_34 : decode cX7_voiceBy 34 = .ok (.imul, 1) := by decide +kernel
theorem dX7_voiceBy_35 : decode cX7_voiceBy 35 = .ok (.iconst 3, 1) := by decide +kernel
theorem dX7_voiceBy_36 : decode cX7_voiceBy 36 = .ok (.iastore, 1) := by decide +kernel
theorem dX7_voiceBy_37 : decode cX7_voiceBy 37 = .ok (.aload_n 0, 1) := by decide +kernel
theorem dX7_voiceBy_38 : decode cX7_voiceBy 38 = .ok (.invokevirtual 218, 3) := by decide +kernel
theorem dX7_voiceBy_41 : decode cX7_voiceBy 41 = .ok (.aload_n 0, 1) := by decide +kernel
theorem dX7_voiceBy_42 : decode cX7_voiceBy 42 = .ok (.iconst 1, 1) := by decide +kernel
theorem dX7_voiceBy_43 : decode cX7_voiceBy 43 = .ok (.invokevirtual 263, 3) := by decide +kernel
theorem dX7_voiceBy_46 : decode cX7_voiceBy 46 = .ok (.istore 6, 2) := by decide +kernel
theorem dX7_voiceBy_48 : decode cX7_voiceBy 48 = .ok (.iload 6, 2) := by decide +kernel
theorem dX7_voiceBy_50 : decode cX7_voiceBy 50 = .ok (.iload_n 3, 1) := by decide +kernel
theorem dX7_voiceBy_51 : decode cX7_voiceBy 51 = .ok (.if_icmp .le 8, 3) := by decide +kernel
theorem dX7_voiceBy_54 : decode cX7_voiceBy 54 = .ok (.iload 4, 2) := by decide +kernel
theorem dX7_voiceBy_56 : decode cX7_voiceBy 56 = .ok (.goto 4, 3) := by decide +kernel
theorem dX7_voiceBy_59 : decode cX7_voiceBy 59 = .ok (.iload_n 2, 1) := by decide +kernel
theorem dX7_voiceBy_60 : decode cX7_voiceBy 60 = .ok (.istore_n 2, 1) := by decide +kernel
theorem dX7_voiceBy_61 : decode cX7_voiceBy 61 = .ok (.iload 6, 2) := by decide +kernel
theorem dX7_voiceBy_63 : decode cX7_voiceBy 63 = .ok (.iload_n 3, 1) := by decide +kernel
theorem dX7_voiceBy_64 : decode cX7_voiceBy 64 = .ok (.invokestatic 189, 3) := by decide +kernel
theorem dX7_voiceBy_67 : decode cX7_voiceBy 67 = .ok (.istore_n 3, 1) := by decide +kernel
theorem dX7_voiceBy_68 : decode cX7_voiceBy 68 = .ok (.aload_n 0, 1) := by decide +kernel
theorem dX7_voiceBy_69 : decode cX7_voiceBy 69 = .ok (.getfield 28, 3) := by decide +kernel
theorem dX7_voiceBy_72 : decode cX7_voiceBy 72 = .ok (.iconst 2, 1) := by decide +kernel
theorem dX7_voiceBy_73 : decode cX7_voiceBy 73 = .ok (.iload 4, 2) := by decide +kernel
theorem dX7_voiceBy_75 : decode cX7_voiceBy 75 = .ok (.imul, 1) := by decide +kernel
theorem dX7_voiceBy_76 : decode cX7_voiceBy 76 = .ok (.iload 5, 2) := by decide +kernel
theorem dX7_voiceBy_78 : decode cX7_voiceBy 78 = .ok (.iastore, 1) := by decide +kernel
theorem dX7_voiceBy_79 : decode cX7_voiceBy 79 = .ok (.iinc 4 1, 3) := by decide +kernel
theorem dX7_voiceBy_82 : decode cX7_voiceBy 82 = .ok (.goto (-75), 3) := by decide +kernel
theorem dX7_voiceBy_85 : decode cX7_voiceBy 85 = .ok (.iload_n 1, 1) := by decide +kernel
theorem dX7_voiceBy_86 : decode cX7_voiceBy 86 = .ok (.ifCond .ne 7, 3) := by decide +kernel
theorem dX7_voiceBy_89 : decode cX7_voiceBy 89 = .ok (.iload_n 2, 1) := by decide +kernel
theorem dX7_voiceBy_90 : decode cX7_voiceBy 90 = .ok (.goto 4, 3) := by decide +kernel
theorem dX7_voiceBy_93 : decode cX7_voiceBy 93 = .ok (.iload_n 3, 1) := by decide +kernel
theorem dX7_voiceBy_94 : decode cX7_voiceBy 94 = .ok (.ireturn, 1) := by decide +kernel
theorem dX7_voice_0 : decode cX7_voice 0 = .ok (.aload_n 0, 1) := by decide +kernel
theorem dX7_voice_1 : decode cX7_voice 1 = .ok (.invokevirtual 221, 3) := by decide +kernel
theorem dX7_voice_4 : decode cX7_voice 4 = .ok (.iload_n 1, 1) := by decide +kernel
theorem dX7_voice_5 : decode cX7_voice 5 = .ok (.invokestatic 155, 3) := by decide +kernel
theorem dX7_voice_8 : decode cX7_voice 8 = .ok (.ifCond .eq 11, 3) := by decide +kernel
theorem dX7_voice_11 : decode cX7_voice 11 = .ok (.aload_n 0, 1) := by decide +kernel
theorem dX7_voice_12 : decode cX7_voice 12 = .ok (.iload_n 1, 1) := by decide +kernel
theorem dX7_voice_13 : decode cX7_voice 13 = .ok (.invokevirtual 266, 3) := by decide +kernel
theorem dX7_voice_16 : decode cX7_voice 16 = .ok (.goto 5, 3) := by decide +kernel
theorem dX7_voice_19 : decode cX7_voice 19 = .ok (.bipush (-2), 2) := by decide +kernel
theorem dX7_voice_21 : decode cX7_voice 21 = .ok (.ireturn, 1) := by decide +kernel
theorem dX7_isSpared_0 : decode cX7_isSpared 0 = .ok (.aload_n 0, 1) := by decide +kernel
theorem dX7_isSpared_1 : decode cX7_isSpared 1 = .ok (.iload_n 1, 1) := by decide +kernel
theorem dX7_isSpared_2 : decode cX7_isSpared 2 = .ok (.putfield 176, 3) := by decide +kernel
theorem dX7_isSpared_5 : decode cX7_isSpared 5 = .ok (.aload_n 0, 1) := by decide +kernel
theorem dX7_isSpared_6 : decode cX7_isSpared 6 = .ok (.invokevirtual 218, 3) := by decide +kernel
theorem dX7_isSpared_9 : decode cX7_isSpared 9 = .ok (.aload_n 0, 1) := by decide +kernel
theorem dX7_isSpared_10 : decode cX7_isSpared 10 = .ok (.iconst 0, 1) := by decide +kernel
theorem dX7_isSpared_11 : decode cX7_isSpared 11 = .ok (.putfield 176, 3) := by decide +kernel
theorem dX7_isSpared_14 : decode cX7_isSpared 14 = .ok (.aload_n 0, 1) := by decide +kernel
theorem dX7_isSpared_15 : decode cX7_isSpared 15 = .ok (.iconst 3, 1) := by decide +kernel
theorem dX7_isSpared_16 : decode cX7_isSpared 16 = .ok (.invokevirtual 263, 3) := by decide +kernel
theorem dX7_isSpared_19 : decode cX7_isSpared 19 = .ok (.ifCond .ne 7, 3) := by decide +kernel
theorem dX7_isSpared_22 : decode cX7_isSpared 22 = .ok (.iconst 1, 1) := by decide +kernel
theorem dX7_isSpared_23 : decode cX7_isSpared 23 = .ok (.goto 4, 3) := by decide +kernel
theorem dX7_isSpared_26 : decode cX7_isSpared 26 = .ok (.iconst 0, 1) := by decide +kernel
theorem dX7_isSpared_27 : decode cX7_isSpared 27 = .ok (.ireturn, 1) := by decide +kernel
theorem dX7_spareBy_0 : decode cX7_spareBy 0 = .ok (.aload_n 0, 1) := by decide +kernel
theorem dX7_spareBy_1 : decode cX7_spareBy 1 = .ok (.iconst 0, 1) := by decide +kernel
theorem dX7_spareBy_2 : decode cX7_spareBy 2 = .ok (.invokevirtual 269, 3) := by decide +kernel
theorem dX7_spareBy_5 : decode cX7_spareBy 5 = .ok (.ifCond .eq 14, 3) := by decide +kernel
theorem dX7_spareBy_8 : decode cX7_spareBy 8 = .ok (.iload_n 1, 1) := by decide +kernel
theorem dX7_spareBy_9 : decode cX7_spareBy 9 = .ok (.iconst (-1), 1) := by decide +kernel
theorem dX7_spareBy_10 : decode cX7_spareBy 10 = .ok (.if_icmp .ne 7, 3) := by decide +kernel
theorem dX7_spareBy_13 : decode cX7_spareBy 13 = .ok (.iconst 0, 1) := by decide +kernel
theorem dX7_spareBy_14 : decode cX7_spareBy 14 = .ok (.goto 4, 3) := by decide +kernel
theorem dX7_spareBy_17 : decode cX7_spareBy 17 = .ok (.iconst (-1), 1) := by decide +kernel
theorem dX7_spareBy_18 : decode cX7_spareBy 18 = .ok (.ireturn, 1) := by decide +kernel
theorem dX7_spareBy_19 : decode cX7_spareBy 19 = .ok (.iconst 0, 1) := by decide +kernel
theorem dX7_spareBy_20 : decode cX7_spareBy 20 = .ok (.istore_n 2, 1) := by decide +kernel
theorem dX7_spareBy_21 : decode cX7_spareBy 21 = .ok (.iload_n 2, 1) := by decide +kernel
theorem dX7_spareBy_22 : decode cX7_spareBy 22 = .ok (.aload_n 0, 1) := by decide +kernel
theorem dX7_spareBy_23 : decode cX7_spareBy 23 = .ok (.getfield 171, 3) := by decide +kernel
theorem dX7_spareBy_26 : decode cX7_spareBy 26 = .ok (.if_icmp .ge 38, 3) := by decide +kernel
theorem dX7_spareBy_29 : decode cX7_spareBy 29 = .ok (.aload_n 0, 1) := by decide +kernel
theorem dX7_spareBy_30 : decode cX7_spareBy 30 = .ok (.iconst 1, 1) := by decide +kernel
theorem dX7_spareBy_31 : decode cX7_spareBy 31 = .ok (.iload_n 2, 1) := by decide +kernel
theorem dX7_spareBy_32 : decode cX7_spareBy 32 = .ok (.ishl, 1) := by decide +kernel
theorem dX7_spareBy_33 : decode cX7_spareBy 33 = .ok (.invokevirtual 269, 3) := by decide +kernel
theorem dX7_spareBy_36 : decode cX7_spareBy 36 = .ok (.ifCond .eq 22, 3) := by decide +kernel
theorem dX7_spareBy_39 : decode cX7_spareBy 39 = .ok (.iload_n 1, 1) := by decide +kernel
theorem dX7_spareBy_40 : decode cX7_spareBy 40 = .ok (.iconst (-1), 1) := by decide +kernel
theorem dX7_spareBy_41 : decode cX7_spareBy 41 = .ok (.if_icmp .ne 7, 3) := by decide +kernel
theorem dX7_spareBy_44 : decode cX7_spareBy 44 = .ok (.iconst 1, 1) := by decide +kernel
theorem dX7_spareBy_45 : decode cX7_spareBy 45 = .ok (.goto 12, 3) := by decide +kernel
theorem dX7_spareBy_48 : decode cX7_spareBy 48 = .ok (.iload_n 1, 1) := by decide +kernel
theorem dX7_spareBy_49 : decode cX7_spareBy 49 = .ok (.ifCond .ne 7, 3) := by decide +kernel
theorem dX7_spareBy_52 : decode cX7_spareBy 52 = .ok (.iload_n 2, 1) := by decide +kernel
theorem dX7_spareBy_53 : decode cX7_spareBy 53 = .ok (.goto 4, 3) := by decide +kernel
theorem dX7_spareBy_56 : decode cX7_spareBy 56 = .ok (.iconst (-1), 1) := by decide +kernel
theorem dX7_spareBy_57 : decode cX7_spareBy 57 = .ok (.ireturn, 1) := by decide +kernel
theorem dX7_spareBy_58 : decode cX7_spareBy 58 = .ok (.iinc 2 1, 3) := by decide +kernel
theorem dX7_spareBy_61 : decode cX7_spareBy 61 = .ok (.goto (-40), 3) := by decide +kernel
theorem dX7_spareBy_64 : decode cX7_spareBy 64 = .ok (.iconst 0, 1) := by decide +kernel
theorem dX7_spareBy_65 : decode cX7_spareBy 65 = .ok (.istore_n 2, 1) := by decide +kernel
theorem dX7_spareBy_66 : decode cX7_spareBy 66 = .ok (.iload_n 2, 1) := by decide +kernel
theorem dX7_spareBy_67 : decode cX7_spareBy 67 = .ok (.aload_n 0, 1) := by decide +kernel
theorem dX7_spareBy_68 : decode cX7_spareBy 68 = .ok (.getfield 171, 3) := by decide +kernel
theorem dX7_spareBy_71 : decode cX7_spareBy 71 = .ok (.if_icmp .ge 60, 3) := by decide +kernel
theorem dX7_spareBy_74 : decode cX7_spareBy 74 = .ok (.iload_n 2, 1) := by decide +kernel
theorem dX7_spareBy_75 : decode cX7_spareBy 75 = .ok (.iconst 1, 1) := by decide +kernel
theorem dX7_spareBy_76 : decode cX7_spareBy 76 = .ok (.iadd, 1) := by decide +kernel
theorem dX7_spareBy_77 : decode cX7_spareBy 77 = .ok (.istore_n 3, 1) := by decide +kernel
theorem dX7_spareBy_78 : decode cX7_spareBy 78 = .ok (.iload_n 3, 1) := by decide +kernel
theorem dX7_spareBy_79 : decode cX7_spareBy 79 = .ok (.aload_n 0, 1) := by decide +kernel
theorem dX7_spareBy_80 : decode cX7_spareBy 80 = .ok (.getfield 171, 3) := by decide +kernel
theorem dX7_spareBy_83 : decode cX7_spareBy 83 = .ok (.if_icmp .ge 42, 3) := by decide +kernel
theorem dX7_spareBy_86 : decode cX7_spareBy 86 = .ok (.aload_n 0, 1) := by decide +kernel
theorem dX7_spareBy_87 : decode cX7_spareBy 87 = .ok (.iconst 1, 1) := by decide +kernel
theorem dX7_spareBy_88 : decode cX7_spareBy 88 = .ok (.iload_n 2, 1) := by decide +kernel
theorem dX7_spareBy_89 : decode cX7_spareBy 89 = .ok (.ishl, 1) := by decide +kernel
theorem dX7_spareBy_90 : decode cX7_spareBy 90 = .ok (.iconst 1, 1) := by decide +kernel
theorem dX7_spareBy_91 : decode cX7_spareBy 91 = .ok (.iload_n 3, 1) := by decide +kernel
theorem dX7_spareBy_92 : decode cX7_spareBy 92 = .ok (.ishl, 1) := by decide +kernel
theorem dX7_spareBy_93 : decode cX7_spareBy 93 = .ok (.ior, 1) := by decide +kernel
theorem dX7_spareBy_94 : decode cX7_spareBy 94 = .ok (.invokevirtual 269, 3) := by decide +kernel
theorem dX7_spareBy_97 : decode cX7_spareBy 97 = .ok (.ifCond .eq 22, 3) := by decide +kernel
theorem dX7_spareBy_100 : decode cX7_spareBy 100 = .ok (.iload_n 1, 1) := by decide +kernel
theorem dX7_spareBy_101 : decode cX7_spareBy 101 = .ok (.iconst (-1), 1) := by decide +kernel
theorem dX7_spareBy_102 : decode cX7_spareBy 102 = .ok (.if_icmp .ne 7, 3) := by decide +kernel
theorem dX7_spareBy_105 : decode cX7_spareBy 105 = .ok (.iconst 2, 1) := by decide +kernel
theorem dX7_spareBy_106 : decode cX7_spareBy 106 = .ok (.goto 12, 3) := by decide +kernel
theorem dX7_spareBy_109 : decode cX7_spareBy 109 = .ok (.iload_n 1, 1) := by decide +kernel
theorem dX7_spareBy_110 : decode cX7_spareBy 110 = .ok (.ifCond .ne 7, 3) := by decide +kernel
theorem dX7_spareBy_113 : decode cX7_spareBy 113 = .ok (.iload_n 2, 1) := by decide +kernel
theorem dX7_spareBy_114 : decode cX7_spareBy 114 = .ok (.goto 4, 3) := by decide +kernel
theorem dX7_spareBy_117 : decode cX7_spareBy 117 = .ok (.iload_n 3, 1) := by decide +kernel
theorem dX7_spareBy_118 : decode cX7_spareBy 118 = .ok (.ireturn, 1) := by decide +kernel
theorem dX7_spareBy_119 : decode cX7_spareBy 119 = .ok (.iinc 3 1, 3) := by decide +kernel
theorem dX7_spareBy_122 : decode cX7_spareBy 122 = .ok (.goto (-44), 3) := by decide +kernel
theorem dX7_spareBy_125 : decode cX7_spareBy 125 = .ok (.iinc 2 1, 3) := by decide +kernel
theorem dX7_spareBy_128 : decode cX7_spareBy 128 = .ok (.goto (-62), 3) := by decide +kernel
theorem dX7_spareBy_131 : decode cX7_spareBy 131 = .ok (.iconst (-1), 1) := by decide +kernel
theorem dX7_spareBy_132 : decode cX7_spareBy 132 = .ok (.ireturn, 1) := by decide +kernel
theorem dX7_spare_0 : decode cX7_spare 0 = .ok (.aload_n 0, 1) := by decide +kernel
theorem dX7_spare_1 : decode cX7_spare 1 = .ok (.invokevirtual 221, 3) := by decide +kernel
theorem dX7_spare_4 : decode cX7_spare 4 = .ok (.iload_n 1, 1) := by decide +kernel
theorem dX7_spare_5 : decode cX7_spare 5 = .ok (.i2l, 1) := by decide +kernel
theorem dX7_spare_6 : decode cX7_spare 6 = .ok (.ldc2_w 272, 3) := by decide +kernel
theorem dX7_spare_9 : decode cX7_spare 9 = .ok (.lconst 1, 1) := by decide +kernel
theorem dX7_spare_10 : decode cX7_spare 10 = .ok (.invokestatic 76, 3) := by decide +kernel
theorem dX7_spare_13 : decode cX7_spare 13 = .ok (.ifCond .eq 11, 3) := by decide +kernel
theorem dX7_spare_16 : decode cX7_spare 16 = .ok (.aload_n 0, 1) := by decide +kernel
theorem dX7_spare_17 : decode cX7_spare 17 = .ok (.iload_n 1, 1) := by decide +kernel
theorem dX7_spare_18 : decode cX7_spare 18 = .ok (.invokevirtual 274, 3) := by decide +kernel
theorem dX7_spare_21 : decode cX7_spare 21 = .ok (.goto 5, 3) := by decide +kernel
theorem dX7_spare_24 : decode cX7_spare 24 = .ok (.bipush (-2), 2) := by decide +kernel
theorem dX7_spare_26 : decode cX7_spare 26 = .ok (.ireturn, 1) := by decide +kernel
theorem dX7_tally_0 : decode cX7_tally 0 = .ok (.iload_n 1, 1) := by decide +kernel
theorem dX7_tally_1 : decode cX7_tally 1 = .ok (.invokestatic 166, 3) := by decide +kernel
theorem dX7_tally_4 : decode cX7_tally 4 = .ok (.ifCond .eq 27, 3) := by decide +kernel
theorem dX7_tally_7 : decode cX7_tally 7 = .ok (.iload_n 2, 1) := by decide +kernel
theorem dX7_tally_8 : decode cX7_tally 8 = .ok (.i2l, 1) := by decide +kernel
theorem dX7_tally_9 : decode cX7_tally 9 = .ok (.lconst 0, 1) := by decide +kernel
theorem dX7_tally_10 : decode cX7_tally 10 = .ok (.ldc2_w 161, 3) := by decide +kernel
theorem dX7_tally_13 : decode cX7_tally 13 = .ok (.invokestatic 76, 3) := by decide +kernel
theorem dX7_tally_16 : decode cX7_tally 16 = .ok (.ifCond .eq 15, 3) := by decide +kernel
theorem dX7_tally_19 : decode cX7_tally 19 = .ok (.iload_n 3, 1) := by decide +kernel
theorem dX7_tally_20 : decode cX7_tally 20 = .ok (.i2l, 1) := by decide +kernel
theorem dX7_tally_21 : decode cX7_tally 21 = .ok (.lconst 0, 1) := by decide +kernel
theorem dX7_tally_22 : decode cX7_tally 22 = .ok (.ldc2_w 277, 3) := by decide +kernel
theorem dX7_tally_25 : decode cX7_tally 25 = .ok (.invokestatic 76, 3) := by decide +kernel
theorem dX7_tally_28 : decode cX7_tally 28 = .ok (.ifCond .ne 6, 3) := by decide +kernel
theorem dX7_tally_31 : decode cX7_tally 31 = .ok (.bipush (-2), 2) := by decide +kernel
theorem dX7_tally_33 : decode cX7_tally 33 = .ok (.ireturn, 1) := by decide +kernel
theorem dX7_tally_34 : decode cX7_tally 34 = .ok (.aload_n 0, 1) := by decide +kernel
theorem dX7_tally_35 : decode cX7_tally 35 = .ok (.getfield 279, 3) := by decide +kernel
theorem dX7_tally_38 : decode cX7_tally 38 = .ok (.bipush 8, 2) := by decide +kernel
theorem dX7_tally_40 : decode cX7_tally 40 = .ok (.if_icmp .ne 6, 3) := by decide +kernel
theorem dX7_tally_43 : decode cX7_tally 43 = .ok (.bipush (-4), 2) := by decide +kernel
theorem dX7_tally_45 : decode cX7_tally 45 = .ok (.ireturn, 1) := by decide +kernel
theorem dX7_tally_46 : decode cX7_tally 46 = .ok (.aload_n 0, 1) := by decide +kernel
theorem dX7_tally_47 : decode cX7_tally 47 = .ok (.getfield 64, 3) := by decide +kernel
theorem dX7_tally_50 : decode cX7_tally 50 = .ok (.iconst 3, 1) := by decide +kernel
theorem dX7_tally_51 : decode cX7_tally 51 = .ok (.aload_n 0, 1) := by decide +kernel
theorem dX7_tally_52 : decode cX7_tally 52 = .ok (.getfield 279, 3) := by decide +kernel
theorem dX7_tally_55 : decode cX7_tally 55 = .ok (.imul, 1) := by decide +kernel
theorem dX7_tally_56 : decode cX7_tally 56 = .ok (.iload_n 1, 1) := by decide +kernel
theorem dX7_tally_57 : decode cX7_tally 57 = .ok (.iastore, 1) := by decide +kernel
theorem dX7_tally_58 : decode cX7_tally 58 = .ok (.aload_n 0, 1) := by decide +kernel
theorem dX7_tally_59 : decode cX7_tally 59 = .ok (.getfield 64, 3) := by decide +kernel
theorem dX7_tally_62 : decode cX7_tally 62 = .ok (.iconst 3, 1) := by decide +kernel
theorem dX7_tally_63 : decode cX7_tally 63 = .ok (.aload_n 0, 1) := by decide +kernel
theorem dX7_tally_64 : decode cX7_tally 64 = .ok (.getfield 279, 3) := by decide +kernel
theorem dX7_tally_67 : decode cX7_tally 67 = .ok (.imul, 1) := by decide +kernel
theorem dX7_tally_68 : decode cX7_tally 68 = .ok (.iconst 1, 1) := by decide +kernel
theorem dX7_tally_69 : decode cX7_tally 69 = .ok (.iadd, 1) := by decide +kernel
theorem dX7_tally_70 : decode cX7_tally 70 = .ok (.iload_n 2, 1) := by decide +kernel
theorem dX7_tally_71 : decode cX7_tally 71 = .ok (.iastore, 1) := by decide +kernel
theorem dX7_tally_72 : decode cX7_tally 72 = .ok (.aload_n 0, 1) := by decide +kernel
theorem dX7_tally_73 : decode cX7_tally 73 = .ok (.getfield 64, 3) := by decide +kernel
theorem dX7_tally_76 : decode cX7_tally 76 = .ok (.iconst 3, 1) := by decide +kernel
theorem dX7_tally_77 : decode cX7_tally 77 = .ok (.aload_n 0, 1) := by decide +kernel
theorem dX7_tally_78 : decode cX7_tally 78 = .ok (.getfield 279, 3) := by decide +kernel
theorem dX7_tally_81 : decode cX7_tally 81 = .ok (.imul, 1) := by decide +kernel
theorem dX7_tally_82 : decode cX7_tally 82 = .ok (.iconst 2, 1) := by decide +kernel
theorem dX7_tally_83 : decode cX7_tally 83 = .ok (.iadd, 1) := by decide +kernel
theorem dX7_tally_84 : decode cX7_tally 84 = .ok (.iload_n 3, 1) := by decide +kernel
theorem dX7_tally_85 : decode cX7_tally 85 = .ok (.iastore, 1) := by decide +kernel
theorem dX7_tally_86 : decode cX7_tally 86 = .ok (.aload_n 0, 1) := by decide +kernel
theorem dX7_tally_87 : decode cX7_tally 87 = .ok (.dup, 1) := by decide +kernel
theorem dX7_tally_88 : decode cX7_tally 88 = .ok (.getfield 279, 3) := by decide +kernel
theorem dX7_tally_91 : decode cX7_tally 91 = .ok (.iconst 1, 1) := by decide +kernel
theorem dX7_tally_92 : decode cX7_tally 92 = .ok (.iadd, 1) := by decide +kernel
theorem dX7_tally_93 : decode cX7_tally 93 = .ok (.putfield 279, 3) := by decide +kernel
theorem dX7_tally_96 : decode cX7_tally 96 = .ok (.aload_n 0, 1) := by decide +kernel
theorem dX7_tally_97 : decode cX7_tally 97 = .ok (.getfield 279, 3) := by decide +kernel
theorem dX7_tally_100 : decode cX7_tally 100 = .ok (.ireturn, 1) := by decide +kernel
theorem dX7_forget_0 : decode cX7_forget 0 = .ok (.aload_n 0, 1) := by decide +kernel
theorem dX7_forget_1 : decode cX7_forget 1 = .ok (.getfield 279, 3) := by decide +kernel
theorem dX7_forget_4 : decode cX7_forget 4 = .ok (.istore_n 1, 1) := by decide +kernel
theorem dX7_forget_5 : decode cX7_forget 5 = .ok (.aload_n 0, 1) := by decide +kernel
theorem dX7_forget_6 : decode cX7_forget 6 = .ok (.iconst 0, 1) := by decide +kernel
theorem dX7_forget_7 : decode cX7_forget 7 = .ok (.putfield 279, 3) := by decide +kernel
theorem dX7_forget_10 : decode cX7_forget 10 = .ok (.iload_n 1, 1) := by decide +kernel
theorem dX7_forget_11 : decode cX7_forget 11 = .ok (.ireturn, 1) := by decide +kernel
theorem dX7_isCounted_0 : decode cX7_isCounted 0 = .ok (.aload_n 0, 1) := by decide +kernel
theorem dX7_isCounted_1 : decode cX7_isCounted 1 = .ok (.invokevirtual 218, 3) := by decide +kernel
theorem dX7_isCounted_4 : decode cX7_isCounted 4 = .ok (.iconst 1, 1) := by decide +kernel
theorem dX7_isCounted_5 : decode cX7_isCounted 5 = .ok (.istore_n 1, 1) := by decide +kernel
theorem dX7_isCounted_6 : decode cX7_isCounted 6 = .ok (.iconst 0, 1) := by decide +kernel
theorem dX7_isCounted_7 : decode cX7_isCounted 7 = .ok (.istore_n 2, 1) := by decide +kernel
theorem dX7_isCounted_8 : decode cX7_isCounted 8 = .ok (.iload_n 2, 1) := by decide +kernel
theorem dX7_isCounted_9 : decode cX7_isCounted 9 = .ok (.aload_n 0, 1) := by decide +kernel
theorem dX7_isCounted_10 : decode cX7_isCounted 10 = .ok (.getfield 279, 3) := by decide +kernel
theorem dX7_isCounted_13 : decode cX7_isCounted 13 = .ok (.if_icmp .ge 69, 3) := by decide +kernel
theorem dX7_isCounted_16 : decode cX7_isCounted 16 = .ok (.aload_n 0, 1) := by decide +kernel
theorem dX7_isCounted_17 : decode cX7_isCounted 17 = .ok (.getfield 64, 3) := by decide +kernel
theorem dX7_isCounted_20 : decode cX7_isCounted 20 = .ok (.iconst 3, 1) := by decide +kernel
theorem dX7_isCounted_21 : decode cX7_isCounted 21 = .ok (.iload_n 2, 1) := by decide +kernel
theorem dX7_isCounted_22 : decode cX7_isCounted 22 = .ok (.imul, 1) := by decide +kernel
theorem dX7_isCounted_23 : decode cX7_isCounted 23 = .ok (.iconst 1, 1) := by decide +kernel
theorem dX7_isCounted_24 : decode cX7_isCounted 24 = .ok (.iadd, 1) := by decide +kernel
theorem dX7_isCounted_25 : decode cX7_isCounted 25 = .ok (.iaload, 1) := by decide +kernel
theorem dX7_isCounted_26 : decode cX7_isCounted 26 = .ok (.istore_n 3, 1) := by decide +kernel
theorem dX7_isCounted_27 : decode cX7_isCounted 27 = .ok (.iload_n 1, 1) := by decide +kernel
theorem dX7_isCounted_28 : decode cX7_isCounted 28 = .ok (.ifCond .eq 46, 3) := by decide +kernel
theorem dX7_isCounted_31 : decode cX7_isCounted 31 = .ok (.aload_n 0, 1) := by decide +kernel
theorem dX7_isCounted_32 : decode cX7_isCounted 32 = .ok (.iload_n 3, 1) := by decide +kernel
theorem dX7_isCounted_33 : decode cX7_isCounted 33 = .ok (.invokevirtual 158, 3) := by decide +kernel
theorem dX7_isCounted_36 : decode cX7_isCounted 36 = .ok (.ifCond .eq 38, 3) := by decide +kernel
theorem dX7_isCounted_39 : decode cX7_isCounted 39 = .ok (.aload_n 0, 1) := by decide +kernel
theorem dX7_isCounted_40 : decode cX7_isCounted 40 = .ok (.getfield 55, 3) := by decide +kernel
theorem dX7_isCounted_43 : decode cX7_isCounted 43 = .ok (.bipush 12, 2) := by decide +kernel
theorem dX7_isCounted_45 : decode cX7_isCounted 45 = .ok (.aload_n 0, 1) := by decide +kernel
theorem dX7_isCounted_46 : decode cX7_isCounted 46 = .ok (.getfield 64, 3) := by decide +kernel
theorem dX7_isCounted_49 : decode cX7_isCounted 49 = .ok (.iconst 3, 1) := by decide +kernel
theorem dX7_isCounted_50 : decode cX7_isCounted 50 = .ok (.iload_n 2, 1) := by decide +kernel
theorem dX7_isCounted_51 : decode cX7_isCounted 51 = .ok (.imul, 1) := by decide +kernel
theorem dX7_isCounted_52 : decode cX7_isCounted 52 = .ok (.iaload, 1) := by decide +kernel
theorem dX7_isCounted_53 : decode cX7_isCounted 53 = .ok (.imul, 1) := by decide +kernel
theorem dX7_isCounted_54 : decode cX7_isCounted 54 = .ok (.iload_n 3, 1) := by decide +kernel
theorem dX7_isCounted_55 : decode cX7_isCounted 55 = .ok (.iadd, 1) := by decide +kernel
theorem dX7_isCounted_56 : decode cX7_isCounted 56 = .ok (.iaload, 1) := by decide +kernel
theorem dX7_isCounted_57 : decode cX7_isCounted 57 = .ok (.aload_n 0, 1) := by decide +kernel
theorem dX7_isCounted_58 : decode cX7_isCounted 58 = .ok (.getfield 64, 3) := by decide +kernel
theorem dX7_isCounted_61 : decode cX7_isCounted 61 = .ok (.iconst 3, 1) := by decide +kernel
theorem dX7_isCounted_62 : decode cX7_isCounted 62 = .ok (.iload_n 2, 1) := by decide +kernel
theorem dX7_isCounted_63 : decode cX7_isCounted 63 = .ok (.imul, 1) := by decide +kernel
theorem dX7_isCounted_64 : decode cX7_isCounted 64 = .ok (.iconst 2, 1) := by decide +kernel
theorem dX7_isCounted_65 : decode cX7_isCounted 65 = .ok (.iadd, 1) := by decide +kernel
theorem dX7_isCounted_66 : decode cX7_isCounted 66 = .ok (.iaload, 1) := by decide +kernel
theorem dX7_isCounted_67 : decode cX7_isCounted 67 = .ok (.if_icmp .ne 7, 3) := by decide +kernel
theorem dX7_isCounted_70 : decode cX7_isCounted 70 = .ok (.iconst 1, 1) := by decide +kernel
theorem dX7_isCounted_71 : decode cX7_isCounted 71 = .ok (.goto 4, 3) := by decide +kernel
theorem dX7_isCounted_74 : decode cX7_isCounted 74 = .ok (.iconst 0, 1) := by decide +kernel
theorem dX7_isCounted_75 : decode cX7_isCounted 75 = .ok (.istore_n 1, 1) := by decide +kernel
theorem dX7_isCounted_76 : decode cX7_isCounted 76 = .ok (.iinc 2 1, 3) := by decide +kernel
theorem dX7_isCounted_79 : decode cX7_isCounted 79 = .ok (.goto (-71), 3) := by decide +kernel
theorem dX7_isCounted_82 : decode cX7_isCounted 82 = .ok (.iload_n 1, 1) := by decide +kernel
theorem dX7_isCounted_83 : decode cX7_isCounted 83 = .ok (.ireturn, 1) := by decide +kernel
theorem dX7_neverNow_0 : decode cX7_neverNow 0 = .ok (.iconst 0, 1) := by decide +kernel
theorem dX7_neverNow_1 : decode cX7_neverNow 1 = .ok (.istore_n 1, 1) := by decide +kernel
theorem dX7_neverNow_2 : decode cX7_neverNow 2 = .ok (.iconst 0, 1) := by decide +kernel
theorem dX7_neverNow_3 : decode cX7_neverNow 3 = .ok (.istore_n 2, 1) := by decide +kernel
theorem dX7_neverNow_4 : decode cX7_neverNow 4 = .ok (.iload_n 2, 1) := by decide +kernel
theorem dX7_neverNow_5 : decode cX7_neverNow 5 = .ok (.aload_n 0, 1) := by decide +kernel
theorem dX7_neverNow_6 : decode cX7_neverNow 6 = .ok (.getfield 171, 3) := by decide +kernel
theorem dX7_neverNow_9 : decode cX7_neverNow 9 = .ok (.if_icmp .ge 33, 3) := by decide +kernel
theorem dX7_neverNow_12 : decode cX7_neverNow 12 = .ok (.aload_n 0, 1) := by decide +kernel
theorem dX7_neverNow_13 : decode cX7_neverNow 13 = .ok (.iconst 1, 1) := by decide +kernel
theorem dX7_neverNow_14 : decode cX7_neverNow 14 = .ok (.iload_n 2, 1) := by decide +kernel
theorem dX7_neverNow_15 : decode cX7_neverNow 15 = .ok (.ishl, 1) := by decide +kernel
theorem dX7_neverNow_16 : decode cX7_neverNow 16 = .ok (.putfield 176, 3) := by decide +kernel
theorem dX7_neverNow_19 : decode cX7_neverNow 19 = .ok (.iload_n 1, 1) := by decide +kernel
theorem dX7_neverNow_20 : decode cX7_neverNow 20 = .ok (.aload_n 0, 1) := by decide +kernel
theorem dX7_neverNow_21 : decode cX7_neverNow 21 = .ok (.invokevirtual 282, 3) := by decide +kernel
theorem dX7_neverNow_24 : decode cX7_neverNow 24 = .ok (.ifCond .eq 9, 3) := by decide +kernel
theorem dX7_neverNow_27 : decode cX7_neverNow 27 = .ok (.iconst 1, 1) := by decide +kernel
theorem dX7_neverNow_28 : decode cX7_neverNow 28 = .ok (.iload_n 2, 1) := by decide +kernel
theorem dX7_neverNow_29 : decode cX7_neverNow 29 = .ok (.ishl, 1) := by decide +kernel
theorem dX7_neverNow_30 : decode cX7_neverNow 30 = .ok (.goto 4, 3) := by decide +kernel
theorem dX7_neverNow_33 : decode cX7_neverNow 33 = .ok (.iconst 0, 1) := by decide +kernel
theorem dX7_neverNow_34 : decode cX7_neverNow 34 = .ok (.ior, 1) := by decide +kernel
theorem dX7_neverNow_35 : decode cX7_neverNow 35 = .ok (.istore_n 1, 1) := by decide +kernel
theorem dX7_neverNow_36 : decode cX7_neverNow 36 = .ok (.iinc 2 1, 3) := by decide +kernel
theorem dX7_neverNow_39 : decode cX7_neverNow 39 = .ok (.goto (-35), 3) := by decide +kernel
theorem dX7_neverNow_42 : decode cX7_neverNow 42 = .ok (.aload_n 0, 1) := by decide +kernel
theorem dX7_neverNow_43 : decode cX7_neverNow 43 = .ok (.iconst 0, 1) := by decide +kernel
theorem dX7_neverNow_44 : decode cX7_neverNow 44 = .ok (.putfield 176, 3) := by decide +kernel
theorem dX7_neverNow_47 : decode cX7_neverNow 47 = .ok (.iload_n 1, 1) := by decide +kernel
theorem dX7_neverNow_48 : decode cX7_neverNow 48 = .ok (.ireturn, 1) := by decide +kernel
theorem dX7_never_0 : decode cX7_never 0 = .ok (.aload_n 0, 1) := by decide +kernel
theorem dX7_never_1 : decode cX7_never 1 = .ok (.invokevirtual 221, 3) := by decide +kernel
theorem dX7_never_4 : decode cX7_never 4 = .ok (.aload_n 0, 1) := by decide +kernel
theorem dX7_never_5 : decode cX7_never 5 = .ok (.invokevirtual 286, 3) := by decide +kernel
theorem dX7_never_8 : decode cX7_never 8 = .ok (.ireturn, 1) := by decide +kernel
theorem dX7_sortOf_0 : decode cX7_sortOf 0 = .ok (.aload_n 0, 1) := by decide +kernel
theorem dX7_sortOf_1 : decode cX7_sortOf 1 = .ok (.getfield 28, 3) := by decide +kernel
theorem dX7_sortOf_4 : decode cX7_sortOf 4 = .ok (.iconst 2, 1) := by decide +kernel
theorem dX7_sortOf_5 : decode cX7_sortOf 5 = .ok (.iload_n 1, 1) := by decide +kernel
theorem dX7_sortOf_6 : decode cX7_sortOf 6 = .ok (.imul, 1) := by decide +kernel
theorem dX7_sortOf_7 : decode cX7_sortOf 7 = .ok (.iaload, 1) := by decide +kernel
theorem dX7_sortOf_8 : decode cX7_sortOf 8 = .ok (.istore_n 2, 1) := by decide +kernel
theorem dX7_sortOf_9 : decode cX7_sortOf 9 = .ok (.iconst 0, 1) := by decide +kernel
theorem dX7_sortOf_10 : decode cX7_sortOf 10 = .ok (.istore_n 3, 1) := by decide +kernel
theorem dX7_sortOf_11 : decode cX7_sortOf 11 = .ok (.iconst 0, 1) := by decide +kernel
theorem dX7_sortOf_12 : decode cX7_sortOf 12 = .ok (.istore 4, 2) := by decide +kernel
theorem dX7_sortOf_14 : decode cX7_sortOf 14 = .ok (.iload 4, 2) := by decide +kernel
theorem dX7_sortOf_16 : decode cX7_sortOf 16 = .ok (.iconst 4, 1) := by decide +kernel
theorem dX7_sortOf_17 : decode cX7_sortOf 17 = .ok (.if_icmp .ge 37, 3) := by decide +kernel
theorem dX7_sortOf_20 : decode cX7_sortOf 20 = .ok (.aload_n 0, 1) := by decide +kernel
theorem dX7_sortOf_21 : decode cX7_sortOf 21 = .ok (.getfield 28, 3) := by decide +kernel
theorem dX7_sortOf_24 : decode cX7_sortOf 24 = .ok (.iconst 2, 1) := by decide +kernel
theorem dX7_sortOf_25 : decode cX7_sortOf 25 = .ok (.iload_n 1, 1) := by decide +kernel
theorem dX7_sortOf_26 : decode cX7_sortOf 26 = .ok (.imul, 1) := by decide +kernel
theorem dX7_sortOf_27 : decode cX7_sortOf 27 = .ok (.iload 4, 2) := by decide +kernel
theorem dX7_sortOf_29 : decode cX7_sortOf 29 = .ok (.iastore, 1) := by decide +kernel
theorem dX7_sortOf_30 : decode cX7_sortOf 30 = .ok (.iload_n 3, 1) := by decide +kernel
theorem dX7_sortOf_31 : decode cX7_sortOf 31 = .ok (.aload_n 0, 1) := by decide +kernel
theorem dX7_sortOf_32 : decode cX7_sortOf 32 = .ok (.invokevirtual 282, 3) := by decide +kernel
theorem dX7_sortOf_35 : decode cX7_sortOf 35 = .ok (.ifCond .eq 10, 3) := by decide +kernel
theorem dX7_sortOf_38 : decode cX7_sortOf 38 = .ok (.iconst 1, 1) := by decide +kernel
theorem dX7_sortOf_39 : decode cX7_sortOf 39 = .ok (.iload 4, 2) := by decide +kernel
theorem dX7_sortOf_41 : decode cX7_sortOf 41 = .ok (.ishl, 1) := by decide +kernel
theorem dX7_sortOf_42 : decode cX7_sortOf 42 = .ok (.goto 4, 3) := by decide +kernel
theorem dX7_sortOf_45 : decode cX7_sortOf 45 = .ok (.iconst 0, 1) := by decide +kernel
theorem dX7_sortOf_46 : decode cX7_sortOf 46 = .ok (.ior, 1) := by decide +kernel
theorem dX7_sortOf_47 : decode cX7_sortOf 47 = .ok (.istore_n 3, 1) := by decide +kernel
theorem dX7_sortOf_48 : decode cX7_sortOf 48 = .ok (.iinc 4 1, 3) := by decide +kernel
theorem dX7_sortOf_51 : decode cX7_sortOf 51 = .ok (.goto (-37), 3) := by decide +kernel
theorem dX7_sortOf_54 : decode cX7_sortOf 54 = .ok (.aload_n 0, 1) := by decide +kernel
theorem dX7_sortOf_55 : decode cX7_sortOf 55 = .ok (.getfield 28, 3) := by decide +kernel
theorem dX7_sortOf_58 : decode cX7_sortOf 58 = .ok (.iconst 2, 1) := by decide +kernel
theorem dX7_sortOf_59 : decode cX7_sortOf 59 = .ok (.iload_n 1, 1) := by decide +kernel
theorem dX7_sortOf_60 : decode cX7_sortOf 60 = .ok (.imul, 1) := by decide +kernel
theorem dX7_sortOf_61 : decode cX7_sortOf 61 = .ok (.iload_n 2, 1) := by decide +kernel
theorem dX7_sortOf_62 : decode cX7_sortOf 62 = .ok (.iastore, 1) := by decide +kernel
theorem dX7_sortOf_63 : decode cX7_sortOf 63 = .ok (.iload_n 3, 1) := by decide +kernel
theorem dX7_sortOf_64 : decode cX7_sortOf 64 = .ok (.ireturn, 1) := by decide +kernel
theorem dX7_sort_0 : decode cX7_sort 0 = .ok (.aload_n 0, 1) := by decide +kernel
theorem dX7_sort_1 : decode cX7_sort 1 = .ok (.invokevirtual 221, 3) := by decide +kernel
theorem dX7_sort_4 : decode cX7_sort 4 = .ok (.aload_n 0, 1) := by decide +kernel
theorem dX7_sort_5 : decode cX7_sort 5 = .ok (.iload_n 1, 1) := by decide +kernel
theorem dX7_sort_6 : decode cX7_sort 6 = .ok (.invokevirtual 152, 3) := by decide +kernel
theorem dX7_sort_9 : decode cX7_sort 9 = .ok (.ifCond .eq 11, 3) := by decide +kernel
theorem dX7_sort_12 : decode cX7_sort 12 = .ok (.aload_n 0, 1) := by decide +kernel
theorem dX7_sort_13 : decode cX7_sort 13 = .ok (.iload_n 1, 1) := by decide +kernel
theorem dX7_sort_14 : decode cX7_sort 14 = .ok (.invokevirtual 289, 3) := by decide +kernel
theorem dX7_sort_17 : decode cX7_sort 17 = .ok (.goto 5, 3) := by decide +kernel
theorem dX7_sort_20 : decode cX7_sort 20 = .ok (.bipush (-2), 2) := by decide +kernel
theorem dX7_sort_22 : decode cX7_sort 22 = .ok (.ireturn, 1) := by decide +kernel
theorem dX7_lentOf_0 : decode cX7_lentOf 0 = .ok (.aload_n 0, 1) := by decide +kernel
theorem dX7_lentOf_1 : decode cX7_lentOf 1 = .ok (.getfield 31, 3) := by decide +kernel
theorem dX7_lentOf_4 : decode cX7_lentOf 4 = .ok (.iconst 3, 1) := by decide +kernel
theorem dX7_lentOf_5 : decode cX7_lentOf 5 = .ok (.iload_n 1, 1) := by decide +kernel
theorem dX7_lentOf_6 : decode cX7_lentOf 6 = .ok (.imul, 1) := by decide +kernel
theorem dX7_lentOf_7 : decode cX7_lentOf 7 = .ok (.iconst 2, 1) := by decide +kernel
theorem dX7_lentOf_8 : decode cX7_lentOf 8 = .ok (.iadd, 1) := by decide +kernel
theorem dX7_lentOf_9 : decode cX7_lentOf 9 = .ok (.iaload, 1) := by decide +kernel
theorem dX7_lentOf_10 : decode cX7_lentOf 10 = .ok (.istore_n 2, 1) := by decide +kernel
theorem dX7_lentOf_11 : decode cX7_lentOf 11 = .ok (.iconst 0, 1) := by decide +kernel
theorem dX7_lentOf_12 : decode cX7_lentOf 12 = .ok (.istore_n 3, 1) := by decide +kernel
theorem dX7_lentOf_13 : decode cX7_lentOf 13 = .ok (.iconst 1, 1) := by decide +kernel
theorem dX7_lentOf_14 : decode cX7_lentOf 14 = .ok (.istore 4, 2) := by decide +kernel
theorem dX7_lentOf_16 : decode cX7_lentOf 16 = .ok (.iload 4, 2) := by decide +kernel
theorem dX7_lentOf_18 : decode cX7_lentOf 18 = .ok (.bipush 10, 2) := by decide +kernel
theorem dX7_lentOf_20 : decode cX7_lentOf 20 = .ok (.if_icmp .ge 80, 3) := by decide +kernel
theorem dX7_lentOf_23 : decode cX7_lentOf 23 = .ok (.aload_n 0, 1) := by decide +kernel
theorem dX7_lentOf_24 : decode cX7_lentOf 24 = .ok (.getfield 31, 3) := by decide +kernel
theorem dX7_lentOf_27 : decode cX7_lentOf 27 = .ok (.iconst 3, 1) := by decide +kernel
theorem dX7_lentOf_28 : decode cX7_lentOf 28 = .ok (.iload_n 1, 1) := by decide +kernel
theorem dX7_lentOf_29 : decode cX7_lentOf 29 = .ok (.imul, 1) := by decide +kernel
theorem dX7_lentOf_30 : decode cX7_lentOf 30 = .ok (.iconst 2, 1) := by decide +kernel
theorem dX7_lentOf_31 : decode cX7_lentOf 31 = .ok (.iadd, 1) := by decide +kernel
theorem dX7_lentOf_32 : decode cX7_lentOf 32 = .ok (.iload 4, 2) := by decide +kernel
theorem dX7_lentOf_34 : decode cX7_lentOf 34 = .ok (.iastore, 1) := by decide +kernel
theorem dX7_lentOf_35 : decode cX7_lentOf 35 = .ok (.iload_n 3, 1) := by decide +kernel
theorem dX7_lentOf_36 : decode cX7_lentOf 36 = .ok (.aload_n 0, 1) := by decide +kernel
theorem dX7_lentOf_37 : decode cX7_lentOf 37 = .ok (.invokevirtual 282, 3) := by decide +kernel
theorem dX7_lentOf_40 : decode cX7_lentOf 40 = .ok (.ifCond .eq 10, 3) := by decide +kernel
theorem dX7_lentOf_43 : decode cX7_lentOf 43 = .ok (.iconst 1, 1) := by decide +kernel
theorem dX7_lentOf_44 : decode cX7_lentOf 44 = .ok (.iload 4, 2) := by decide +kernel
theorem dX7_lentOf_46 : decode cX7_lentOf 46 = .ok (.ishl, 1) := by decide +kernel
theorem dX7_lentOf_47 : decode cX7_lentOf 47 = .ok (.goto 4, 3) := by decide +kernel
theorem dX7_lentOf_50 : decode cX7_lentOf 50 = .ok (.iconst 0, 1) := by decide +kernel
theorem dX7_lentOf_51 : decode cX7_lentOf 51 = .ok (.ior, 1) := by decide +kernel
theorem dX7_lentOf_52 : decode cX7_lentOf 52 = .ok (.istore_n 3, 1) := by decide +kernel
theorem dX7_lentOf_53 : decode cX7_lentOf 53 = .ok (.iconst 0, 1) := by decide +kernel
theorem dX7_lentOf_54 : decode cX7_lentOf 54 = .ok (.istore 5, 2) := by decide +kernel
theorem dX7_lentOf_56 : decode cX7_lentOf 56 = .ok (.iload 5, 2) := by decide +kernel
theorem dX7_lentOf_58 : decode cX7_lentOf 58 = .ok (.bipush 24, 2) := by decide +kernel
theorem dX7_lentOf_60 : decode cX7_lentOf 60 = .ok (.if_icmp .ge 34, 3) := by decide +kernel
theorem dX7_lentOf_63 : decode cX7_lentOf 63 = .ok (.aload_n 0, 1) := by decide +kernel
theorem dX7_lentOf_64 : decode cX7_lentOf 64 = .ok (.getfield 67, 3) := by decide +kernel
theorem dX7_lentOf_67 : decode cX7_lentOf 67 = .ok (.bipush 24, 2) := by decide +kernel
theorem dX7_lentOf_69 : decode cX7_lentOf 69 = .ok (.iload 4, 2) := by decide +kernel
theorem dX7_lentOf_71 : decode cX7_lentOf 71 = .ok (.imul, 1) := by decide +kernel
theorem dX7_lentOf_72 : decode cX7_lentOf 72 = .ok (.iload 5, 2) := by decide +kernel
theorem dX7_lentOf_74 : decode cX7_lentOf 74 = .ok (.iadd, 1) := by decide +kernel
theorem dX7_lentOf_75 : decode cX7_lentOf 75 = .ok (.aload_n 0, 1) := by decide +kernel
theorem dX7_lentOf_76 : decode cX7_lentOf 76 = .ok (.getfield 55, 3) := by decide +kernel
theorem dX7_lentOf_79 : decode cX7_lentOf 79 = .ok (.bipush 12, 2) := by decide +kernel
theorem dX7_lentOf_81 : decode cX7_lentOf 81 = .ok (.iload 5, 2) := by decide +kernel
theorem dX7_lentOf_83 : decode cX7_lentOf 83 = .ok (.imul, 1) := by decide +kernel
theorem dX7_lentOf_84 : decode cX7_lentOf 84 = .ok (.iload_n 1, 1) := by decide +kernel
theorem dX7_lentOf_85 : decode cX7_lentOf 85 = .ok (.iadd, 1) := by decide +kernel
theorem dX7_lentOf_86 : decode cX7_lentOf 86 = .ok (.iaload, 1) := by decide +kernel
theorem dX7_lentOf_87 : decode cX7_lentOf 87 = .ok (.iastore, 1) := by decide +kernel
theorem dX7_lentOf_88 : decode cX7_lentOf 88 = .ok (.iinc 5 1, 3) := by decide +kernel
theorem dX7_lentOf_91 : decode cX7_lentOf 91 = .ok (.goto (-35), 3) := by decide +kernel
theorem dX7_lentOf_94 : decode cX7_lentOf 94 = .ok (.iinc 4 1, 3) := by decide +kernel
theorem dX7_lentOf_97 : decode cX7_lentOf 97 = .ok (.goto (-81), 3) := by decide +kernel
theorem dX7_lentOf_100 : decode cX7_lentOf 100 = .ok (.aload_n 0, 1) := by decide +kernel
theorem dX7_lentOf_101 : decode cX7_lentOf 101 = .ok (.getfield 31, 3) := by decide +kernel
theorem dX7_lentOf_104 : decode cX7_lentOf 104 = .ok (.iconst 3, 1) := by decide +kernel
theorem dX7_lentOf_105 : decode cX7_lentOf 105 = .ok (.iload_n 1, 1) := by decide +kernel
theorem dX7_lentOf_106 : decode cX7_lentOf 106 = .ok (.imul, 1) := by decide +kernel
theorem dX7_lentOf_107 : decode cX7_lentOf 107 = .ok (.iconst 2, 1) := by decide +kernel
theorem dX7_lentOf_108 : decode cX7_lentOf 108 = .ok (.iadd, 1) := by decide +kernel
theorem dX7_lentOf_109 : decode cX7_lentOf 109 = .ok (.iload_n 2, 1) := by decide +kernel
theorem dX7_lentOf_110 : decode cX7_lentOf 110 = .ok (.iastore, 1) := by decide +kernel
theorem dX7_lentOf_111 : decode cX7_lentOf 111 = .ok (.iload_n 3, 1) := by decide +kernel
theorem dX7_lentOf_112 : decode cX7_lentOf 112 = .ok (.ireturn, 1) := by decide +kernel
theorem dX7_lent_0 : decode cX7_lent 0 = .ok (.aload_n 0, 1) := by decide +kernel
theorem dX7_lent_1 : decode cX7_lent 1 = .ok (.invokevirtual 221, 3) := by decide +kernel
theorem dX7_lent_4 : decode cX7_lent 4 = .ok (.aload_n 0, 1) := by decide +kernel
theorem dX7_lent_5 : decode cX7_lent 5 = .ok (.iload_n 1, 1) := by decide +kernel
theorem dX7_lent_6 : decode cX7_lent 6 = .ok (.invokevirtual 158, 3) := by decide +kernel
theorem dX7_lent_9 : decode cX7_lent 9 = .ok (.ifCond .eq 11, 3) := by decide +kernel
theorem dX7_lent_12 : decode cX7_lent 12 = .ok (.aload_n 0, 1) := by decide +kernel
theorem dX7_lent_13 : decode cX7_lent 13 = .ok (.iload_n 1, 1) := by decide +kernel
theorem dX7_lent_14 : decode cX7_lent 14 = .ok (.invokevirtual 292, 3) := by decide +kernel
theorem dX7_lent_17 : decode cX7_lent 17 = .ok (.goto 5, 3) := by decide +kernel
theorem dX7_lent_20 : decode cX7_lent 20 = .ok (.bipush (-2), 2) := by decide +kernel
theorem dX7_lent_22 : decode cX7_lent 22 = .ok (.ireturn, 1) := by decide +kernel
theorem dX7_alike_0 : decode cX7_alike 0 = .ok (.iconst 0, 1) := by decide +kernel
theorem dX7_alike_1 : decode cX7_alike 1 = .ok (.istore_n 3, 1) := by decide +kernel
theorem dX7_alike_2 : decode cX7_alike 2 = .ok (.iconst 1, 1) := by decide +kernel
theorem dX7_alike_3 : decode cX7_alike 3 = .ok (.istore 4, 2) := by decide +kernel
theorem dX7_alike_5 : decode cX7_alike 5 = .ok (.iload 4, 2) := by decide +kernel
theorem dX7_alike_7 : decode cX7_alike 7 = .ok (.bipush 10, 2) := by decide +kernel
theorem dX7_alike_9 : decode cX7_alike 9 = .ok (.if_icmp .ge 90, 3) := by decide +kernel
theorem dX7_alike_12 : decode cX7_alike 12 = .ok (.iconst 0, 1) := by decide +kernel
theorem dX7_alike_13 : decode cX7_alike 13 = .ok (.istore 5, 2) := by decide +kernel
theorem dX7_alike_15 : decode cX7_alike 15 = .ok (.iconst 1, 1) := by decide +kernel
theorem dX7_alike_16 : decode cX7_alike 16 = .ok (.istore 6, 2) := by decide +kernel
theorem dX7_alike_18 : decode cX7_alike 18 = .ok (.iload 6, 2) := by decide +kernel
theorem dX7_alike_20 : decode cX7_alike 20 = .ok (.bipush 10, 2) := by decide +kernel
theorem dX7_alike_22 : decode cX7_alike 22 = .ok (.if_icmp .ge 64, 3) := by decide +kernel
theorem dX7_alike_25 : decode cX7_alike 25 = .ok (.iload 5, 2) := by decide +kernel
theorem dX7_alike_27 : decode cX7_alike 27 = .ok (.iload_n 1, 1) := by decide +kernel
theorem dX7_alike_28 : decode cX7_alike 28 = .ok (.iload 4, 2) := by decide +kernel
theorem dX7_alike_30 : decode cX7_alike 30 = .ok (.invokestatic 179, 3) := by decide +kernel
theorem dX7_alike_33 : decode cX7_alike 33 = .ok (.ifCond .eq 43, 3) := by decide +kernel
theorem dX7_alike_36 : decode cX7_alike 36 = .ok (.iload_n 1, 1) := by decide +kernel
theorem dX7_alike_37 : decode cX7_alike 37 = .ok (.iload 6, 2) := by decide +kernel
theorem dX7_alike_39 : decode cX7_alike 39 = .ok (.invokestatic 179, 3) := by decide +kernel
theorem dX7_alike_42 : decode cX7_alike 42 = .ok (.ifCond .eq 34, 3) := by decide +kernel
theorem dX7_alike_45 : decode cX7_alike 45 = .ok (.aload_n 0, 1) := by decide +kernel
theorem dX7_alike_46 : decode cX7_alike 46 = .ok (.getfield 67, 3) := by decide +kernel
theorem dX7_alike_49 : decode cX7_alike 49 = .ok (.bipush 24, 2) := by decide +kernel
theorem dX7_alike_51 : decode cX7_alike 51 = .ok (.iload 4, 2) := by decide +kernel
theorem dX7_alike_53 : decode cX7_alike 53 = .ok (.imul, 1) := by decide +kernel
theorem dX7_alike_54 : decode cX7_alike 54 = .ok (.iload_n 2, 1) := by decide +kernel
theorem dX7_alike_55 : decode cX7_alike 55 = .ok (.iadd, 1) := by decide +kernel
theorem dX7_alike_56 : decode cX7_alike 56 = .ok (.iaload, 1) := by decide +kernel
theorem dX7_alike_57 : decode cX7_alike 57 = .ok (.aload_n 0, 1) := by decide +kernel
theorem dX7_alike_58 : decode cX7_alike 58 = .ok (.getfield 67, 3) := by decide +kernel
theorem dX7_alike_61 : decode cX7_alike 61 = .ok (.bipush 24, 2) := by decide +kernel
theorem dX7_alike_63 : decode cX7_alike 63 = .ok (.iload 6, 2) := by decide +kernel
theorem dX7_alike_65 : decode cX7_alike 65 = .ok (.imul, 1) := by decide +kernel
theorem dX7_alike_66 : decode cX7_alike 66 = .ok (.iload_n 2, 1) := by decide +kernel
theorem dX7_alike_67 : decode cX7_alike 67 = .ok (.iadd, 1) := by decide +kernel
theorem dX7_alike_68 : decode cX7_alike 68 = .ok (.iaload, 1) := by decide +kernel
theorem dX7_alike_69 : decode cX7_alike 69 = .ok (.if_icmp .ne 7, 3) := by decide +kernel
theorem dX7_alike_72 : decode cX7_alike 72 = .ok (.iconst 1, 1) := by decide +kernel
theorem dX7_alike_73 : decode cX7_alike 73 = .ok (.goto 4, 3) := by decide +kernel
theorem dX7_alike_76 : decode cX7_alike 76 = .ok (.iconst 0, 1) := by decide +kernel
theorem dX7_alike_77 : decode cX7_alike 77 = .ok (.iadd, 1) := by decide +kernel
theorem dX7_alike_78 : decode cX7_alike 78 = .ok (.istore 5, 2) := by decide +kernel
theorem dX7_alike_80 : decode cX7_alike 80 = .ok (.iinc 6 1, 3) := by decide +kernel
theorem dX7_alike_83 : decode cX7_alike 83 = .ok (.goto (-65), 3) := by decide +kernel
theorem dX7_alike_86 : decode cX7_alike 86 = .ok (.iload 5, 2) := by decide +kernel
theorem dX7_alike_88 : decode cX7_alike 88 = .ok (.iload_n 3, 1) := by decide +kernel
theorem dX7_alike_89 : decode cX7_alike 89 = .ok (.invokestatic 189, 3) := by decide +kernel
theorem dX7_alike_92 : decode cX7_alike 92 = .ok (.istore_n 3, 1) := by decide +kernel
theorem dX7_alike_93 : decode cX7_alike 93 = .ok (.iinc 4 1, 3) := by decide +kernel
theorem dX7_alike_96 : decode cX7_alike 96 = .ok (.goto (-91), 3) := by decide +kernel
theorem dX7_alike_99 : decode cX7_alike 99 = .ok (.iload_n 3, 1) := by decide +kernel
theorem dX7_alike_100 : decode cX7_alike 100 = .ok (.ireturn, 1) := by decide +kernel
theorem dX7_askOf_0 : decode cX7_askOf 0 = .ok (.aload_n 0, 1) := by decide +kernel
theorem dX7_askOf_1 : decode cX7_askOf 1 = .ok (.iload_n 1, 1) := by decide +kernel
theorem dX7_askOf_2 : decode cX7_askOf 2 = .ok (.invokevirtual 292, 3) := by decide +kernel
theorem dX7_askOf_5 : decode cX7_askOf 5 = .ok (.istore_n 2, 1) := by decide +kernel
theorem dX7_askOf_6 : decode cX7_askOf 6 = .ok (.iconst 0, 1) := by decide +kernel
theorem dX7_askOf_7 : decode cX7_askOf 7 = .ok (.istore_n 3, 1) := by decide +kernel
theorem dX7_askOf_8 : decode cX7_askOf 8 = .ok (.iconst 1, 1) := by decide +kernel
theorem dX7_askOf_9 : decode cX7_askOf 9 = .ok (.istore 4, 2) := by decide +kernel
theorem dX7_askOf_11 : decode cX7_askOf 11 = .ok (.iload 4, 2) := by decide +kernel
theorem dX7_askOf_13 : decode cX7_askOf 13 = .ok (.bipush 24, 2) := by decide +kernel
theorem dX7_askOf_15 : decode cX7_askOf 15 = .ok (.if_icmp .ge 32, 3) := by decide +kernel
theorem dX7_askOf_18 : decode cX7_askOf 18 = .ok (.aload_n 0, 1) := by decide +kernel
theorem dX7_askOf_19 : decode cX7_askOf 19 = .ok (.iload_n 2, 1) := by decide +kernel
theorem dX7_askOf_20 : decode cX7_askOf 20 = .ok (.iload 4, 2) := by decide +kernel
theorem dX7_askOf_22 : decode cX7_askOf 22 = .ok (.invokevirtual 295, 3) := by decide +kernel
theorem dX7_askOf_25 : decode cX7_askOf 25 = .ok (.aload_n 0, 1) := by decide +kernel
theorem dX7_askOf_26 : decode cX7_askOf 26 = .ok (.iload_n 2, 1) := by decide +kernel
theorem dX7_askOf_27 : decode cX7_askOf 27 = .ok (.iload_n 3, 1) := by decide +kernel
theorem dX7_askOf_28 : decode cX7_askOf 28 = .ok (.invokevirtual 295, 3) := by decide +kernel
theorem dX7_askOf_31 : decode cX7_askOf 31 = .ok (.if_icmp .ge 8, 3) := by decide +kernel
theorem dX7_askOf_34 : decode cX7_askOf 34 = .ok (.iload 4, 2) := by decide +kernel
theorem dX7_askOf_36 : decode cX7_askOf 36 = .ok (.goto 4, 3) := by decide +kernel
theorem dX7_askOf_39 : decode cX7_askOf 39 = .ok (.iload_n 3, 1) := by decide +kernel
theorem dX7_askOf_40 : decode cX7_askOf 40 = .ok (.istore_n 3, 1) := by decide +kernel
theorem dX7_askOf_41 : decode cX7_askOf 41 = .ok (.iinc 4 1, 3) := by decide +kernel
theorem dX7_askOf_44 : decode cX7_askOf 44 = .ok (.goto (-33), 3) := by decide +kernel
theorem dX7_askOf_47 : decode cX7_askOf 47 = .ok (.iload_n 3, 1) := by decide +kernel
theorem dX7_askOf_48 : decode cX7_askOf 48 = .ok (.ireturn, 1) := by decide +kernel
theorem dX7_ask_0 : decode cX7_ask 0 = .ok (.aload_n 0, 1) := by decide +kernel
theorem dX7_ask_1 : decode cX7_ask 1 = .ok (.invokevirtual 221, 3) := by decide +kernel
theorem dX7_ask_4 : decode cX7_ask 4 = .ok (.aload_n 0, 1) := by decide +kernel
theorem dX7_ask_5 : decode cX7_ask 5 = .ok (.iload_n 1, 1) := by decide +kernel
theorem dX7_ask_6 : decode cX7_ask 6 = .ok (.invokevirtual 158, 3) := by decide +kernel
theorem dX7_ask_9 : decode cX7_ask 9 = .ok (.ifCond .eq 11, 3) := by decide +kernel
theorem dX7_ask_12 : decode cX7_ask 12 = .ok (.aload_n 0, 1) := by decide +kernel
theorem dX7_ask_13 : decode cX7_ask 13 = .ok (.iload_n 1, 1) := by decide +kernel
theorem dX7_ask_14 : decode cX7_ask 14 = .ok (.invokevirtual 298, 3) := by decide +kernel
theorem dX7_ask_17 : decode cX7_ask 17 = .ok (.goto 5, 3) := by decide +kernel
theorem dX7_ask_20 : decode cX7_ask 20 = .ok (.bipush (-2), 2) := by decide +kernel
theorem dX7_ask_22 : decode cX7_ask 22 = .ok (.ireturn, 1) := by decide +kernel
theorem dX7_chanceOf_0 : decode cX7_chanceOf 0 = .ok (.lconst 0, 1) := by decide +kernel
theorem dX7_chanceOf_1 : decode cX7_chanceOf 1 = .ok (.lstore 4, 2) := by decide +kernel
theorem dX7_chanceOf_3 : decode cX7_chanceOf 3 = .ok (.iconst 0, 1) := by decide +kernel
theorem dX7_chanceOf_4 : decode cX7_chanceOf 4 = .ok (.istore 6, 2) := by decide +kernel
theorem dX7_chanceOf_6 : decode cX7_chanceOf 6 = .ok (.iload 6, 2) := by decide +kernel
theorem dX7_chanceOf_8 : decode cX7_chanceOf 8 = .ok (.iconst 1, 1) := by decide +kernel
theorem dX7_chanceOf_9 : decode cX7_chanceOf 9 = .ok (.aload_n 0, 1) := by decide +kernel
theorem dX7_chanceOf_10 : decode cX7_chanceOf 10 = .ok (.getfield 171, 3) := by decide +kernel
theorem dX7_chanceOf_13 : decode cX7_chanceOf 13 = .ok (.ishl, 1) := by decide +kernel
theorem dX7_chanceOf_14 : decode cX7_chanceOf 14 = .ok (.if_icmp .ge 86, 3) := by decide +kernel
theorem dX7_chanceOf_17 : decode cX7_chanceOf 17 = .ok (.aload_n 0, 1) := by decide +kernel
theorem dX7_chanceOf_18 : decode cX7_chanceOf 18 = .ok (.iload 6, 2) := by decide +kernel
theorem dX7_chanceOf_20 : decode cX7_chanceOf 20 = .ok (.putfield 176, 3) := by decide +kernel
theorem dX7_chanceOf_23 : decode cX7_chanceOf 23 = .ok (.aload_n 0, 1) := by decide +kernel
theorem dX7_chanceOf_24 : decode cX7_chanceOf 24 = .ok (.invokevirtual 218, 3) := by decide +kernel
theorem dX7_chanceOf_27 : decode cX7_chanceOf 27 = .ok (.aload_n 0, 1) := by decide +kernel
theorem dX7_chanceOf_28 : decode cX7_chanceOf 28 = .ok (.getfield 40, 3) := by decide +kernel
theorem dX7_chanceOf_31 : decode cX7_chanceOf 31 = .ok (.iload_n 2, 1) := by decide +kernel
theorem dX7_chanceOf_32 : decode cX7_chanceOf 32 = .ok (.iaload, 1) := by decide +kernel
theorem dX7_chanceOf_33 : decode cX7_chanceOf 33 = .ok (.iconst 1, 1) := by decide +kernel
theorem dX7_chanceOf_34 : decode cX7_chanceOf 34 = .ok (.if_icmp .ne 7, 3) := by decide +kernel
theorem dX7_chanceOf_37 : decode cX7_chanceOf 37 = .ok (.lconst 1, 1) := by decide +kernel
theorem dX7_chanceOf_38 : decode cX7_chanceOf 38 = .ok (.goto 4, 3) := by decide +kernel
theorem dX7_chanceOf_41 : decode cX7_chanceOf 41 = .ok (.lconst 0, 1) := by decide +kernel
theorem dX7_chanceOf_42 : decode cX7_chanceOf 42 = .ok (.lstore 7, 2) := by decide +kernel
theorem dX7_chanceOf_44 : decode cX7_chanceOf 44 = .ok (.iconst 0, 1) := by decide +kernel
theorem dX7_chanceOf_45 : decode cX7_chanceOf 45 = .ok (.istore 9, 2) := by decide +kernel
theorem dX7_chanceOf_47 : decode cX7_chanceOf 47 = .ok (.iload 9, 2) := by decide +kernel
theorem dX7_chanceOf_49 : decode cX7_chanceOf 49 = .ok (.aload_n 0, 1) := by decide +kernel
theorem dX7_chanceOf_50 : decode cX7_chanceOf 50 = .ok (.getfield 171, 3) := by decide +kernel
theorem dX7_chanceOf_53 : decode cX7_chanceOf 53 = .ok (.if_icmp .ge 34, 3) := by decide +kernel
theorem dX7_chanceOf_56 : decode cX7_chanceOf 56 = .ok (.lload 7, 2) := by decide +kernel
theorem dX7_chanceOf_58 : decode cX7_chanceOf 58 = .ok (.iload 6, 2) := by decide +kernel
theorem dX7_chanceOf_60 : decode cX7_chanceOf 60 = .ok (.iload 9, 2) := by decide +kernel
theorem dX7_chanceOf_62 : decode cX7_chanceOf 62 = .ok (.invokestatic 179, 3) := by decide +kernel
theorem dX7_chanceOf_65 : decode cX7_chanceOf 65 = .ok (.ifCond .eq 11, 3) := by decide +kernel
theorem dX7_chanceOf_68 : decode cX7_chanceOf 68 = .ok (.bipush 16, 2) := by decide +kernel
theorem dX7_chanceOf_70 : decode cX7_chanceOf 70 = .ok (.iload_n 1, 1) := by decide +kernel
theorem dX7_chanceOf_71 : decode cX7_chanceOf 71 = .ok (.isub, 1) := by decide +kernel
theorem dX7_chanceOf_72 : decode cX7_chanceOf 72 = .ok (.i2l, 1) := by decide +kernel
theorem dX7_chanceOf_73 : decode cX7_chanceOf 73 = .ok (.goto 5, 3) := by decide +kernel
theorem dX7_chanceOf_76 : decode cX7_chanceOf 76 = .ok (.iload_n 1, 1) := by decide +kernel
theorem dX7_chanceOf_77 : decode cX7_chanceOf 77 = .ok (.i2l, 1) := by decide +kernel
theorem dX7_chanceOf_78 : decode cX7_chanceOf 78 = .ok (.lmul, 1) := by decide +kernel
theorem dX7_chanceOf_79 : decode cX7_chanceOf 79 = .ok (.lstore 7, 2) := by decide +kernel
theorem dX7_chanceOf_81 : decode cX7_chanceOf 81 = .ok (.iinc 9 1, 3) := by decide +kernel
theorem dX7_chanceOf_84 : decode cX7_chanceOf 84 = .ok (.goto (-37), 3) := by decide +kernel
theorem dX7_chanceOf_87 : decode cX7_chanceOf 87 = .ok (.lload 4, 2) := by decide +kernel
theorem dX7_chanceOf_89 : decode cX7_chanceOf 89 = .ok (.lload 7, 2) := by decide +kernel
theorem dX7_chanceOf_91 : decode cX7_chanceOf 91 = .ok (.ladd, 1) := by decide +kernel
theorem dX7_chanceOf_92 : decode cX7_chanceOf 92 = .ok (.lstore 4, 2) := by decide +kernel
theorem dX7_chanceOf_94 : decode cX7_chanceOf 94 = .ok (.iinc 6 1, 3) := by decide +kernel
theorem dX7_chanceOf_97 : decode cX7_chanceOf 97 = .ok (.goto (-91), 3) := by decide +kernel
theorem dX7_chanceOf_100 : decode cX7_chanceOf 100 = .ok (.aload_n 0, 1) := by decide +kernel
theorem dX7_chanceOf_101 : decode cX7_chanceOf 101 = .ok (.iconst 0, 1) := by decide +kernel
theorem dX7_chanceOf_102 : decode cX7_chanceOf 102 = .ok (.putfield 176, 3) := by decide +kernel
theorem dX7_chanceOf_105 : decode cX7_chanceOf 105 = .ok (.lload 4, 2) := by decide +kernel
theorem dX7_chanceOf_107 : decode cX7_chanceOf 107 = .ok (.lconst 1, 1) := by decide +kernel
theorem dX7_chanceOf_108 : decode cX7_chanceOf 108 = .ok (.iconst 4, 1) := by decide +kernel
theorem dX7_chanceOf_109 : decode cX7_chanceOf 109 = .ok (.aload_n 0, 1) := by decide +kernel
theorem dX7_chanceOf_110 : decode cX7_chanceOf 110 = .ok (.getfield 171, 3) := by decide +kernel
theorem dX7_chanceOf_113 : decode cX7_chanceOf 113 = .ok (.imul, 1) := by decide +kernel
theorem dX7_chanceOf_114 : decode cX7_chanceOf 114 = .ok (.lshl, 1) := by decide +kernel
theorem dX7_chanceOf_115 : decode cX7_chanceOf 115 = .ok (.iload_n 3, 1) := by decide +kernel
theorem dX7_chanceOf_116 : decode cX7_chanceOf 116 = .ok (.invokestatic 301, 3) := by decide +kernel
theorem dX7_chanceOf_119 : decode cX7_chanceOf 119 = .ok (.lreturn, 1) := by decide +kernel
theorem dX7_chance_0 : decode cX7_chance 0 = .ok (.aload_n 0, 1) := by decide +kernel
theorem dX7_chance_1 : decode cX7_chance 1 = .ok (.invokevirtual 221, 3) := by decide +kernel
theorem dX7_chance_4 : decode cX7_chance 4 = .ok (.iload_n 1, 1) := by decide +kernel
theorem dX7_chance_5 : decode cX7_chance 5 = .ok (.i2l, 1) := by decide +kernel
theorem dX7_chance_6 : decode cX7_chance 6 = .ok (.lconst 0, 1) := by decide +kernel
theorem dX7_chance_7 : decode cX7_chance 7 = .ok (.ldc2_w 305, 3) := by decide +kernel
theorem dX7_chance_10 : decode cX7_chance 10 = .ok (.invokestatic 76, 3) := by decide +kernel
theorem dX7_chance_13 : decode cX7_chance 13 = .ok (.ifCond .eq 28, 3) := by decide +kernel
theorem dX7_chance_16 : decode cX7_chance 16 = .ok (.aload_n 0, 1) := by decide +kernel
theorem dX7_chance_17 : decode cX7_chance 17 = .ok (.iload_n 2, 1) := by decide +kernel
theorem dX7_chance_18 : decode cX7_chance 18 = .ok (.invokevirtual 158, 3) := by decide +kernel
theorem dX7_chance_21 : decode cX7_chance 21 = .ok (.ifCond .eq 20, 3) := by decide +kernel
theorem dX7_chance_24 : decode cX7_chance 24 = .ok (.iload_n 3, 1) := by decide +kernel
theorem dX7_chance_25 : decode cX7_chance 25 = .ok (.invokestatic 155, 3) := by decide +kernel
theorem dX7_chance_28 : decode cX7_chance 28 = .ok (.ifCond .eq 13, 3) := by decide +kernel
theorem dX7_chance_31 : decode cX7_chance 31 = .ok (.aload_n 0, 1) := by decide +kernel
theorem dX7_chance_32 : decode cX7_chance 32 = .ok (.iload_n 1, 1) := by decide +kernel
theorem dX7_chance_33 : decode cX7_chance 33 = .ok (.iload_n 2, 1) := by decide +kernel
theorem dX7_chance_34 : decode cX7_chance 34 = .ok (.iload_n 3, 1) := by decide +kernel
theorem dX7_chance_35 : decode cX7_chance 35 = .ok (.invokevirtual 307, 3) := by decide +kernel
theorem dX7_chance_38 : decode cX7_chance 38 = .ok (.goto 8, 3) := by decide +kernel
theorem dX7_chance_41 : decode cX7_chance 41 = .ok (.bipush (-2), 2) := by decide +kernel
theorem dX7_chance_43 : decode cX7_chance 43 = .ok (.invokestatic 311, 3) := by decide +kernel
theorem dX7_chance_46 : decode cX7_chance 46 = .ok (.lreturn, 1) := by decide +kernel
theorem dX7_lot_0 : decode cX7_lot 0 = .ok (.aload_n 0, 1) := by decide +kernel
theorem dX7_lot_1 : decode cX7_lot 1 = .ok (.ldc_w 315, 3) := by decide +kernel
theorem dX7_lot_4 : decode cX7_lot 4 = .ok (.aload_n 0, 1) := by decide +kernel
theorem dX7_lot_5 : decode cX7_lot 5 = .ok (.getfield 316, 3) := by decide +kernel
theorem dX7_lot_8 : decode cX7_lot 8 = .ok (.imul, 1) := by decide +kernel
theorem dX7_lot_9 : decode cX7_lot 9 = .ok (.sipush 12345, 3) := by decide +kernel
theorem dX7_lot_12 : decode cX7_lot 12 = .ok (.iadd, 1) := by decide +kernel
theorem dX7_lot_13 : decode cX7_lot 13 = .ok (.putfield 316, 3) := by decide +kernel
theorem dX7_lot_16 : decode cX7_lot 16 = .ok (.aload_n 0, 1) := by decide +kernel
theorem dX7_lot_17 : decode cX7_lot 17 = .ok (.getfield 316, 3) := by decide +kernel
theorem dX7_lot_20 : decode cX7_lot 20 = .ok (.bipush 16, 2) := by decide +kernel
theorem dX7_lot_22 : decode cX7_lot 22 = .ok (.iushr, 1) := by decide +kernel
theorem dX7_lot_23 : decode cX7_lot 23 = .ok (.iload_n 1, 1) := by decide +kernel
theorem dX7_lot_24 : decode cX7_lot 24 = .ok (.irem, 1) := by decide +kernel
theorem dX7_lot_25 : decode cX7_lot 25 = .ok (.ireturn, 1) := by decide +kernel
theorem dX7_livesOf_0 : decode cX7_livesOf 0 = .ok (.aload_n 0, 1) := by decide +kernel
theorem dX7_livesOf_1 : decode cX7_livesOf 1 = .ok (.iload_n 1, 1) := by decide +kernel
theorem dX7_livesOf_2 : decode cX7_livesOf 2 = .ok (.putfield 316, 3) := by decide +kernel
theorem dX7_livesOf_5 : decode cX7_livesOf 5 = .ok (.aload_n 0, 1) := by decide +kernel
theorem dX7_livesOf_6 : decode cX7_livesOf 6 = .ok (.iconst 0, 1) := by decide +kernel
theorem dX7_livesOf_7 : decode cX7_livesOf 7 = .ok (.putfield 131, 3) := by decide +kernel
theorem dX7_livesOf_10 : decode cX7_livesOf 10 = .ok (.iconst 0, 1) := by decide +kernel
theorem dX7_livesOf_11 : decode cX7_livesOf 11 = .ok (.istore 4, 2) := by decide +kernel
theorem dX7_livesOf_13 : decode cX7_livesOf 13 = .ok (.iload 4, 2) := by decide +kernel
theorem dX7_livesOf_15 : decode cX7_livesOf 15 = .ok (.iload_n 2, 1) := by decide +kernel
theorem dX7_livesOf_16 : decode cX7_livesOf 16 = .ok (.if_icmp .ge 79, 3) := by decide +kernel
theorem dX7_livesOf_19 : decode cX7_livesOf 19 = .ok (.aload_n 0, 1) := by decide +kernel
theorem dX7_livesOf_20 : decode cX7_livesOf 20 = .ok (.getfield 116, 3) := by decide +kernel
theorem dX7_livesOf_23 : decode cX7_livesOf 23 = .ok (.ifCond .le 72, 3) := by decide +kernel
theorem dX7_livesOf_26 : decode cX7_livesOf 26 = .ok (.aload_n 0, 1) := by decide +kernel
theorem dX7_livesOf_27 : decode cX7_livesOf 27 = .ok (.getfield 34, 3) := by decide +kernel
theorem dX7_livesOf_30 : decode cX7_livesOf 30 = .ok (.iconst 3, 1) := by decide +kernel
theorem dX7_livesOf_31 : decode cX7_livesOf 31 = .ok (.iload 4, 2) := by decide +kernel
theorem dX7_livesOf_33 : decode cX7_livesOf 33 = .ok (.imul, 1) := by decide +kernel
theorem dX7_livesOf_34 : decode cX7_livesOf 34 = .ok (.aload_n 0, 1) := by decide +kernel
theorem dX7_livesOf_35 : decode cX7_livesOf 35 = .ok (.bipush 24, 2) := by decide +kernel
theorem dX7_livesOf_37 : decode cX7_livesOf 37 = .ok (.invokevirtual 319, 3) := by decide +kernel
theorem dX7_livesOf_40 : decode cX7_livesOf 40 = .ok (.iastore, 1) := by decide +kernel
theorem dX7_livesOf_41 : decode cX7_livesOf 41 = .ok (.aload_n 0, 1) := by decide +kernel
theorem dX7_livesOf_42 : decode cX7_livesOf 42 = .ok (.getfield 34, 3) := by decide +kernel
theorem dX7_livesOf_45 : decode cX7_livesOf 45 = .ok (.iconst 3, 1) := by decide +kernel
theorem dX7_livesOf_46 : decode cX7_livesOf 46 = .ok (.iload 4, 2) := by decide +kernel
theorem dX7_livesOf_48 : decode cX7_livesOf 48 = .ok (.imul, 1) := by decide +kernel
theorem dX7_livesOf_49 : decode cX7_livesOf 49 = .ok (.iconst 1, 1) := by decide +kernel
theorem dX7_livesOf_50 : decode cX7_livesOf 50 = .ok (.iadd, 1) := by decide +kernel
theorem dX7_livesOf_51 : decode cX7_livesOf 51 = .ok (.aload_n 0, 1) := by decide +kernel
theorem dX7_livesOf_52 : decode cX7_livesOf 52 = .ok (.aload_n 0, 1) := by decide +kernel
theorem dX7_livesOf_53 : decode cX7_livesOf 53 = .ok (.getfield 116, 3) := by decide +kernel
theorem dX7_livesOf_56 : decode cX7_livesOf 56 = .ok (.invokevirtual 319, 3) := by decide +kernel
theorem dX7_livesOf_59 : decode cX7_livesOf 59 = .ok (.iastore, 1) := by decide +kernel
theorem dX7_livesOf_60 : decode cX7_livesOf 60 = .ok (.aload_n 0, 1) := by decide +kernel
theorem dX7_livesOf_61 : decode cX7_livesOf 61 = .ok (.getfield 34, 3) := by decide +kernel
theorem dX7_livesOf_64 : decode cX7_livesOf 64 = .ok (.iconst 3, 1) := by decide +kernel
theorem dX7_livesOf_65 : decode cX7_livesOf 65 = .ok (.iload 4, 2) := by decide +kernel
theorem dX7_livesOf_67 : decode cX7_livesOf 67 = .ok (.imul, 1) := by decide +kernel
theorem dX7_livesOf_68 : decode cX7_livesOf 68 = .ok (.iconst 2, 1) := by decide +kernel
theorem dX7_livesOf_69 : decode cX7_livesOf 69 = .ok (.iadd, 1) := by decide +kernel
theorem dX7_livesOf_70 : decode cX7_livesOf 70 = .ok (.aload_n 0, 1) := by decide +kernel
theorem dX7_livesOf_71 : decode cX7_livesOf 71 = .ok (.aload_n 0, 1) := by decide +kernel
theorem dX7_livesOf_72 : decode cX7_livesOf 72 = .ok (.getfield 116, 3) := by decide +kernel
theorem dX7_livesOf_75 : decode cX7_livesOf 75 = .ok (.invokevirtual 319, 3) := by decide +kernel
theorem dX7_livesOf_78 : decode cX7_livesOf 78 = .ok (.iastore, 1) := by decide +kernel
theorem dX7_livesOf_79 : decode cX7_livesOf 79 = .ok (.aload_n 0, 1) := by decide +kernel
theorem dX7_livesOf_80 : decode cX7_livesOf 80 = .ok (.dup, 1) := by decide +kernel
theorem dX7_livesOf_81 : decode cX7_livesOf 81 = .ok (.getfield 131, 3) := by decide +kernel
theorem dX7_livesOf_84 : decode cX7_livesOf 84 = .ok (.iconst 1, 1) := by decide +kernel
theorem dX7_livesOf_85 : decode cX7_livesOf 85 = .ok (.iadd, 1) := by decide +kernel
theorem dX7_livesOf_86 : decode cX7_livesOf 86 = .ok (.putfield 131, 3) := by decide +kernel
theorem dX7_livesOf_89 : decode cX7_livesOf 89 = .ok (.iinc 4 1, 3) := by decide +kernel
theorem dX7_livesOf_92 : decode cX7_livesOf 92 = .ok (.goto (-79), 3) := by decide +kernel
theorem dX7_livesOf_95 : decode cX7_livesOf 95 = .ok (.aload_n 0, 1) := by decide +kernel
theorem dX7_livesOf_96 : decode cX7_livesOf 96 = .ok (.invokevirtual 218, 3) := by decide +kernel
theorem dX7_livesOf_99 : decode cX7_livesOf 99 = .ok (.aload_n 0, 1) := by decide +kernel
theorem dX7_livesOf_100 : decode cX7_livesOf 100 = .ok (.invokevirtual 144, 3) := by decide +kernel
theorem dX7_livesOf_103 : decode cX7_livesOf 103 = .ok (.pop, 1) := by decide +kernel
theorem dX7_livesOf_104 : decode cX7_livesOf 104 = .ok (.aload_n 0, 1) := by decide +kernel
theorem dX7_livesOf_105 : decode cX7_livesOf 105 = .ok (.iload_n 3, 1) := by decide +kernel
theorem dX7_livesOf_106 : decode cX7_livesOf 106 = .ok (.ifCond .ne 7, 3) := by decide +kernel
theorem dX7_livesOf_109 : decode cX7_livesOf 109 = .ok (.iconst 1, 1) := by decide +kernel
theorem dX7_livesOf_110 : decode cX7_livesOf 110 = .ok (.goto 4, 3) := by decide +kernel
theorem dX7_livesOf_113 : decode cX7_livesOf 113 = .ok (.iconst 3, 1) := by decide +kernel
theorem dX7_livesOf_114 : decode cX7_livesOf 114 = .ok (.invokevirtual 263, 3) := by decide +kernel
theorem dX7_livesOf_117 : decode cX7_livesOf 117 = .ok (.ireturn, 1) := by decide +kernel
theorem dX7_lives_0 : decode cX7_lives 0 = .ok (.aload_n 0, 1) := by decide +kernel
theorem dX7_lives_1 : decode cX7_lives 1 = .ok (.invokevirtual 221, 3) := by decide +kernel
theorem dX7_lives_4 : decode cX7_lives 4 = .ok (.iload_n 2, 1) := by decide +kernel
theorem dX7_lives_5 : decode cX7_lives 5 = .ok (.i2l, 1) := by decide +kernel
theorem dX7_lives_6 : decode cX7_lives 6 = .ok (.lconst 0, 1) := by decide +kernel
theorem dX7_lives_7 : decode cX7_lives 7 = .ok (.ldc2_w 322, 3) := by decide +kernel
theorem dX7_lives_10 : decode cX7_lives 10 = .ok (.invokestatic 76, 3) := by decide +kernel
theorem dX7_lives_13 : decode cX7_lives 13 = .ok (.ifCond .eq 20, 3) := by decide +kernel
theorem dX7_lives_16 : decode cX7_lives 16 = .ok (.iload_n 3, 1) := by decide +kernel
theorem dX7_lives_17 : decode cX7_lives 17 = .ok (.invokestatic 155, 3) := by decide +kernel
theorem dX7_lives_20 : decode cX7_lives 20 = .ok (.ifCond .eq 13, 3) := by decide +kernel
theorem dX7_lives_23 : decode cX7_lives 23 = .ok (.aload_n 0, 1) := by decide +kernel
theorem dX7_lives_24 : decode cX7_lives 24 = .ok (.iload_n 1, 1) := by decide +kernel
theorem dX7_lives_25 : decode cX7_lives 25 = .ok (.iload_n 2, 1) := by decide +kernel
theorem dX7_lives_26 : decode cX7_lives 26 = .ok (.iload_n 3, 1) := by decide +kernel
theorem dX7_lives_27 : decode cX7_lives 27 = .ok (.invokevirtual 324, 3) := by decide +kernel
theorem dX7_lives_30 : decode cX7_lives 30 = .ok (.goto 5, 3) := by decide +kernel
theorem dX7_lives_33 : decode cX7_lives 33 = .ok (.bipush (-2), 2) := by decide +kernel
theorem dX7_lives_35 : decode cX7_lives 35 = .ok (.ireturn, 1) := by decide +kernel
theorem dX7_write_0 : decode cX7_write 0 = .ok (.aload_n 0, 1) := by decide +kernel
theorem dX7_write_1 : decode cX7_write 1 = .ok (.invokevirtual 221, 3) := by decide +kernel
theorem dX7_write_4 : decode cX7_write 4 = .ok (.aload_n 0, 1) := by decide +kernel
theorem dX7_write_5 : decode cX7_write 5 = .ok (.iload_n 1, 1) := by decide +kernel
theorem dX7_write_6 : decode cX7_write 6 = .ok (.invokevirtual 158, 3) := by decide +kernel
theorem dX7_write_9 : decode cX7_write 9 = .ok (.ifCond .eq 10, 3) := by decide +kernel
theorem dX7_write_12 : decode cX7_write 12 = .ok (.iload_n 2, 1) := by decide +kernel
theorem dX7_write_13 : decode cX7_write 13 = .ok (.invokestatic 85, 3) := by decide +kernel
theorem dX7_write_16 : decode cX7_write 16 = .ok (.ifCond .ne 6, 3) := by decide +kernel
theorem dX7_write_19 : decode cX7_write 19 = .ok (.bipush (-2), 2) := by decide +kernel
theorem dX7_write_21 : decode cX7_write 21 = .ok (.ireturn, 1) := by decide +kernel
theorem dX7_write_22 : decode cX7_write 22 = .ok (.aload_n 0, 1) := by decide +kernel
theorem dX7_write_23 : decode cX7_write 23 = .ok (.getfield 7, 3) := by decide +kernel
theorem dX7_write_26 : decode cX7_write 26 = .ok (.iload_n 2, 1) := by decide +kernel
theorem dX7_write_27 : decode cX7_write 27 = .ok (.iaload, 1) := by decide +kernel
theorem dX7_write_28 : decode cX7_write 28 = .ok (.ifCond .ge 9, 3) := by decide +kernel
theorem dX7_write_31 : decode cX7_write 31 = .ok (.aload_n 0, 1) := by decide +kernel
theorem dX7_write_32 : decode cX7_write 32 = .ok (.iconst 1, 1) := by decide +kernel
theorem dX7_write_33 : decode cX7_write 33 = .ok (.invokevirtual 91, 3) := by decide +kernel
theorem dX7_write_36 : decode cX7_write 36 = .ok (.ireturn, 1) := by decide +kernel
theorem dX7_write_37 : decode cX7_write 37 = .ok (.aload_n 0, 1) := by decide +kernel
theorem dX7_write_38 : decode cX7_write 38 = .ok (.getfield 13, 3) := by decide +kernel
theorem dX7_write_41 : decode cX7_write 41 = .ok (.iload_n 2, 1) := by decide +kernel
theorem dX7_write_42 : decode cX7_write 42 = .ok (.iaload, 1) := by decide +kernel
theorem dX7_write_43 : decode cX7_write 43 = .ok (.bipush 24, 2) := by decide +kernel
theorem dX7_write_45 : decode cX7_write 45 = .ok (.invokestatic 183, 3) := by decide +kernel
theorem dX7_write_48 : decode cX7_write 48 = .ok (.istore_n 3, 1) := by decide +kernel
theorem dX7_write_49 : decode cX7_write 49 = .ok (.iconst 0, 1) := by decide +kernel
theorem dX7_write_50 : decode cX7_write 50 = .ok (.istore 4, 2) := by decide +kernel
theorem dX7_write_52 : decode cX7_write 52 = .ok (.iload 4, 2) := by decide +kernel
theorem dX7_write_54 : decode cX7_write 54 = .ok (.iload_n 3, 1) := by decide +kernel
theorem dX7_write_55 : decode cX7_write 55 = .ok (.if_icmp .ge 42, 3) := by decide +kernel
theorem dX7_write_58 : decode cX7_write 58 = .ok (.aload_n 0, 1) := by decide +kernel
theorem dX7_write_59 : decode cX7_write 59 = .ok (.getfield 16, 3) := by decide +kernel
theorem dX7_write_62 : decode cX7_write 62 = .ok (.bipush 60, 2) := by decide +kernel
theorem dX7_write_64 : decode cX7_write 64 = .ok (.iload_n 2, 1) := by decide +kernel
theorem dX7_write_65 : decode cX7_write 65 = .ok (.imul, 1) := by decide +kernel
theorem dX7_write_66 : decode cX7_write 66 = .ok (.iload 4, 2) := by decide +kernel
theorem dX7_write_68 : decode cX7_write 68 = .ok (.iadd, 1) := by decide +kernel
theorem dX7_write_69 : decode cX7_write 69 = .ok (.aload_n 0, 1) := by decide +kernel
theorem dX7_write_70 : decode cX7_write 70 = .ok (.getfield 7, 3) := by decide +kernel
theorem dX7_write_73 : decode cX7_write 73 = .ok (.iload_n 2, 1) := by decide +kernel
theorem dX7_write_74 : decode cX7_write 74 = .ok (.iaload, 1) := by decide +kernel
theorem dX7_write_75 : decode cX7_write 75 = .ok (.aload_n 0, 1) := by decide +kernel
theorem dX7_write_76 : decode cX7_write 76 = .ok (.getfield 55, 3) := by decide +kernel
theorem dX7_write_79 : decode cX7_write 79 = .ok (.bipush 12, 2) := by decide +kernel
theorem dX7_write_81 : decode cX7_write 81 = .ok (.iload 4, 2) := by decide +kernel
theorem dX7_write_83 : decode cX7_write 83 = .ok (.imul, 1) := by decide +kernel
theorem dX7_write_84 : decode cX7_write 84 = .ok (.iload_n 1, 1) := by decide +kernel
theorem dX7_write_85 : decode cX7_write 85 = .ok (.iadd, 1) := by decide +kernel
theorem dX7_write_86 : decode cX7_write 86 = .ok (.iaload, 1) := by decide +kernel
theorem dX7_write_87 : decode cX7_write 87 = .ok (.invokestatic 99, 3) := by decide +kernel
theorem dX7_write_90 : decode cX7_write 90 = .ok (.iastore, 1) := by decide +kernel
theorem dX7_write_91 : decode cX7_write 91 = .ok (.iinc 4 1, 3) := by decide +kernel
theorem dX7_write_94 : decode cX7_write 94 = .ok (.goto (-42), 3) := by decide +kernel
theorem dX7_write_97 : decode cX7_write 97 = .ok (.iload_n 3, 1) := by decide +kernel
theorem dX7_write_98 : decode cX7_write 98 = .ok (.ireturn, 1) := by decide +kernel
theorem dX7_count_0 : decode cX7_count 0 = .ok (.aload_n 0, 1) := by decide +kernel
theorem dX7_count_1 : decode cX7_count 1 = .ok (.invokevirtual 221, 3) := by decide +kernel
theorem dX7_count_4 : decode cX7_count 4 = .ok (.iload_n 1, 1) := by decide +kernel
theorem dX7_count_5 : decode cX7_count 5 = .ok (.tableswitch 90 0 8 #[51, 56, 61, 66, 66, 66, 75, 80, 85], 51) := by decide +kernel
theorem dX7_count_56 : decode cX7_count 56 = .ok (.aload_n 0, 1) := by decide +kernel
theorem dX7_count_57 : decode cX7_count 57 = .ok (.getfield 116, 3) := by decide +kernel
theorem dX7_count_60 : decode cX7_count 60 = .ok (.ireturn, 1) := by decide +kernel
theorem dX7_count_61 : decode cX7_count 61 = .ok (.aload_n 0, 1) := by decide +kernel
theorem dX7_count_62 : decode cX7_count 62 = .ok (.getfield 125, 3) := by decide +kernel
theorem dX7_count_65 : decode cX7_count 65 = .ok (.ireturn, 1) := by decide +kernel
theorem dX7_count_66 : decode cX7_count 66 = .ok (.aload_n 0, 1) := by decide +kernel
theorem dX7_count_67 : decode cX7_count 67 = .ok (.getfield 131, 3) := by decide +kernel
theorem dX7_count_70 : decode cX7_count 70 = .ok (.ireturn, 1) := by decide +kernel
theorem dX7_count_71 : decode cX7_count 71 = .ok (.aload_n 0, 1) := by decide +kernel
theorem dX7_count_72 : decode cX7_count 72 = .ok (.getfield 25, 3) := by decide +kernel
theorem dX7_count_75 : decode cX7_count 75 = .ok (.iload_n 1, 1) := by decide +kernel
theorem dX7_count_76 : decode cX7_count 76 = .ok (.iconst 3, 1) := by decide +kernel
theorem dX7_count_77 : decode cX7_count 77 = .ok (.isub, 1) := by decide +kernel
theorem dX7_count_78 : decode cX7_count 78 = .ok (.iaload, 1) := by decide +kernel
theorem dX7_count_79 : decode cX7_count 79 = .ok (.ireturn, 1) := by decide +kernel
theorem dX7_count_80 : decode cX7_count 80 = .ok (.aload_n 0, 1) := by decide +kernel
theorem dX7_count_81 : decode cX7_count 81 = .ok (.getfield 171, 3) := by decide +kernel
theorem dX7_count_84 : decode cX7_count 84 = .ok (.ireturn, 1) := by decide +kernel
theorem dX7_count_85 : decode cX7_count 85 = .ok (.aload_n 0, 1) := by decide +kernel
theorem dX7_count_86 : decode cX7_count 86 = .ok (.getfield 279, 3) := by decide +kernel
theorem dX7_count_89 : decode cX7_count 89 = .ok (.ireturn, 1) := by decide +kernel
theorem dX7_count_90 : decode cX7_count 90 = .ok (.aload_n 0, 1) := by decide +kernel
theorem dX7_count_91 : decode cX7_count 91 = .ok (.getfield 80, 3) := by decide +kernel
theorem dX7_count_94 : decode cX7_count 94 = .ok (.ireturn, 1) := by decide +kernel
theorem dX7_count_95 : decode cX7_count 95 = .ok (.bipush (-2), 2) := by decide +kernel
theorem dX7_count_97 : decode cX7_count 97 = .ok (.ireturn, 1) := by decide +kernel
theorem dX7_tellsDay_0 : decode cX7_tellsDay 0 = .ok (.ldc2_w 327, 3) := by decide +kernel
theorem dX7_tellsDay_3 : decode cX7_tellsDay 3 = .ok (.ldc2_w 327, 3) := by decide +kernel
theorem dX7_tellsDay_6 : decode cX7_tellsDay 6 = .ok (.lload_n 1, 1) := by decide +kernel
theorem dX7_tellsDay_7 : decode cX7_tellsDay 7 = .ok (.lmul, 1) := by decide +kernel
theorem dX7_tellsDay_8 : decode cX7_tellsDay 8 = .ok (.aload_n 0, 1) := by decide +kernel
theorem dX7_tellsDay_9 : decode cX7_tellsDay 9 = .ok (.getfield 52, 3) := by decide +kernel
theorem dX7_tellsDay_12 : decode cX7_tellsDay 12 = .ok (.bipush 12, 2) := by decide +kernel
theorem dX7_tellsDay_14 : decode cX7_tellsDay 14 = .ok (.iload_n 3, 1) := by decide +kernel
theorem dX7_tellsDay_15 : decode cX7_tellsDay 15 = .ok (.imul, 1) := by decide +kernel
theorem dX7_tellsDay_16 : decode cX7_tellsDay 16 = .ok (.iload 4, 2) := by decide +kernel
theorem dX7_tellsDay_18 : decode cX7_tellsDay 18 = .ok (.iadd, 1) := by decide +kernel
theorem dX7_tellsDay_19 : decode cX7_tellsDay 19 = .ok (.iaload, 1) := by decide +kernel
theorem dX7_tellsDay_20 : decode cX7_tellsDay 20 = .ok (.i2l, 1) := by decide +kernel
theorem dX7_tellsDay_21 : decode cX7_tellsDay 21 = .ok (.ladd, 1) := by decide +kernel
theorem dX7_tellsDay_22 : decode cX7_tellsDay 22 = .ok (.lmul, 1) := by decide +kernel
theorem dX7_tellsDay_23 : decode cX7_tellsDay 23 = .ok (.aload_n 0, 1) := by decide +kernel
theorem dX7_tellsDay_24 : decode cX7_tellsDay 24 = .ok (.getfield 55, 3) := by decide +kernel
theorem dX7_tellsDay_27 : decode cX7_tellsDay 27 = .ok (.bipush 12, 2) := by decide +kernel
theorem dX7_tellsDay_29 : decode cX7_tellsDay 29 = .ok (.iload_n 3, 1) := by decide +kernel
theorem dX7_tellsDay_30 : decode cX7_tellsDay 30 = .ok (.imul, 1) := by decide +kernel
theorem dX7_tellsDay_31 : decode cX7_tellsDay 31 = .ok (.iload 4, 2) := by decide +kernel
theorem dX7_tellsDay_33 : decode cX7_tellsDay 33 = .ok (.iadd, 1) := by decide +kernel
theorem dX7_tellsDay_34 : decode cX7_tellsDay 34 = .ok (.iaload, 1) := by decide +kernel
theorem dX7_tellsDay_35 : decode cX7_tellsDay 35 = .ok (.i2l, 1) := by decide +kernel
theorem dX7_tellsDay_36 : decode cX7_tellsDay 36 = .ok (.ladd, 1) := by decide +kernel
theorem dX7_tellsDay_37 : decode cX7_tellsDay 37 = .ok (.lreturn, 1) := by decide +kernel
theorem dX7_tellsWord_0 : decode cX7_tellsWord 0 = .ok (.aload_n 0, 1) := by decide +kernel
theorem dX7_tellsWord_1 : decode cX7_tellsWord 1 = .ok (.invokevirtual 218, 3) := by decide +kernel
theorem dX7_tellsWord_4 : decode cX7_tellsWord 4 = .ok (.lload_n 1, 1) := by decide +kernel
theorem dX7_tellsWord_5 : decode cX7_tellsWord 5 = .ok (.lstore 4, 2) := by decide +kernel
theorem dX7_tellsWord_7 : decode cX7_tellsWord 7 = .ok (.iconst 0, 1) := by decide +kernel
theorem dX7_tellsWord_8 : decode cX7_tellsWord 8 = .ok (.istore 6, 2) := by decide +kernel
theorem dX7_tellsWord_10 : decode cX7_tellsWord 10 = .ok (.iload 6, 2) := by decide +kernel
theorem dX7_tellsWord_12 : decode cX7_tellsWord 12 = .ok (.iconst 3, 1) := by decide +kernel
theorem dX7_tellsWord_13 : decode cX7_tellsWord 13 = .ok (.if_icmp .ge 30, 3) := by decide +kernel
theorem dX7_tellsWord_16 : decode cX7_tellsWord 16 = .ok (.ldc2_w 327, 3) := by decide +kernel
theorem dX7_tellsWord_19 : decode cX7_tellsWord 19 = .ok (.lload 4, 2) := by decide +kernel
theorem dX7_tellsWord_21 : decode cX7_tellsWord 21 = .ok (.lmul, 1) := by decide +kernel
theorem dX7_tellsWord_22 : decode cX7_tellsWord 22 = .ok (.aload_n 0, 1) := by decide +kernel
theorem dX7_tellsWord_23 : decode cX7_tellsWord 23 = .ok (.getfield 31, 3) := by decide +kernel
theorem dX7_tellsWord_26 : decode cX7_tellsWord 26 = .ok (.iconst 3, 1) := by decide +kernel
theorem dX7_tellsWord_27 : decode cX7_tellsWord 27 = .ok (.iload_n 3, 1) := by decide +kernel
theorem dX7_tellsWord_28 : decode cX7_tellsWord 28 = .ok (.imul, 1) := by decide +kernel
theorem dX7_tellsWord_29 : decode cX7_tellsWord 29 = .ok (.iload 6, 2) := by decide +kernel
theorem dX7_tellsWord_31 : decode cX7_tellsWord 31 = .ok (.iadd, 1) := by decide +kernel
theorem dX7_tellsWord_32 : decode cX7_tellsWord 32 = .ok (.iaload, 1) := by decide +kernel
theorem dX7_tellsWord_33 : decode cX7_tellsWord 33 = .ok (.i2l, 1) := by decide +kernel
theorem dX7_tellsWord_34 : decode cX7_tellsWord 34 = .ok (.ladd, 1) := by decide +kernel
theorem dX7_tellsWord_35 : decode cX7_tellsWord 35 = .ok (.lstore 4, 2) := by decide +kernel
theorem dX7_tellsWord_37 : decode cX7_tellsWord 37 = .ok (.iinc 6 1, 3) := by decide +kernel
theorem dX7_tellsWord_40 : decode cX7_tellsWord 40 = .ok (.goto (-30), 3) := by decide +kernel
theorem dX7_tellsWord_43 : decode cX7_tellsWord 43 = .ok (.aload_n 0, 1) := by decide +kernel
theorem dX7_tellsWord_44 : decode cX7_tellsWord 44 = .ok (.aload_n 0, 1) := by decide +kernel
theorem dX7_tellsWord_45 : decode cX7_tellsWord 45 = .ok (.aload_n 0, 1) := by decide +kernel
theorem dX7_tellsWord_46 : decode cX7_tellsWord 46 = .ok (.aload_n 0, 1) := by decide +kernel
theorem dX7_tellsWord_47 : decode cX7_tellsWord 47 = .ok (.lload 4, 2) := by decide +kernel
theorem dX7_tellsWord_49 : decode cX7_tellsWord 49 = .ok (.iconst 0, 1) := by decide +kernel
theorem dX7_tellsWord_50 : decode cX7_tellsWord 50 = .ok (.iload_n 3, 1) := by decide +kernel
theorem dX7_tellsWord_51 : decode cX7_tellsWord 51 = .ok (.invokevirtual 329, 3) := by decide +kernel
theorem dX7_tellsWord_54 : decode cX7_tellsWord 54 = .ok (.bipush 6, 2) := by decide +kernel
theorem dX7_tellsWord_56 : decode cX7_tellsWord 56 = .ok (.iload_n 3, 1) := by decide +kernel
theorem dX7_tellsWord_57 : decode cX7_tellsWord 57 = .ok (.invokevirtual 329, 3) := by decide +kernel
theorem dX7_tellsWord_60 : decode cX7_tellsWord 60 = .ok (.bipush 13, 2) := by decide +kernel
theorem dX7_tellsWord_62 : decode cX7_tellsWord 62 = .ok (.iload_n 3, 1) := by decide +kernel
theorem dX7_tellsWord_63 : decode cX7_tellsWord 63 = .ok (.invokevirtual 329, 3) := by decide +kernel
theorem dX7_tellsWord_66 : decode cX7_tellsWord 66 = .ok (.bipush 23, 2) := by decide +kernel
theorem dX7_tellsWord_68 : decode cX7_tellsWord 68 = .ok (.iload_n 3, 1) := by decide +kernel
theorem dX7_tellsWord_69 : decode cX7_tellsWord 69 = .ok (.invokevirtual 329, 3) := by decide +kernel
theorem dX7_tellsWord_72 : decode cX7_tellsWord 72 = .ok (.lstore 4, 2) := by decide +kernel
theorem dX7_tellsWord_74 : decode cX7_tellsWord 74 = .ok (.ldc2_w 327, 3) := by decide +kernel
theorem dX7_tellsWord_77 : decode cX7_tellsWord 77 = .ok (.lload 4, 2) := by decide +kernel
theorem dX7_tellsWord_79 : decode cX7_tellsWord 79 = .ok (.lmul, 1) := by decide +kernel
theorem dX7_tellsWord_80 : decode cX7_tellsWord 80 = .ok (.aload_n 0, 1) := by decide +kernel
theorem dX7_tellsWord_81 : decode cX7_tellsWord 81 = .ok (.iload_n 3, 1) := by decide +kernel
theorem dX7_tellsWord_82 : decode cX7_tellsWord 82 = .ok (.invokevirtual 292, 3) := by decide +kernel
theorem dX7_tellsWord_85 : decode cX7_tellsWord 85 = .ok (.i2l, 1) := by decide +kernel
theorem dX7_tellsWord_86 : decode cX7_tellsWord 86 = .ok (.ladd, 1) := by decide +kernel
theorem dX7_tellsWord_87 : decode cX7_tellsWord 87 = .ok (.lstore 4, 2) := by decide +kernel
theorem dX7_tellsWord_89 : decode cX7_tellsWord 89 = .ok (.ldc2_w 327, 3) := by decide +kernel
theorem dX7_tellsWord_92 : decode cX7_tellsWord 92 = .ok (.lload 4, 2) := by decide +kernel
theorem dX7_tellsWord_94 : decode cX7_tellsWord 94 = .ok (.lmul, 1) := by decide +kernel
theorem dX7_tellsWord_95 : decode cX7_tellsWord 95 = .ok (.aload_n 0, 1) := by decide +kernel
theorem dX7_tellsWord_96 : decode cX7_tellsWord 96 = .ok (.iload_n 3, 1) := by decide +kernel
theorem dX7_tellsWord_97 : decode cX7_tellsWord 97 = .ok (.invokevirtual 298, 3) := by decide +kernel
theorem dX7_tellsWord_100 : decode cX7_tellsWord 100 = .ok (.i2l, 1) := by decide +kernel
theorem dX7_tellsWord_101 : decode cX7_tellsWord 101 = .ok (.ladd, 1) := by decide +kernel
theorem dX7_tellsWord_102 : decode cX7_tellsWord 102 = .ok (.lstore 4, 2) := by decide +kernel
theorem dX7_tellsWord_104 : decode cX7_tellsWord 104 = .ok (.ldc2_w 327, 3) := by decide +kernel
theorem dX7_tellsWord_107 : decode cX7_tellsWord 107 = .ok (.lload 4, 2) := by decide +kernel
theorem dX7_tellsWord_109 : decode cX7_tellsWord 109 = .ok (.lmul, 1) := by decide +kernel
theorem dX7_tellsWord_110 : decode cX7_tellsWord 110 = .ok (.aload_n 0, 1) := by decide +kernel
theorem dX7_tellsWord_111 : decode cX7_tellsWord 111 = .ok (.iconst 5, 1) := by decide +kernel
theorem dX7_tellsWord_112 : decode cX7_tellsWord 112 = .ok (.iload_n 3, 1) := by decide +kernel
theorem dX7_tellsWord_113 : decode cX7_tellsWord 113 = .ok (.iconst 0, 1) := by decide +kernel
theorem dX7_tellsWord_114 : decode cX7_tellsWord 114 = .ok (.invokevirtual 307, 3) := by decide +kernel
theorem dX7_tellsWord_117 : decode cX7_tellsWord 117 = .ok (.ladd, 1) := by decide +kernel
theorem dX7_tellsWord_118 : decode cX7_tellsWord 118 = .ok (.lstore 4, 2) := by decide +kernel
theorem dX7_tellsWord_120 : decode cX7_tellsWord 120 = .ok (.ldc2_w 327, 3) := by decide +kernel
theorem dX7_tellsWord_123 : decode cX7_tellsWord 123 = .ok (.lload 4, 2) := by decide +kernel
theorem dX7_tellsWord_125 : decode cX7_tellsWord 125 = .ok (.lmul, 1) := by decide +kernel
theorem dX7_tellsWord_126 : decode cX7_tellsWord 126 = .ok (.aload_n 0, 1) := by decide +kernel
theorem dX7_tellsWord_127 : decode cX7_tellsWord 127 = .ok (.iconst 5, 1) := by decide +kernel
theorem dX7_tellsWord_128 : decode cX7_tellsWord 128 = .ok (.iload_n 3, 1) := by decide +kernel
theorem dX7_tellsWord_129 : decode cX7_tellsWord 129 = .ok (.iconst 1, 1) := by decide +kernel
theorem dX7_tellsWord_130 : decode cX7_tellsWord 130 = .ok (.invokevirtual 307, 3) := by decide +kernel
theorem dX7_tellsWord_133 : decode cX7_tellsWord 133 = .ok (.ladd, 1) := by decide +kernel
theorem dX7_tellsWord_134 : decode cX7_tellsWord 134 = .ok (.lreturn, 1) := by decide +kernel
theorem dX7_tellsPerson_0 : decode cX7_tellsPerson 0 = .ok (.aload_n 0, 1) := by decide +kernel
theorem dX7_tellsPerson_1 : decode cX7_tellsPerson 1 = .ok (.invokevirtual 218, 3) := by decide +kernel
theorem dX7_tellsPerson_4 : decode cX7_tellsPerson 4 = .ok (.ldc2_w 327, 3) := by decide +kernel
theorem dX7_tellsPerson_7 : decode cX7_tellsPerson 7 = .ok (.lload_n 1, 1) := by decide +kernel
theorem dX7_tellsPerson_8 : decode cX7_tellsPerson 8 = .ok (.lmul, 1) := by decide +kernel
theorem dX7_tellsPerson_9 : decode cX7_tellsPerson 9 = .ok (.aload_n 0, 1) := by decide +kernel
theorem dX7_tellsPerson_10 : decode cX7_tellsPerson 10 = .ok (.getfield 28, 3) := by decide +kernel
theorem dX7_tellsPerson_13 : decode cX7_tellsPerson 13 = .ok (.iconst 2, 1) := by decide +kernel
theorem dX7_tellsPerson_14 : decode cX7_tellsPerson 14 = .ok (.iload_n 3, 1) := by decide +kernel
theorem dX7_tellsPerson_15 : decode cX7_tellsPerson 15 = .ok (.imul, 1) := by decide +kernel
theorem dX7_tellsPerson_16 : decode cX7_tellsPerson 16 = .ok (.iaload, 1) := by decide +kernel
theorem dX7_tellsPerson_17 : decode cX7_tellsPerson 17 = .ok (.i2l, 1) := by decide +kernel
theorem dX7_tellsPerson_18 : decode cX7_tellsPerson 18 = .ok (.ladd, 1) := by decide +kernel
theorem dX7_tellsPerson_19 : decode cX7_tellsPerson 19 = .ok (.lstore 4, 2) := by decide +kernel
theorem dX7_tellsPerson_21 : decode cX7_tellsPerson 21 = .ok (.ldc2_w 327, 3) := by decide +kernel
theorem dX7_tellsPerson_24 : decode cX7_tellsPerson 24 = .ok (.lload 4, 2) := by decide +kernel
theorem dX7_tellsPerson_26 : decode cX7_tellsPerson 26 = .ok (.lmul, 1) := by decide +kernel
theorem dX7_tellsPerson_27 : decode cX7_tellsPerson 27 = .ok (.aload_n 0, 1) := by decide +kernel
theorem dX7_tellsPerson_28 : decode cX7_tellsPerson 28 = .ok (.getfield 28, 3) := by decide +kernel
theorem dX7_tellsPerson_31 : decode cX7_tellsPerson 31 = .ok (.iconst 2, 1) := by decide +kernel
theorem dX7_tellsPerson_32 : decode cX7_tellsPerson 32 = .ok (.iload_n 3, 1) := by decide +kernel
theorem dX7_tellsPerson_33 : decode cX7_tellsPerson 33 = .ok (.imul, 1) := by decide +kernel
theorem dX7_tellsPerson_34 : decode cX7_tellsPerson 34 = .ok (.iconst 1, 1) := by decide +kernel
theorem dX7_tellsPerson_35 : decode cX7_tellsPerson 35 = .ok (.iadd, 1) := by decide +kernel
theorem dX7_tellsPerson_36 : decode cX7_tellsPerson 36 = .ok (.iaload, 1) := by decide +kernel
theorem dX7_tellsPerson_37 : decode cX7_tellsPerson 37 = .ok (.i2l, 1) := by decide +kernel
theorem dX7_tellsPerson_38 : decode cX7_tellsPerson 38 = .ok (.ladd, 1) := by decide +kernel
theorem dX7_tellsPerson_39 : decode cX7_tellsPerson 39 = .ok (.lstore 4, 2) := by decide +kernel
theorem dX7_tellsPerson_41 : decode cX7_tellsPerson 41 = .ok (.iconst 0, 1) := by decide +kernel
theorem dX7_tellsPerson_42 : decode cX7_tellsPerson 42 = .ok (.istore 6, 2) := by decide +kernel
theorem dX7_tellsPerson_44 : decode cX7_tellsPerson 44 = .ok (.iload 6, 2) := by decide +kernel
theorem dX7_tellsPerson_46 : decode cX7_tellsPerson 46 = .ok (.iconst 4, 1) := by decide +kernel
theorem dX7_tellsPerson_47 : decode cX7_tellsPerson 47 = .ok (.if_icmp .ge 28, 3) := by decide +kernel
theorem dX7_tellsPerson_50 : decode cX7_tellsPerson 50 = .ok (.ldc2_w 327, 3) := by decide +kernel
theorem dX7_tellsPerson_53 : decode cX7_tellsPerson 53 = .ok (.lload 4, 2) := by decide +kernel
theorem dX7_tellsPerson_55 : decode cX7_tellsPerson 55 = .ok (.lmul, 1) := by decide +kernel
theorem dX7_tellsPerson_56 : decode cX7_tellsPerson 56 = .ok (.aload_n 0, 1) := by decide +kernel
theorem dX7_tellsPerson_57 : decode cX7_tellsPerson 57 = .ok (.bipush 6, 2) := by decide +kernel
theorem dX7_tellsPerson_59 : decode cX7_tellsPerson 59 = .ok (.iload_n 3, 1) := by decide +kernel
theorem dX7_tellsPerson_60 : decode cX7_tellsPerson 60 = .ok (.iload 6, 2) := by decide +kernel
theorem dX7_tellsPerson_62 : decode cX7_tellsPerson 62 = .ok (.invokevirtual 230, 3) := by decide +kernel
theorem dX7_tellsPerson_65 : decode cX7_tellsPerson 65 = .ok (.i2l, 1) := by decide +kernel
theorem dX7_tellsPerson_66 : decode cX7_tellsPerson 66 = .ok (.ladd, 1) := by decide +kernel
theorem dX7_tellsPerson_67 : decode cX7_tellsPerson 67 = .ok (.lstore 4, 2) := by decide +kernel
theorem dX7_tellsPerson_69 : decode cX7_tellsPerson 69 = .ok (.iinc 6 1, 3) := by decide +kernel
theorem dX7_tellsPerson_72 : decode cX7_tellsPerson 72 = .ok (.goto (-28), 3) := by decide +kernel
theorem dX7_tellsPerson_75 : decode cX7_tellsPerson 75 = .ok (.iconst 0, 1) := by decide +kernel
theorem dX7_tellsPerson_76 : decode cX7_tellsPerson 76 = .ok (.istore 6, 2) := by decide +kernel
theorem dX7_tellsPerson_78 : decode cX7_tellsPerson 78 = .ok (.iload 6, 2) := by decide +kernel
theorem dX7_tellsPerson_80 : decode cX7_tellsPerson 80 = .ok (.iconst 4, 1) := by decide +kernel
theorem dX7_tellsPerson_81 : decode cX7_tellsPerson 81 = .ok (.if_icmp .ge 28, 3) := by decide +kernel
theorem dX7_tellsPerson_84 : decode cX7_tellsPerson 84 = .ok (.ldc2_w 327, 3) := by decide +kernel
theorem dX7_tellsPerson_87 : decode cX7_tellsPerson 87 = .ok (.lload 4, 2) := by decide +kernel
theorem dX7_tellsPerson_89 : decode cX7_tellsPerson 89 = .ok (.lmul, 1) := by decide +kernel
theorem dX7_tellsPerson_90 : decode cX7_tellsPerson 90 = .ok (.aload_n 0, 1) := by decide +kernel
theorem dX7_tellsPerson_91 : decode cX7_tellsPerson 91 = .ok (.bipush 23, 2) := by decide +kernel
theorem dX7_tellsPerson_93 : decode cX7_tellsPerson 93 = .ok (.iload_n 3, 1) := by decide +kernel
theorem dX7_tellsPerson_94 : decode cX7_tellsPerson 94 = .ok (.iload 6, 2) := by decide +kernel
theorem dX7_tellsPerson_96 : decode cX7_tellsPerson 96 = .ok (.invokevirtual 230, 3) := by decide +kernel
theorem dX7_tellsPerson_99 : decode cX7_tellsPerson 99 = .ok (.i2l, 1) := by decide +kernel
theorem dX7_tellsPerson_100 : decode cX7_tellsPerson 100 = .ok (.ladd, 1) := by decide +kernel
theorem dX7_tellsPerson_101 : decode cX7_tellsPerson 101 = .ok (.lstore 4, 2) := by decide +kernel
theorem dX7_tellsPerson_103 : decode cX7_tellsPerson 103 = .ok (.iinc 6 1, 3) := by decide +kernel
theorem dX7_tellsPerson_106 : decode cX7_tellsPerson 106 = .ok (.goto (-28), 3) := by decide +kernel
theorem dX7_tellsPerson_109 : decode cX7_tellsPerson 109 = .ok (.ldc2_w 327, 3) := by decide +kernel
theorem dX7_tellsPerson_112 : decode cX7_tellsPerson 112 = .ok (.lload 4, 2) := by decide +kernel
theorem dX7_tellsPerson_114 : decode cX7_tellsPerson 114 = .ok (.lmul, 1) := by decide +kernel
theorem dX7_tellsPerson_115 : decode cX7_tellsPerson 115 = .ok (.aload_n 0, 1) := by decide +kernel
theorem dX7_tellsPerson_116 : decode cX7_tellsPerson 116 = .ok (.iload_n 3, 1) := by decide +kernel
theorem dX7_tellsPerson_117 : decode cX7_tellsPerson 117 = .ok (.invokevirtual 236, 3) := by decide +kernel
theorem dX7_tellsPerson_120 : decode cX7_tellsPerson 120 = .ok (.i2l, 1) := by decide +kernel
theorem dX7_tellsPerson_121 : decode cX7_tellsPerson 121 = .ok (.ladd, 1) := by decide +kernel
theorem dX7_tellsPerson_122 : decode cX7_tellsPerson 122 = .ok (.lstore 4, 2) := by decide +kernel
theorem dX7_tellsPerson_124 : decode cX7_tellsPerson 124 = .ok (.ldc2_w 327, 3) := by decide +kernel
theorem dX7_tellsPerson_127 : decode cX7_tellsPerson 127 = .ok (.lload 4, 2) := by decide +kernel
theorem dX7_tellsPerson_129 : decode cX7_tellsPerson 129 = .ok (.lmul, 1) := by decide +kernel
theorem dX7_tellsPerson_130 : decode cX7_tellsPerson 130 = .ok (.aload_n 0, 1) := by decide +kernel
theorem dX7_tellsPerson_131 : decode cX7_tellsPerson 131 = .ok (.iload_n 3, 1) := by decide +kernel
theorem dX7_tellsPerson_132 : decode cX7_tellsPerson 132 = .ok (.invokevirtual 260, 3) := by decide +kernel
theorem dX7_tellsPerson_135 : decode cX7_tellsPerson 135 = .ok (.i2l, 1) := by decide +kernel
theorem dX7_tellsPerson_136 : decode cX7_tellsPerson 136 = .ok (.ladd, 1) := by decide +kernel
theorem dX7_tellsPerson_137 : decode cX7_tellsPerson 137 = .ok (.lstore 4, 2) := by decide +kernel
theorem dX7_tellsPerson_139 : decode cX7_tellsPerson 139 = .ok (.ldc2_w 327, 3) := by decide +kernel
theorem dX7_tellsPerson_142 : decode cX7_tellsPerson 142 = .ok (.lload 4, 2) := by decide +kernel
theorem dX7_tellsPerson_144 : decode cX7_tellsPerson 144 = .ok (.lmul, 1) := by decide +kernel
theorem dX7_tellsPerson_145 : decode cX7_tellsPerson 145 = .ok (.aload_n 0, 1) := by decide +kernel
theorem dX7_tellsPerson_146 : decode cX7_tellsPerson 146 = .ok (.iload_n 3, 1) := by decide +kernel
theorem dX7_tellsPerson_147 : decode cX7_tellsPerson 147 = .ok (.invokevirtual 289, 3) := by decide +kernel
theorem dX7_tellsPerson_150 : decode cX7_tellsPerson 150 = .ok (.i2l, 1) := by decide +kernel
theorem dX7_tellsPerson_151 : decode cX7_tellsPerson 151 = .ok (.ladd, 1) := by decide +kernel
theorem dX7_tellsPerson_152 : decode cX7_tellsPerson 152 = .ok (.lreturn, 1) := by decide +kernel
theorem dX7_digest_0 : decode cX7_digest 0 = .ok (.ldc2_w 333, 3) := by decide +kernel
theorem dX7_digest_3 : decode cX7_digest 3 = .ok (.lstore_n 1, 1) := by decide +kernel
theorem dX7_digest_4 : decode cX7_digest 4 = .ok (.iconst 0, 1) := by decide +kernel
theorem dX7_digest_5 : decode cX7_digest 5 = .ok (.istore_n 3, 1) := by decide +kernel
theorem dX7_digest_6 : decode cX7_digest 6 = .ok (.iload_n 3, 1) := by decide +kernel
theorem dX7_digest_7 : decode cX7_digest 7 = .ok (.bipush 8, 2) := by decide +kernel
theorem dX7_digest_9 : decode cX7_digest 9 = .ok (.if_icmp .ge 22, 3) := by decide +kernel
theorem dX7_digest_12 : decode cX7_digest 12 = .ok (.ldc2_w 327, 3) := by decide +kernel
theorem dX7_digest_15 : decode cX7_digest 15 = .ok (.lload_n 1, 1) := by decide +kernel
theorem dX7_digest_16 : decode cX7_digest 16 = .ok (.lmul, 1) := by decide +kernel
theorem dX7_digest_17 : decode cX7_digest 17 = .ok (.aload_n 0, 1) := by decide +kernel
theorem dX7_digest_18 : decode cX7_digest 18 = .ok (.iload_n 3, 1) := by decide +kernel
theorem dX7_digest_19 : decode cX7_digest 19 = .ok (.invokevirtual 335, 3) := by decide +kernel
theorem dX7_digest_22 : decode cX7_digest 22 = .ok (.i2l, 1) := by decide +kernel
theorem dX7_digest_23 : decode cX7_digest 23 = .ok (.ladd, 1) := by decide +kernel
theorem dX7_digest_24 : decode cX7_digest 24 = .ok (.lstore_n 1, 1) := by decide +kernel
theorem dX7_digest_25 : decode cX7_digest 25 = .ok (.iinc 3 1, 3) := by decide +kernel
theorem dX7_digest_28 : decode cX7_digest 28 = .ok (.goto (-22), 3) := by decide +kernel
theorem dX7_digest_31 : decode cX7_digest 31 = .ok (.iconst 0, 1) := by decide +kernel
theorem dX7_digest_32 : decode cX7_digest 32 = .ok (.istore_n 3, 1) := by decide +kernel
theorem dX7_digest_33 : decode cX7_digest 33 = .ok (.iload_n 3, 1) := by decide +kernel
theorem dX7_digest_34 : decode cX7_digest 34 = .ok (.iconst 3, 1) := by decide +kernel
theorem dX7_digest_35 : decode cX7_digest 35 = .ok (.if_icmp .ge 22, 3) := by decide +kernel
theorem dX7_digest_38 : decode cX7_digest 38 = .ok (.ldc2_w 327, 3) := by decide +kernel
theorem dX7_digest_41 : decode cX7_digest 41 = .ok (.lload_n 1, 1) := by decide +kernel
theorem dX7_digest_42 : decode cX7_digest 42 = .ok (.lmul, 1) := by decide +kernel
theorem dX7_digest_43 : decode cX7_digest 43 = .ok (.aload_n 0, 1) := by decide +kernel
theorem dX7_digest_44 : decode cX7_digest 44 = .ok (.iload_n 3, 1) := by decide +kernel
theorem dX7_digest_45 : decode cX7_digest 45 = .ok (.invokevirtual 147, 3) := by decide +kernel
theorem dX7_digest_48 : decode cX7_digest 48 = .ok (.i2l, 1) := by decide +kernel
theorem dX7_digest_49 : decode cX7_digest 49 = .ok (.ladd, 1) := by decide +kernel
theorem dX7_digest_50 : decode cX7_digest 50 = .ok (.lstore_n 1, 1) := by decide +kernel
theorem dX7_digest_51 : decode cX7_digest 51 = .ok (.iinc 3 1, 3) := by decide +kernel
theorem dX7_digest_54 : decode cX7_digest 54 = .ok (.goto (-21), 3) := by decide +kernel
theorem dX7_digest_57 : decode cX7_digest 57 = .ok (.iconst 0, 1) := by decide +kernel
theorem dX7_digest_58 : decode cX7_digest 58 = .ok (.istore_n 3, 1) := by decide +kernel
theorem dX7_digest_59 : decode cX7_digest 59 = .ok (.iload_n 3, 1) := by decide +kernel
theorem dX7_digest_60 : decode cX7_digest 60 = .ok (.bipush 12, 2) := by decide +kernel
theorem dX7_digest_62 : decode cX7_digest 62 = .ok (.if_icmp .ge 39, 3) := by decide +kernel
theorem dX7_digest_65 : decode cX7_digest 65 = .ok (.iconst 0, 1) := by decide +kernel
theorem dX7_digest_66 : decode cX7_digest 66 = .ok (.istore 4, 2) := by decide +kernel
theorem dX7_digest_68 : decode cX7_digest 68 = .ok (.iload 4, 2) := by decide +kernel
theorem dX7_digest_70 : decode cX7_digest 70 = .ok (.iconst 3, 1) := by decide +kernel
theorem dX7_digest_71 : decode cX7_digest 71 = .ok (.if_icmp .ge 24, 3) := by decide +kernel
theorem dX7_digest_74 : decode cX7_digest 74 = .ok (.ldc2_w 327, 3) := by decide +kernel
theorem dX7_digest_77 : decode cX7_digest 77 = .ok (.lload_n 1, 1) := by decide +kernel
theorem dX7_digest_78 : decode cX7_digest 78 = .ok (.lmul, 1) := by decide +kernel
theorem dX7_digest_79 : decode cX7_digest 79 = .ok (.aload_n 0, 1) := by decide +kernel
theorem dX7_digest_80 : decode cX7_digest 80 = .ok (.iload_n 3, 1) := by decide +kernel
theorem dX7_digest_81 : decode cX7_digest 81 = .ok (.iload 4, 2) := by decide +kernel
theorem dX7_digest_83 : decode cX7_digest 83 = .ok (.invokevirtual 163, 3) := by decide +kernel
theorem dX7_digest_86 : decode cX7_digest 86 = .ok (.i2l, 1) := by decide +kernel
theorem dX7_digest_87 : decode cX7_digest 87 = .ok (.ladd, 1) := by decide +kernel
theorem dX7_digest_88 : decode cX7_digest 88 = .ok (.lstore_n 1, 1) := by decide +kernel
theorem dX7_digest_89 : decode cX7_digest 89 = .ok (.iinc 4 1, 3) := by decide +kernel
theorem dX7_digest_92 : decode cX7_digest 92 = .ok (.goto (-24), 3) := by decide +kernel
theorem dX7_digest_95 : decode cX7_digest 95 = .ok (.iinc 3 1, 3) := by decide +kernel
theorem dX7_digest_98 : decode cX7_digest 98 = .ok (.goto (-39), 3) := by decide +kernel
theorem dX7_digest_101 : decode cX7_digest 101 = .ok (.iconst 0, 1) := by decide +kernel
theorem dX7_digest_102 : decode cX7_digest 102 = .ok (.istore_n 3, 1) := by decide +kernel
theorem dX7_digest_103 : decode cX7_digest 103 = .ok (.iload_n 3, 1) := by decide +kernel
theorem dX7_digest_104 : decode cX7_digest 104 = .ok (.aload_n 0, 1) := by decide +kernel
theorem dX7_digest_105 : decode cX7_digest 105 = .ok (.getfield 125, 3) := by decide +kernel
theorem dX7_digest_108 : decode cX7_digest 108 = .ok (.if_icmp .ge 16, 3) := by decide +kernel
theorem dX7_digest_111 : decode cX7_digest 111 = .ok (.aload_n 0, 1) := by decide +kernel
theorem dX7_digest_112 : decode cX7_digest 112 = .ok (.lload_n 1, 1) := by decide +kernel
theorem dX7_digest_113 : decode cX7_digest 113 = .ok (.iload_n 3, 1) := by decide +kernel
theorem dX7_digest_114 : decode cX7_digest 114 = .ok (.invokevirtual 338, 3) := by decide +kernel
theorem dX7_digest_117 : decode cX7_digest 117 = .ok (.lstore_n 1, 1) := by decide +kernel
theorem dX7_digest_118 : decode cX7_digest 118 = .ok (.iinc 3 1, 3) := by decide +kernel
theorem dX7_digest_121 : decode cX7_digest 121 = .ok (.goto (-18), 3) := by decide +kernel
theorem dX7_digest_124 : decode cX7_digest 124 = .ok (.iconst 0, 1) := by decide +kernel
theorem dX7_digest_125 : decode cX7_digest 125 = .ok (.istore_n 3, 1) := by decide +kernel
theorem dX7_digest_126 : decode cX7_digest 126 = .ok (.iload_n 3, 1) := by decide +kernel
theorem dX7_digest_127 : decode cX7_digest 127 = .ok (.aload_n 0, 1) := by decide +kernel
theorem dX7_digest_128 : decode cX7_digest 128 = .ok (.getfield 116, 3) := by decide +kernel
theorem dX7_digest_131 : decode cX7_digest 131 = .ok (.if_icmp .ge 16, 3) := by decide +kernel
theorem dX7_digest_134 : decode cX7_digest 134 = .ok (.aload_n 0, 1) := by decide +kernel
theorem dX7_digest_135 : decode cX7_digest 135 = .ok (.lload_n 1, 1) := by decide +kernel
theorem dX7_digest_136 : decode cX7_digest 136 = .ok (.iload_n 3, 1) := by decide +kernel
theorem dX7_digest_137 : decode cX7_digest 137 = .ok (.invokevirtual 342, 3) := by decide +kernel
theorem dX7_digest_140 : decode cX7_digest 140 = .ok (.lstore_n 1, 1) := by decide +kernel
theorem dX7_digest_141 : decode cX7_digest 141 = .ok (.iinc 3 1, 3) := by decide +kernel
theorem dX7_digest_144 : decode cX7_digest 144 = .ok (.goto (-18), 3) := by decide +kernel
theorem dX7_digest_147 : decode cX7_digest 147 = .ok (.aload_n 0, 1) := by decide +kernel
theorem dX7_digest_148 : decode cX7_digest 148 = .ok (.invokevirtual 218, 3) := by decide +kernel
theorem dX7_digest_151 : decode cX7_digest 151 = .ok (.iconst 0, 1) := by decide +kernel
theorem dX7_digest_152 : decode cX7_digest 152 = .ok (.istore_n 3, 1) := by decide +kernel
theorem dX7_digest_153 : decode cX7_digest 153 = .ok (.iload_n 3, 1) := by decide +kernel
theorem dX7_digest_154 : decode cX7_digest 154 = .ok (.bipush 24, 2) := by decide +kernel
theorem dX7_digest_156 : decode cX7_digest 156 = .ok (.if_icmp .ge 50, 3) := by decide +kernel
theorem dX7_digest_159 : decode cX7_digest 159 = .ok (.ldc2_w 327, 3) := by decide +kernel
theorem dX7_digest_162 : decode cX7_digest 162 = .ok (.lload_n 1, 1) := by decide +kernel
theorem dX7_digest_163 : decode cX7_digest 163 = .ok (.lmul, 1) := by decide +kernel
theorem dX7_digest_164 : decode cX7_digest 164 = .ok (.aload_n 0, 1) := by decide +kernel
theorem dX7_digest_165 : decode cX7_digest 165 = .ok (.iload_n 3, 1) := by decide +kernel
theorem dX7_digest_166 : decode cX7_digest 166 = .ok (.invokevirtual 239, 3) := by decide +kernel
theorem dX7_digest_169 : decode cX7_digest 169 = .ok (.i2l, 1) := by decide +kernel
theorem dX7_digest_170 : decode cX7_digest 170 = .ok (.ladd, 1) := by decide +kernel
theorem dX7_digest_171 : decode cX7_digest 171 = .ok (.lstore_n 1, 1) := by decide +kernel
theorem dX7_digest_172 : decode cX7_digest 172 = .ok (.ldc2_w 327, 3) := by decide +kernel
theorem dX7_digest_175 : decode cX7_digest 175 = .ok (.lload_n 1, 1) := by decide +kernel
theorem dX7_digest_176 : decode cX7_digest 176 = .ok (.lmul, 1) := by decide +kernel
theorem dX7_digest_177 : decode cX7_digest 177 = .ok (.aload_n 0, 1) := by decide +kernel
theorem dX7_digest_178 : decode cX7_digest 178 = .ok (.iload_n 3, 1) := by decide +kernel
theorem dX7_digest_179 : decode cX7_digest 179 = .ok (.iconst 0, 1) := by decide +kernel
theorem dX7_digest_180 : decode cX7_digest 180 = .ok (.invokevirtual 248, 3) := by decide +kernel
theorem dX7_digest_183 : decode cX7_digest 183 = .ok (.i2l, 1) := by decide +kernel
theorem dX7_digest_184 : decode cX7_digest 184 = .ok (.ladd, 1) := by decide +kernel
theorem dX7_digest_185 : decode cX7_digest 185 = .ok (.lstore_n 1, 1) := by decide +kernel
theorem dX7_digest_186 : decode cX7_digest 186 = .ok (.ldc2_w 327, 3) := by decide +kernel
theorem dX7_digest_189 : decode cX7_digest 189 = .ok (.lload_n 1, 1) := by decide +kernel
theorem dX7_digest_190 : decode cX7_digest 190 = .ok (.lmul, 1) := by decide +kernel
theorem dX7_digest_191 : decode cX7_digest 191 = .ok (.aload_n 0, 1) := by decide +kernel
theorem dX7_digest_192 : decode cX7_digest 192 = .ok (.iload_n 3, 1) := by decide +kernel
theorem dX7_digest_193 : decode cX7_digest 193 = .ok (.iconst 1, 1) := by decide +kernel
theorem dX7_digest_194 : decode cX7_digest 194 = .ok (.invokevirtual 248, 3) := by decide +kernel
theorem dX7_digest_197 : decode cX7_digest 197 = .ok (.i2l, 1) := by decide +kernel
theorem dX7_digest_198 : decode cX7_digest 198 = .ok (.ladd, 1) := by decide +kernel
theorem dX7_digest_199 : decode cX7_digest 199 = .ok (.lstore_n 1, 1) := by decide +kernel
theorem dX7_digest_200 : decode cX7_digest 200 = .ok (.iinc 3 1, 3) := by decide +kernel
theorem dX7_digest_203 : decode cX7_digest 203 = .ok (.goto (-50), 3) := by decide +kernel
theorem dX7_digest_206 : decode cX7_digest 206 = .ok (.ldc2_w 327, 3) := by decide +kernel
theorem dX7_digest_209 : decode cX7_digest 209 = .ok (.lload_n 1, 1) := by decide +kernel
theorem dX7_digest_210 : decode cX7_digest 210 = .ok (.lmul, 1) := by decide +kernel
theorem dX7_digest_211 : decode cX7_digest 211 = .ok (.aload_n 0, 1) := by decide +kernel
theorem dX7_digest_212 : decode cX7_digest 212 = .ok (.invokevirtual 251, 3) := by decide +kernel
theorem dX7_digest_215 : decode cX7_digest 215 = .ok (.i2l, 1) := by decide +kernel
theorem dX7_digest_216 : decode cX7_digest 216 = .ok (.ladd, 1) := by decide +kernel
theorem dX7_digest_217 : decode cX7_digest 217 = .ok (.lstore_n 1, 1) := by decide +kernel
theorem dX7_digest_218 : decode cX7_digest 218 = .ok (.iconst 0, 1) := by decide +kernel
theorem dX7_digest_219 : decode cX7_digest 219 = .ok (.istore_n 3, 1) := by decide +kernel
theorem dX7_digest_220 : decode cX7_digest 220 = .ok (.iload_n 3, 1) := by decide +kernel
theorem dX7_digest_221 : decode cX7_digest 221 = .ok (.iconst 3, 1) := by decide +kernel
theorem dX7_digest_222 : decode cX7_digest 222 = .ok (.if_icmp .ge 24, 3) := by decide +kernel
theorem dX7_digest_225 : decode cX7_digest 225 = .ok (.ldc2_w 327, 3) := by decide +kernel
theorem dX7_digest_228 : decode cX7_digest 228 = .ok (.lload_n 1, 1) := by decide +kernel
theorem dX7_digest_229 : decode cX7_digest 229 = .ok (.lmul, 1) := by decide +kernel
theorem dX7_digest_230 : decode cX7_digest 230 = .ok (.aload_n 0, 1) := by decide +kernel
theorem dX7_digest_231 : decode cX7_digest 231 = .ok (.bipush 8, 2) := by decide +kernel
theorem dX7_digest_233 : decode cX7_digest 233 = .ok (.iload_n 3, 1) := by decide +kernel
theorem dX7_digest_234 : decode cX7_digest 234 = .ok (.invokevirtual 257, 3) := by decide +kernel
theorem dX7_digest_237 : decode cX7_digest 237 = .ok (.i2l, 1) := by decide +kernel
theorem dX7_digest_238 : decode cX7_digest 238 = .ok (.ladd, 1) := by decide +kernel
theorem dX7_digest_239 : decode cX7_digest 239 = .ok (.lstore_n 1, 1) := by decide +kernel
theorem dX7_digest_240 : decode cX7_digest 240 = .ok (.iinc 3 1, 3) := by decide +kernel
theorem dX7_digest_243 : decode cX7_digest 243 = .ok (.goto (-23), 3) := by decide +kernel
theorem dX7_digest_246 : decode cX7_digest 246 = .ok (.ldc2_w 327, 3) := by decide +kernel
theorem dX7_digest_249 : decode cX7_digest 249 = .ok (.lload_n 1, 1) := by decide +kernel
theorem dX7_digest_250 : decode cX7_digest 250 = .ok (.lmul, 1) := by decide +kernel
theorem dX7_digest_251 : decode cX7_digest 251 = .ok (.aload_n 0, 1) := by decide +kernel
theorem dX7_digest_252 : decode cX7_digest 252 = .ok (.iconst 0, 1) := by decide +kernel
theorem dX7_digest_253 : decode cX7_digest 253 = .ok (.invokevirtual 266, 3) := by decide +kernel
theorem dX7_digest_256 : decode cX7_digest 256 = .ok (.i2l, 1) := by decide +kernel
theorem dX7_digest_257 : decode cX7_digest 257 = .ok (.ladd, 1) := by decide +kernel
theorem dX7_digest_258 : decode cX7_digest 258 = .ok (.lstore_n 1, 1) := by decide +kernel
theorem dX7_digest_259 : decode cX7_digest 259 = .ok (.ldc2_w 327, 3) := by decide +kernel
theorem dX7_digest_262 : decode cX7_digest 262 = .ok (.lload_n 1, 1) := by decide +kernel
theorem dX7_digest_263 : decode cX7_digest 263 = .ok (.lmul, 1) := by decide +kernel
theorem dX7_digest_264 : decode cX7_digest 264 = .ok (.aload_n 0, 1) := by decide +kernel
theorem dX7_digest_265 : decode cX7_digest 265 = .ok (.iconst 1, 1) := by decide +kernel
theorem dX7_digest_266 : decode cX7_digest 266 = .ok (.invokevirtual 266, 3) := by decide +kernel
theorem dX7_digest_269 : decode cX7_digest 269 = .ok (.i2l, 1) := by decide +kernel
theorem dX7_digest_270 : decode cX7_digest 270 = .ok (.ladd, 1) := by decide +kernel
theorem dX7_digest_271 : decode cX7_digest 271 = .ok (.lstore_n 1, 1) := by decide +kernel
theorem dX7_digest_272 : decode cX7_digest 272 = .ok (.ldc2_w 327, 3) := by decide +kernel
theorem dX7_digest_275 : decode cX7_digest 275 = .ok (.lload_n 1, 1) := by decide +kernel
theorem dX7_digest_276 : decode cX7_digest 276 = .ok (.lmul, 1) := by decide +kernel
theorem dX7_digest_277 : decode cX7_digest 277 = .ok (.aload_n 0, 1) := by decide +kernel
theorem dX7_digest_278 : decode cX7_digest 278 = .ok (.iconst (-1), 1) := by decide +kernel
theorem dX7_digest_279 : decode cX7_digest 279 = .ok (.invokevirtual 274, 3) := by decide +kernel
theorem dX7_digest_282 : decode cX7_digest 282 = .ok (.i2l, 1) := by decide +kernel
theorem dX7_digest_283 : decode cX7_digest 283 = .ok (.ladd, 1) := by decide +kernel
theorem dX7_digest_284 : decode cX7_digest 284 = .ok (.lstore_n 1, 1) := by decide +kernel
theorem dX7_digest_285 : decode cX7_digest 285 = .ok (.ldc2_w 327, 3) := by decide +kernel
theorem dX7_digest_288 : decode cX7_digest 288 = .ok (.lload_n 1, 1) := by decide +kernel
theorem dX7_digest_289 : decode cX7_digest 289 = .ok (.lmul, 1) := by decide +kernel
theorem dX7_digest_290 : decode cX7_digest 290 = .ok (.aload_n 0, 1) := by decide +kernel
theorem dX7_digest_291 : decode cX7_digest 291 = .ok (.iconst 0, 1) := by decide +kernel
theorem dX7_digest_292 : decode cX7_digest 292 = .ok (.invokevirtual 274, 3) := by decide +kernel
theorem dX7_digest_295 : decode cX7_digest 295 = .ok (.i2l, 1) := by decide +kernel
theorem dX7_digest_296 : decode cX7_digest 296 = .ok (.ladd, 1) := by decide +kernel
theorem dX7_digest_297 : decode cX7_digest 297 = .ok (.lstore_n 1, 1) := by decide +kernel
theorem dX7_digest_298 : decode cX7_digest 298 = .ok (.ldc2_w 327, 3) := by decide +kernel
theorem dX7_digest_301 : decode cX7_digest 301 = .ok (.lload_n 1, 1) := by decide +kernel
theorem dX7_digest_302 : decode cX7_digest 302 = .ok (.lmul, 1) := by decide +kernel
theorem dX7_digest_303 : decode cX7_digest 303 = .ok (.aload_n 0, 1) := by decide +kernel
theorem dX7_digest_304 : decode cX7_digest 304 = .ok (.invokevirtual 286, 3) := by decide +kernel
theorem dX7_digest_307 : decode cX7_digest 307 = .ok (.i2l, 1) := by decide +kernel
theorem dX7_digest_308 : decode cX7_digest 308 = .ok (.ladd, 1) := by decide +kernel
theorem dX7_digest_309 : decode cX7_digest 309 = .ok (.lstore_n 1, 1) := by decide +kernel
theorem dX7_digest_310 : decode cX7_digest 310 = .ok (.ldc2_w 327, 3) := by decide +kernel
theorem dX7_digest_313 : decode cX7_digest 313 = .ok (.lload_n 1, 1) := by decide +kernel
theorem dX7_digest_314 : decode cX7_digest 314 = .ok (.lmul, 1) := by decide +kernel
theorem dX7_digest_315 : decode cX7_digest 315 = .ok (.aload_n 0, 1) := by decide +kernel
theorem dX7_digest_316 : decode cX7_digest 316 = .ok (.bipush 7, 2) := by decide +kernel
theorem dX7_digest_318 : decode cX7_digest 318 = .ok (.bipush 9, 2) := by decide +kernel
theorem dX7_digest_320 : decode cX7_digest 320 = .ok (.iconst 0, 1) := by decide +kernel
theorem dX7_digest_321 : decode cX7_digest 321 = .ok (.invokevirtual 324, 3) := by decide +kernel
theorem dX7_digest_324 : decode cX7_digest 324 = .ok (.i2l, 1) := by decide +kernel
theorem dX7_digest_325 : decode cX7_digest 325 = .ok (.ladd, 1) := by decide +kernel
theorem dX7_digest_326 : decode cX7_digest 326 = .ok (.lstore_n 1, 1) := by decide +kernel
theorem dX7_digest_327 : decode cX7_digest 327 = .ok (.ldc2_w 327, 3) := by decide +kernel
theorem dX7_digest_330 : decode cX7_digest 330 = .ok (.lload_n 1, 1) := by decide +kernel
theorem dX7_digest_331 : decode cX7_digest 331 = .ok (.lmul, 1) := by decide +kernel
theorem dX7_digest_332 : decode cX7_digest 332 = .ok (.aload_n 0, 1) := by decide +kernel
theorem dX7_digest_333 : decode cX7_digest 333 = .ok (.bipush 7, 2) := by decide +kernel
theorem dX7_digest_335 : decode cX7_digest 335 = .ok (.bipush 9, 2) := by decide +kernel
theorem dX7_digest_337 : decode cX7_digest 337 = .ok (.iconst 1, 1) := by decide +kernel
theorem dX7_digest_338 : decode cX7_digest 338 = .ok (.invokevirtual 324, 3) := by decide +kernel
theorem dX7_digest_341 : decode cX7_digest 341 = .ok (.i2l, 1) := by decide +kernel
theorem dX7_digest_342 : decode cX7_digest 342 = .ok (.ladd, 1) := by decide +kernel
theorem dX7_digest_343 : decode cX7_digest 343 = .ok (.lreturn, 1) := by decide +kernel
