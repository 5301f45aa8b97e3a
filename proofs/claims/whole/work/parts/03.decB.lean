theorem dX6_init_0 : decode cX6_init 0 = .ok (.aload_n 0, 1) := by decide +kernel
theorem dX6_init_1 : decode cX6_init 1 = .ok (.invokespecial 1, 3) := by decide +kernel
theorem dX6_init_4 : decode cX6_init 4 = .ok (.aload_n 0, 1) := by decide +kernel
theorem dX6_init_5 : decode cX6_init 5 = .ok (.iconst 3, 1) := by decide +kernel
theorem dX6_init_6 : decode cX6_init 6 = .ok (.anewarray 9, 3) := by decide +kernel
theorem dX6_init_9 : decode cX6_init 9 = .ok (.putfield 11, 3) := by decide +kernel
theorem dX6_init_12 : decode cX6_init 12 = .ok (.aload_n 0, 1) := by decide +kernel
theorem dX6_init_13 : decode cX6_init 13 = .ok (.new 15, 3) := by decide +kernel
theorem dX6_init_16 : decode cX6_init 16 = .ok (.dup, 1) := by decide +kernel
theorem dX6_init_17 : decode cX6_init 17 = .ok (.invokespecial 17, 3) := by decide +kernel
theorem dX6_init_20 : decode cX6_init 20 = .ok (.putfield 18, 3) := by decide +kernel
theorem dX6_init_23 : decode cX6_init 23 = .ok (.aload_n 0, 1) := by decide +kernel
theorem dX6_init_24 : decode cX6_init 24 = .ok (.new 22, 3) := by decide +kernel
theorem dX6_init_27 : decode cX6_init 27 = .ok (.dup, 1) := by decide +kernel
theorem dX6_init_28 : decode cX6_init 28 = .ok (.invokespecial 24, 3) := by decide +kernel
theorem dX6_init_31 : decode cX6_init 31 = .ok (.putfield 25, 3) := by decide +kernel
theorem dX6_init_34 : decode cX6_init 34 = .ok (.aload_n 0, 1) := by decide +kernel
theorem dX6_init_35 : decode cX6_init 35 = .ok (.iconst 4, 1) := by decide +kernel
theorem dX6_init_36 : decode cX6_init 36 = .ok (.anewarray 29, 3) := by decide +kernel
theorem dX6_init_39 : decode cX6_init 39 = .ok (.putfield 31, 3) := by decide +kernel
theorem dX6_init_42 : decode cX6_init 42 = .ok (.aload_n 0, 1) := by decide +kernel
theorem dX6_init_43 : decode cX6_init 43 = .ok (.new 35, 3) := by decide +kernel
theorem dX6_init_46 : decode cX6_init 46 = .ok (.dup, 1) := by decide +kernel
theorem dX6_init_47 : decode cX6_init 47 = .ok (.invokespecial 37, 3) := by decide +kernel
theorem dX6_init_50 : decode cX6_init 50 = .ok (.putfield 38, 3) := by decide +kernel
theorem dX6_init_53 : decode cX6_init 53 = .ok (.aload_n 0, 1) := by decide +kernel
theorem dX6_init_54 : decode cX6_init 54 = .ok (.new 42, 3) := by decide +kernel
theorem dX6_init_57 : decode cX6_init 57 = .ok (.dup, 1) := by decide +kernel
theorem dX6_init_58 : decode cX6_init 58 = .ok (.invokespecial 44, 3) := by decide +kernel
theorem dX6_init_61 : decode cX6_init 61 = .ok (.putfield 45, 3) := by decide +kernel
theorem dX6_init_64 : decode cX6_init 64 = .ok (.aload_n 0, 1) := by decide +kernel
theorem dX6_init_65 : decode cX6_init 65 = .ok (.new 35, 3) := by decide +kernel
theorem dX6_init_68 : decode cX6_init 68 = .ok (.dup, 1) := by decide +kernel
theorem dX6_init_69 : decode cX6_init 69 = .ok (.invokespecial 37, 3) := by decide +kernel
theorem dX6_init_72 : decode cX6_init 72 = .ok (.putfield 49, 3) := by decide +kernel
theorem dX6_init_75 : decode cX6_init 75 = .ok (.aload_n 0, 1) := by decide +kernel
theorem dX6_init_76 : decode cX6_init 76 = .ok (.new 42, 3) := by decide +kernel
theorem dX6_init_79 : decode cX6_init 79 = .ok (.dup, 1) := by decide +kernel
theorem dX6_init_80 : decode cX6_init 80 = .ok (.invokespecial 44, 3) := by decide +kernel
theorem dX6_init_83 : decode cX6_init 83 = .ok (.putfield 52, 3) := by decide +kernel
theorem dX6_init_86 : decode cX6_init 86 = .ok (.aload_n 0, 1) := by decide +kernel
theorem dX6_init_87 : decode cX6_init 87 = .ok (.sipush 240, 3) := by decide +kernel
theorem dX6_init_90 : decode cX6_init 90 = .ok (.newarray .int, 2) := by decide +kernel
theorem dX6_init_92 : decode cX6_init 92 = .ok (.putfield 55, 3) := by decide +kernel
theorem dX6_init_95 : decode cX6_init 95 = .ok (.aload_n 0, 1) := by decide +kernel
theorem dX6_init_96 : decode cX6_init 96 = .ok (.bipush 108, 2) := by decide +kernel
theorem dX6_init_98 : decode cX6_init 98 = .ok (.newarray .int, 2) := by decide +kernel
theorem dX6_init_100 : decode cX6_init 100 = .ok (.putfield 59, 3) := by decide +kernel
theorem dX6_init_103 : decode cX6_init 103 = .ok (.iconst 0, 1) := by decide +kernel
theorem dX6_init_104 : decode cX6_init 104 = .ok (.istore_n 1, 1) := by decide +kernel
theorem dX6_init_105 : decode cX6_init 105 = .ok (.iload_n 1, 1) := by decide +kernel
theorem dX6_init_106 : decode cX6_init 106 = .ok (.iconst 3, 1) := by decide +kernel
theorem dX6_init_107 : decode cX6_init 107 = .ok (.if_icmp .ge 23, 3) := by decide +kernel
theorem dX6_init_110 : decode cX6_init 110 = .ok (.aload_n 0, 1) := by decide +kernel
theorem dX6_init_111 : decode cX6_init 111 = .ok (.getfield 11, 3) := by decide +kernel
theorem dX6_init_114 : decode cX6_init 114 = .ok (.iload_n 1, 1) := by decide +kernel
theorem dX6_init_115 : decode cX6_init 115 = .ok (.new 9, 3) := by decide +kernel
theorem dX6_init_118 : decode cX6_init 118 = .ok (.dup, 1) := by decide +kernel
theorem dX6_init_119 : decode cX6_init 119 = .ok (.iload_n 1, 1) := by decide +kernel
theorem dX6_init_120 : decode cX6_init 120 = .ok (.invokespecial 62, 3) := by decide +kernel
theorem dX6_init_123 : decode cX6_init 123 = .ok (.aastore, 1) := by decide +kernel
theorem dX6_init_124 : decode cX6_init 124 = .ok (.iinc 1 1, 3) := by decide +kernel
theorem dX6_init_127 : decode cX6_init 127 = .ok (.goto (-22), 3) := by decide +kernel
theorem dX6_init_130 : decode cX6_init 130 = .ok (.iconst 0, 1) := by decide +kernel
theorem dX6_init_131 : decode cX6_init 131 = .ok (.istore_n 1, 1) := by decide +kernel
theorem dX6_init_132 : decode cX6_init 132 = .ok (.iload_n 1, 1) := by decide +kernel
theorem dX6_init_133 : decode cX6_init 133 = .ok (.iconst 4, 1) := by decide +kernel
theorem dX6_init_134 : decode cX6_init 134 = .ok (.if_icmp .ge 22, 3) := by decide +kernel
theorem dX6_init_137 : decode cX6_init 137 = .ok (.aload_n 0, 1) := by decide +kernel
theorem dX6_init_138 : decode cX6_init 138 = .ok (.getfield 31, 3) := by decide +kernel
theorem dX6_init_141 : decode cX6_init 141 = .ok (.iload_n 1, 1) := by decide +kernel
theorem dX6_init_142 : decode cX6_init 142 = .ok (.new 29, 3) := by decide +kernel
theorem dX6_init_145 : decode cX6_init 145 = .ok (.dup, 1) := by decide +kernel
theorem dX6_init_146 : decode cX6_init 146 = .ok (.invokespecial 65, 3) := by decide +kernel
theorem dX6_init_149 : decode cX6_init 149 = .ok (.aastore, 1) := by decide +kernel
theorem dX6_init_150 : decode cX6_init 150 = .ok (.iinc 1 1, 3) := by decide +kernel
theorem dX6_init_153 : decode cX6_init 153 = .ok (.goto (-21), 3) := by decide +kernel
theorem dX6_init_156 : decode cX6_init 156 = .ok (.return_, 1) := by decide +kernel
theorem dX6_type_0 : decode cX6_type 0 = .ok (.iload_n 1, 1) := by decide +kernel
theorem dX6_type_1 : decode cX6_type 1 = .ok (.iconst 3, 1) := by decide +kernel
theorem dX6_type_2 : decode cX6_type 2 = .ok (.invokestatic 66, 3) := by decide +kernel
theorem dX6_type_5 : decode cX6_type 5 = .ok (.ifCond .ne 13, 3) := by decide +kernel
theorem dX6_type_8 : decode cX6_type 8 = .ok (.iload_n 2, 1) := by decide +kernel
theorem dX6_type_9 : decode cX6_type 9 = .ok (.sipush 256, 3) := by decide +kernel
theorem dX6_type_12 : decode cX6_type 12 = .ok (.invokestatic 66, 3) := by decide +kernel
theorem dX6_type_15 : decode cX6_type 15 = .ok (.ifCond .eq 6, 3) := by decide +kernel
theorem dX6_type_18 : decode cX6_type 18 = .ok (.bipush (-2), 2) := by decide +kernel
theorem dX6_type_20 : decode cX6_type 20 = .ok (.ireturn, 1) := by decide +kernel
theorem dX6_type_21 : decode cX6_type 21 = .ok (.aload_n 0, 1) := by decide +kernel
theorem dX6_type_22 : decode cX6_type 22 = .ok (.getfield 11, 3) := by decide +kernel
theorem dX6_type_25 : decode cX6_type 25 = .ok (.iload_n 1, 1) := by decide +kernel
theorem dX6_type_26 : decode cX6_type 26 = .ok (.aaload, 1) := by decide +kernel
theorem dX6_type_27 : decode cX6_type 27 = .ok (.invokevirtual 70, 3) := by decide +kernel
theorem dX6_type_30 : decode cX6_type 30 = .ok (.ifCond .eq 6, 3) := by decide +kernel
theorem dX6_type_33 : decode cX6_type 33 = .ok (.bipush (-4), 2) := by decide +kernel
theorem dX6_type_35 : decode cX6_type 35 = .ok (.ireturn, 1) := by decide +kernel
theorem dX6_type_36 : decode cX6_type 36 = .ok (.aload_n 0, 1) := by decide +kernel
theorem dX6_type_37 : decode cX6_type 37 = .ok (.getfield 11, 3) := by decide +kernel
theorem dX6_type_40 : decode cX6_type 40 = .ok (.iload_n 1, 1) := by decide +kernel
theorem dX6_type_41 : decode cX6_type 41 = .ok (.aaload, 1) := by decide +kernel
theorem dX6_type_42 : decode cX6_type 42 = .ok (.iload_n 2, 1) := by decide +kernel
theorem dX6_type_43 : decode cX6_type 43 = .ok (.invokevirtual 74, 3) := by decide +kernel
theorem dX6_type_46 : decode cX6_type 46 = .ok (.aload_n 0, 1) := by decide +kernel
theorem dX6_type_47 : decode cX6_type 47 = .ok (.iload_n 1, 1) := by decide +kernel
theorem dX6_type_48 : decode cX6_type 48 = .ok (.invokevirtual 77, 3) := by decide +kernel
theorem dX6_type_51 : decode cX6_type 51 = .ok (.aload_n 0, 1) := by decide +kernel
theorem dX6_type_52 : decode cX6_type 52 = .ok (.getfield 11, 3) := by decide +kernel
theorem dX6_type_55 : decode cX6_type 55 = .ok (.iload_n 1, 1) := by decide +kernel
theorem dX6_type_56 : decode cX6_type 56 = .ok (.aaload, 1) := by decide +kernel
theorem dX6_type_57 : decode cX6_type 57 = .ok (.invokevirtual 80, 3) := by decide +kernel
theorem dX6_type_60 : decode cX6_type 60 = .ok (.ireturn, 1) := by decide +kernel
theorem dX6_wipe_0 : decode cX6_wipe 0 = .ok (.iload_n 1, 1) := by decide +kernel
theorem dX6_wipe_1 : decode cX6_wipe 1 = .ok (.iconst 3, 1) := by decide +kernel
theorem dX6_wipe_2 : decode cX6_wipe 2 = .ok (.invokestatic 66, 3) := by decide +kernel
theorem dX6_wipe_5 : decode cX6_wipe 5 = .ok (.ifCond .eq 6, 3) := by decide +kernel
theorem dX6_wipe_8 : decode cX6_wipe 8 = .ok (.bipush (-2), 2) := by decide +kernel
theorem dX6_wipe_10 : decode cX6_wipe 10 = .ok (.ireturn, 1) := by decide +kernel
theorem dX6_wipe_11 : decode cX6_wipe 11 = .ok (.aload_n 0, 1) := by decide +kernel
theorem dX6_wipe_12 : decode cX6_wipe 12 = .ok (.getfield 11, 3) := by decide +kernel
theorem dX6_wipe_15 : decode cX6_wipe 15 = .ok (.iload_n 1, 1) := by decide +kernel
theorem dX6_wipe_16 : decode cX6_wipe 16 = .ok (.aaload, 1) := by decide +kernel
theorem dX6_wipe_17 : decode cX6_wipe 17 = .ok (.invokevirtual 80, 3) := by decide +kernel
theorem dX6_wipe_20 : decode cX6_wipe 20 = .ok (.istore_n 2, 1) := by decide +kernel
theorem dX6_wipe_21 : decode cX6_wipe 21 = .ok (.aload_n 0, 1) := by decide +kernel
theorem dX6_wipe_22 : decode cX6_wipe 22 = .ok (.getfield 11, 3) := by decide +kernel
theorem dX6_wipe_25 : decode cX6_wipe 25 = .ok (.iload_n 1, 1) := by decide +kernel
theorem dX6_wipe_26 : decode cX6_wipe 26 = .ok (.aaload, 1) := by decide +kernel
theorem dX6_wipe_27 : decode cX6_wipe 27 = .ok (.iconst 0, 1) := by decide +kernel
theorem dX6_wipe_28 : decode cX6_wipe 28 = .ok (.invokevirtual 84, 3) := by decide +kernel
theorem dX6_wipe_31 : decode cX6_wipe 31 = .ok (.aload_n 0, 1) := by decide +kernel
theorem dX6_wipe_32 : decode cX6_wipe 32 = .ok (.iload_n 1, 1) := by decide +kernel
theorem dX6_wipe_33 : decode cX6_wipe 33 = .ok (.invokevirtual 77, 3) := by decide +kernel
theorem dX6_wipe_36 : decode cX6_wipe 36 = .ok (.iload_n 2, 1) := by decide +kernel
theorem dX6_wipe_37 : decode cX6_wipe 37 = .ok (.ireturn, 1) := by decide +kernel
theorem dX6_undo_0 : decode cX6_undo 0 = .ok (.iload_n 1, 1) := by decide +kernel
theorem dX6_undo_1 : decode cX6_undo 1 = .ok (.iconst 3, 1) := by decide +kernel
theorem dX6_undo_2 : decode cX6_undo 2 = .ok (.invokestatic 66, 3) := by decide +kernel
theorem dX6_undo_5 : decode cX6_undo 5 = .ok (.ifCond .eq 6, 3) := by decide +kernel
theorem dX6_undo_8 : decode cX6_undo 8 = .ok (.bipush (-2), 2) := by decide +kernel
theorem dX6_undo_10 : decode cX6_undo 10 = .ok (.ireturn, 1) := by decide +kernel
theorem dX6_undo_11 : decode cX6_undo 11 = .ok (.aload_n 0, 1) := by decide +kernel
theorem dX6_undo_12 : decode cX6_undo 12 = .ok (.getfield 11, 3) := by decide +kernel
theorem dX6_undo_15 : decode cX6_undo 15 = .ok (.iload_n 1, 1) := by decide +kernel
theorem dX6_undo_16 : decode cX6_undo 16 = .ok (.aaload, 1) := by decide +kernel
theorem dX6_undo_17 : decode cX6_undo 17 = .ok (.invokevirtual 80, 3) := by decide +kernel
theorem dX6_undo_20 : decode cX6_undo 20 = .ok (.istore_n 2, 1) := by decide +kernel
theorem dX6_undo_21 : decode cX6_undo 21 = .ok (.iload_n 2, 1) := by decide +kernel
theorem dX6_undo_22 : decode cX6_undo 22 = .ok (.ifCond .ne 6, 3) := by decide +kernel
theorem dX6_undo_25 : decode cX6_undo 25 = .ok (.bipush (-3), 2) := by decide +kernel
theorem dX6_undo_27 : decode cX6_undo 27 = .ok (.ireturn, 1) := by decide +kernel
theorem dX6_undo_28 : decode cX6_undo 28 = .ok (.aload_n 0, 1) := by decide +kernel
theorem dX6_undo_29 : decode cX6_undo 29 = .ok (.getfield 11, 3) := by decide +kernel
theorem dX6_undo_32 : decode cX6_undo 32 = .ok (.iload_n 1, 1) := by decide +kernel
theorem dX6_undo_33 : decode cX6_undo 33 = .ok (.aaload, 1) := by decide +kernel
theorem dX6_undo_34 : decode cX6_undo 34 = .ok (.iload_n 2, 1) := by decide +kernel
theorem dX6_undo_35 : decode cX6_undo 35 = .ok (.iconst 1, 1) := by decide +kernel
theorem dX6_undo_36 : decode cX6_undo 36 = .ok (.isub, 1) := by decide +kernel
theorem dX6_undo_37 : decode cX6_undo 37 = .ok (.invokevirtual 84, 3) := by decide +kernel
theorem dX6_undo_40 : decode cX6_undo 40 = .ok (.aload_n 0, 1) := by decide +kernel
theorem dX6_undo_41 : decode cX6_undo 41 = .ok (.iload_n 1, 1) := by decide +kernel
theorem dX6_undo_42 : decode cX6_undo 42 = .ok (.invokevirtual 77, 3) := by decide +kernel
theorem dX6_undo_45 : decode cX6_undo 45 = .ok (.iload_n 2, 1) := by decide +kernel
theorem dX6_undo_46 : decode cX6_undo 46 = .ok (.iconst 1, 1) := by decide +kernel
theorem dX6_undo_47 : decode cX6_undo 47 = .ok (.isub, 1) := by decide +kernel
theorem dX6_undo_48 : decode cX6_undo 48 = .ok (.ireturn, 1) := by decide +kernel
theorem dX6_fault_0 : decode cX6_fault 0 = .ok (.iload_n 1, 1) := by decide +kernel
theorem dX6_fault_1 : decode cX6_fault 1 = .ok (.iconst 3, 1) := by decide +kernel
theorem dX6_fault_2 : decode cX6_fault 2 = .ok (.invokestatic 66, 3) := by decide +kernel
theorem dX6_fault_5 : decode cX6_fault 5 = .ok (.ifCond .eq 8, 3) := by decide +kernel
theorem dX6_fault_8 : decode cX6_fault 8 = .ok (.bipush (-2), 2) := by decide +kernel
theorem dX6_fault_10 : decode cX6_fault 10 = .ok (.goto 12, 3) := by decide +kernel
theorem dX6_fault_13 : decode cX6_fault 13 = .ok (.aload_n 0, 1) := by decide +kernel
theorem dX6_fault_14 : decode cX6_fault 14 = .ok (.getfield 11, 3) := by decide +kernel
theorem dX6_fault_17 : decode cX6_fault 17 = .ok (.iload_n 1, 1) := by decide +kernel
theorem dX6_fault_18 : decode cX6_fault 18 = .ok (.aaload, 1) := by decide +kernel
theorem dX6_fault_19 : decode cX6_fault 19 = .ok (.invokevirtual 87, 3) := by decide +kernel
theorem dX6_fault_22 : decode cX6_fault 22 = .ok (.ireturn, 1) := by decide +kernel
theorem dX6_person_0 : decode cX6_person 0 = .ok (.iload_n 1, 1) := by decide +kernel
theorem dX6_person_1 : decode cX6_person 1 = .ok (.aload_n 0, 1) := by decide +kernel
theorem dX6_person_2 : decode cX6_person 2 = .ok (.getfield 38, 3) := by decide +kernel
theorem dX6_person_5 : decode cX6_person 5 = .ok (.getfield 90, 3) := by decide +kernel
theorem dX6_person_8 : decode cX6_person 8 = .ok (.invokestatic 66, 3) := by decide +kernel
theorem dX6_person_11 : decode cX6_person 11 = .ok (.ifCond .ne 11, 3) := by decide +kernel
theorem dX6_person_14 : decode cX6_person 14 = .ok (.iload_n 2, 1) := by decide +kernel
theorem dX6_person_15 : decode cX6_person 15 = .ok (.iconst 2, 1) := by decide +kernel
theorem dX6_person_16 : decode cX6_person 16 = .ok (.invokestatic 66, 3) := by decide +kernel
theorem dX6_person_19 : decode cX6_person 19 = .ok (.ifCond .eq 6, 3) := by decide +kernel
theorem dX6_person_22 : decode cX6_person 22 = .ok (.bipush (-2), 2) := by decide +kernel
theorem dX6_person_24 : decode cX6_person 24 = .ok (.ireturn, 1) := by decide +kernel
theorem dX6_person_25 : decode cX6_person 25 = .ok (.iload_n 2, 1) := by decide +kernel
theorem dX6_person_26 : decode cX6_person 26 = .ok (.ifCond .ne 15, 3) := by decide +kernel
theorem dX6_person_29 : decode cX6_person 29 = .ok (.aload_n 0, 1) := by decide +kernel
theorem dX6_person_30 : decode cX6_person 30 = .ok (.getfield 38, 3) := by decide +kernel
theorem dX6_person_33 : decode cX6_person 33 = .ok (.getfield 94, 3) := by decide +kernel
theorem dX6_person_36 : decode cX6_person 36 = .ok (.iload_n 1, 1) := by decide +kernel
theorem dX6_person_37 : decode cX6_person 37 = .ok (.iaload, 1) := by decide +kernel
theorem dX6_person_38 : decode cX6_person 38 = .ok (.goto 12, 3) := by decide +kernel
theorem dX6_person_41 : decode cX6_person 41 = .ok (.aload_n 0, 1) := by decide +kernel
theorem dX6_person_42 : decode cX6_person 42 = .ok (.getfield 38, 3) := by decide +kernel
theorem dX6_person_45 : decode cX6_person 45 = .ok (.getfield 97, 3) := by decide +kernel
theorem dX6_person_48 : decode cX6_person 48 = .ok (.iload_n 1, 1) := by decide +kernel
theorem dX6_person_49 : decode cX6_person 49 = .ok (.iaload, 1) := by decide +kernel
theorem dX6_person_50 : decode cX6_person 50 = .ok (.ireturn, 1) := by decide +kernel
theorem dX6_word_0 : decode cX6_word 0 = .ok (.iload_n 1, 1) := by decide +kernel
theorem dX6_word_1 : decode cX6_word 1 = .ok (.aload_n 0, 1) := by decide +kernel
theorem dX6_word_2 : decode cX6_word 2 = .ok (.getfield 38, 3) := by decide +kernel
theorem dX6_word_5 : decode cX6_word 5 = .ok (.getfield 100, 3) := by decide +kernel
theorem dX6_word_8 : decode cX6_word 8 = .ok (.invokestatic 66, 3) := by decide +kernel
theorem dX6_word_11 : decode cX6_word 11 = .ok (.ifCond .ne 11, 3) := by decide +kernel
theorem dX6_word_14 : decode cX6_word 14 = .ok (.iload_n 2, 1) := by decide +kernel
theorem dX6_word_15 : decode cX6_word 15 = .ok (.iconst 3, 1) := by decide +kernel
theorem dX6_word_16 : decode cX6_word 16 = .ok (.invokestatic 66, 3) := by decide +kernel
theorem dX6_word_19 : decode cX6_word 19 = .ok (.ifCond .eq 6, 3) := by decide +kernel
theorem dX6_word_22 : decode cX6_word 22 = .ok (.bipush (-2), 2) := by decide +kernel
theorem dX6_word_24 : decode cX6_word 24 = .ok (.ireturn, 1) := by decide +kernel
theorem dX6_word_25 : decode cX6_word 25 = .ok (.iload_n 2, 1) := by decide +kernel
theorem dX6_word_26 : decode cX6_word 26 = .ok (.ifCond .ne 13, 3) := by decide +kernel
theorem dX6_word_29 : decode cX6_word 29 = .ok (.aload_n 0, 1) := by decide +kernel
theorem dX6_word_30 : decode cX6_word 30 = .ok (.getfield 38, 3) := by decide +kernel
theorem dX6_word_33 : decode cX6_word 33 = .ok (.getfield 103, 3) := by decide +kernel
theorem dX6_word_36 : decode cX6_word 36 = .ok (.iload_n 1, 1) := by decide +kernel
theorem dX6_word_37 : decode cX6_word 37 = .ok (.iaload, 1) := by decide +kernel
theorem dX6_word_38 : decode cX6_word 38 = .ok (.ireturn, 1) := by decide +kernel
theorem dX6_word_39 : decode cX6_word 39 = .ok (.iload_n 2, 1) := by decide +kernel
theorem dX6_word_40 : decode cX6_word 40 = .ok (.iconst 1, 1) := by decide +kernel
theorem dX6_word_41 : decode cX6_word 41 = .ok (.if_icmp .ne 15, 3) := by decide +kernel
theorem dX6_word_44 : decode cX6_word 44 = .ok (.aload_n 0, 1) := by decide +kernel
theorem dX6_word_45 : decode cX6_word 45 = .ok (.getfield 38, 3) := by decide +kernel
theorem dX6_word_48 : decode cX6_word 48 = .ok (.getfield 106, 3) := by decide +kernel
theorem dX6_word_51 : decode cX6_word 51 = .ok (.iload_n 1, 1) := by decide +kernel
theorem dX6_word_52 : decode cX6_word 52 = .ok (.iaload, 1) := by decide +kernel
theorem dX6_word_53 : decode cX6_word 53 = .ok (.goto 12, 3) := by decide +kernel
theorem dX6_word_56 : decode cX6_word 56 = .ok (.aload_n 0, 1) := by decide +kernel
theorem dX6_word_57 : decode cX6_word 57 = .ok (.getfield 38, 3) := by decide +kernel
theorem dX6_word_60 : decode cX6_word 60 = .ok (.getfield 109, 3) := by decide +kernel
theorem dX6_word_63 : decode cX6_word 63 = .ok (.iload_n 1, 1) := by decide +kernel
theorem dX6_word_64 : decode cX6_word 64 = .ok (.iaload, 1) := by decide +kernel
theorem dX6_word_65 : decode cX6_word 65 = .ok (.ireturn, 1) := by decide +kernel
theorem dX6_meeting_0 : decode cX6_meeting 0 = .ok (.iload_n 1, 1) := by decide +kernel
theorem dX6_meeting_1 : decode cX6_meeting 1 = .ok (.bipush 12, 2) := by decide +kernel
theorem dX6_meeting_3 : decode cX6_meeting 3 = .ok (.invokestatic 66, 3) := by decide +kernel
theorem dX6_meeting_6 : decode cX6_meeting 6 = .ok (.ifCond .ne 11, 3) := by decide +kernel
theorem dX6_meeting_9 : decode cX6_meeting 9 = .ok (.iload_n 2, 1) := by decide +kernel
theorem dX6_meeting_10 : decode cX6_meeting 10 = .ok (.iconst 3, 1) := by decide +kernel
theorem dX6_meeting_11 : decode cX6_meeting 11 = .ok (.invokestatic 66, 3) := by decide +kernel
theorem dX6_meeting_14 : decode cX6_meeting 14 = .ok (.ifCond .eq 6, 3) := by decide +kernel
theorem dX6_meeting_17 : decode cX6_meeting 17 = .ok (.bipush (-2), 2) := by decide +kernel
theorem dX6_meeting_19 : decode cX6_meeting 19 = .ok (.ireturn, 1) := by decide +kernel
theorem dX6_meeting_20 : decode cX6_meeting 20 = .ok (.iload_n 1, 1) := by decide +kernel
theorem dX6_meeting_21 : decode cX6_meeting 21 = .ok (.aload_n 0, 1) := by decide +kernel
theorem dX6_meeting_22 : decode cX6_meeting 22 = .ok (.getfield 38, 3) := by decide +kernel
theorem dX6_meeting_25 : decode cX6_meeting 25 = .ok (.getfield 112, 3) := by decide +kernel
theorem dX6_meeting_28 : decode cX6_meeting 28 = .ok (.if_icmp .lt 5, 3) := by decide +kernel
theorem dX6_meeting_31 : decode cX6_meeting 31 = .ok (.iconst (-1), 1) := by decide +kernel
theorem dX6_meeting_32 : decode cX6_meeting 32 = .ok (.ireturn, 1) := by decide +kernel
theorem dX6_meeting_33 : decode cX6_meeting 33 = .ok (.iload_n 2, 1) := by decide +kernel
theorem dX6_meeting_34 : decode cX6_meeting 34 = .ok (.ifCond .ne 13, 3) := by decide +kernel
theorem dX6_meeting_37 : decode cX6_meeting 37 = .ok (.aload_n 0, 1) := by decide +kernel
theorem dX6_meeting_38 : decode cX6_meeting 38 = .ok (.getfield 38, 3) := by decide +kernel
theorem dX6_meeting_41 : decode cX6_meeting 41 = .ok (.getfield 115, 3) := by decide +kernel
theorem dX6_meeting_44 : decode cX6_meeting 44 = .ok (.iload_n 1, 1) := by decide +kernel
theorem dX6_meeting_45 : decode cX6_meeting 45 = .ok (.iaload, 1) := by decide +kernel
theorem dX6_meeting_46 : decode cX6_meeting 46 = .ok (.ireturn, 1) := by decide +kernel
theorem dX6_meeting_47 : decode cX6_meeting 47 = .ok (.iload_n 2, 1) := by decide +kernel
theorem dX6_meeting_48 : decode cX6_meeting 48 = .ok (.iconst 1, 1) := by decide +kernel
theorem dX6_meeting_49 : decode cX6_meeting 49 = .ok (.if_icmp .ne 15, 3) := by decide +kernel
theorem dX6_meeting_52 : decode cX6_meeting 52 = .ok (.aload_n 0, 1) := by decide +kernel
theorem dX6_meeting_53 : decode cX6_meeting 53 = .ok (.getfield 38, 3) := by decide +kernel
theorem dX6_meeting_56 : decode cX6_meeting 56 = .ok (.getfield 118, 3) := by decide +kernel
theorem dX6_meeting_59 : decode cX6_meeting 59 = .ok (.iload_n 1, 1) := by decide +kernel
theorem dX6_meeting_60 : decode cX6_meeting 60 = .ok (.iaload, 1) := by decide +kernel
theorem dX6_meeting_61 : decode cX6_meeting 61 = .ok (.goto 12, 3) := by decide +kernel
theorem dX6_meeting_64 : decode cX6_meeting 64 = .ok (.aload_n 0, 1) := by decide +kernel
theorem dX6_meeting_65 : decode cX6_meeting 65 = .ok (.getfield 38, 3) := by decide +kernel
theorem dX6_meeting_68 : decode cX6_meeting 68 = .ok (.getfield 121, 3) := by decide +kernel
theorem dX6_meeting_71 : decode cX6_meeting 71 = .ok (.iload_n 1, 1) := by decide +kernel
theorem dX6_meeting_72 : decode cX6_meeting 72 = .ok (.iaload, 1) := by decide +kernel
theorem dX6_meeting_73 : decode cX6_meeting 73 = .ok (.ireturn, 1) := by decide +kernel
theorem dX6_echo_0 : decode cX6_echo 0 = .ok (.iload_n 1, 1) := by decide +kernel
theorem dX6_echo_1 : decode cX6_echo 1 = .ok (.iload_n 2, 1) := by decide +kernel
theorem dX6_echo_2 : decode cX6_echo 2 = .ok (.invokestatic 124, 3) := by decide +kernel
theorem dX6_echo_5 : decode cX6_echo 5 = .ok (.ifCond .ne 6, 3) := by decide +kernel
theorem dX6_echo_8 : decode cX6_echo 8 = .ok (.bipush (-2), 2) := by decide +kernel
theorem dX6_echo_10 : decode cX6_echo 10 = .ok (.ireturn, 1) := by decide +kernel
theorem dX6_echo_11 : decode cX6_echo 11 = .ok (.aload_n 0, 1) := by decide +kernel
theorem dX6_echo_12 : decode cX6_echo 12 = .ok (.getfield 18, 3) := by decide +kernel
theorem dX6_echo_15 : decode cX6_echo 15 = .ok (.invokevirtual 127, 3) := by decide +kernel
theorem dX6_echo_18 : decode cX6_echo 18 = .ok (.ifCond .eq 6, 3) := by decide +kernel
theorem dX6_echo_21 : decode cX6_echo 21 = .ok (.bipush (-4), 2) := by decide +kernel
theorem dX6_echo_23 : decode cX6_echo 23 = .ok (.ireturn, 1) := by decide +kernel
theorem dX6_echo_24 : decode cX6_echo 24 = .ok (.aload_n 0, 1) := by decide +kernel
theorem dX6_echo_25 : decode cX6_echo 25 = .ok (.getfield 18, 3) := by decide +kernel
theorem dX6_echo_28 : decode cX6_echo 28 = .ok (.iload_n 1, 1) := by decide +kernel
theorem dX6_echo_29 : decode cX6_echo 29 = .ok (.iload_n 2, 1) := by decide +kernel
theorem dX6_echo_30 : decode cX6_echo 30 = .ok (.invokevirtual 128, 3) := by decide +kernel
theorem dX6_echo_33 : decode cX6_echo 33 = .ok (.aload_n 0, 1) := by decide +kernel
theorem dX6_echo_34 : decode cX6_echo 34 = .ok (.invokevirtual 131, 3) := by decide +kernel
theorem dX6_echo_37 : decode cX6_echo 37 = .ok (.aload_n 0, 1) := by decide +kernel
theorem dX6_echo_38 : decode cX6_echo 38 = .ok (.getfield 18, 3) := by decide +kernel
theorem dX6_echo_41 : decode cX6_echo 41 = .ok (.getfield 134, 3) := by decide +kernel
theorem dX6_echo_44 : decode cX6_echo 44 = .ok (.ireturn, 1) := by decide +kernel
theorem dX6_back_0 : decode cX6_back 0 = .ok (.aload_n 0, 1) := by decide +kernel
theorem dX6_back_1 : decode cX6_back 1 = .ok (.getfield 18, 3) := by decide +kernel
theorem dX6_back_4 : decode cX6_back 4 = .ok (.getfield 134, 3) := by decide +kernel
theorem dX6_back_7 : decode cX6_back 7 = .ok (.ifCond .ne 6, 3) := by decide +kernel
theorem dX6_back_10 : decode cX6_back 10 = .ok (.bipush (-3), 2) := by decide +kernel
theorem dX6_back_12 : decode cX6_back 12 = .ok (.ireturn, 1) := by decide +kernel
theorem dX6_back_13 : decode cX6_back 13 = .ok (.aload_n 0, 1) := by decide +kernel
theorem dX6_back_14 : decode cX6_back 14 = .ok (.getfield 18, 3) := by decide +kernel
theorem dX6_back_17 : decode cX6_back 17 = .ok (.dup, 1) := by decide +kernel
theorem dX6_back_18 : decode cX6_back 18 = .ok (.getfield 134, 3) := by decide +kernel
theorem dX6_back_21 : decode cX6_back 21 = .ok (.iconst 1, 1) := by decide +kernel
theorem dX6_back_22 : decode cX6_back 22 = .ok (.isub, 1) := by decide +kernel
theorem dX6_back_23 : decode cX6_back 23 = .ok (.putfield 134, 3) := by decide +kernel
theorem dX6_back_26 : decode cX6_back 26 = .ok (.aload_n 0, 1) := by decide +kernel
theorem dX6_back_27 : decode cX6_back 27 = .ok (.invokevirtual 131, 3) := by decide +kernel
theorem dX6_back_30 : decode cX6_back 30 = .ok (.aload_n 0, 1) := by decide +kernel
theorem dX6_back_31 : decode cX6_back 31 = .ok (.getfield 18, 3) := by decide +kernel
theorem dX6_back_34 : decode cX6_back 34 = .ok (.getfield 134, 3) := by decide +kernel
theorem dX6_back_37 : decode cX6_back 37 = .ok (.ireturn, 1) := by decide +kernel
theorem dX6_read_0 : decode cX6_read 0 = .ok (.iload_n 1, 1) := by decide +kernel
theorem dX6_read_1 : decode cX6_read 1 = .ok (.iconst 4, 1) := by decide +kernel
theorem dX6_read_2 : decode cX6_read 2 = .ok (.invokestatic 66, 3) := by decide +kernel
theorem dX6_read_5 : decode cX6_read 5 = .ok (.ifCond .eq 6, 3) := by decide +kernel
theorem dX6_read_8 : decode cX6_read 8 = .ok (.bipush (-2), 2) := by decide +kernel
theorem dX6_read_10 : decode cX6_read 10 = .ok (.ireturn, 1) := by decide +kernel
theorem dX6_read_11 : decode cX6_read 11 = .ok (.aload_n 0, 1) := by decide +kernel
theorem dX6_read_12 : decode cX6_read 12 = .ok (.getfield 31, 3) := by decide +kernel
theorem dX6_read_15 : decode cX6_read 15 = .ok (.iload_n 1, 1) := by decide +kernel
theorem dX6_read_16 : decode cX6_read 16 = .ok (.aaload, 1) := by decide +kernel
theorem dX6_read_17 : decode cX6_read 17 = .ok (.astore_n 2, 1) := by decide +kernel
theorem dX6_read_18 : decode cX6_read 18 = .ok (.aload_n 2, 1) := by decide +kernel
theorem dX6_read_19 : decode cX6_read 19 = .ok (.invokevirtual 137, 3) := by decide +kernel
theorem dX6_read_22 : decode cX6_read 22 = .ok (.ifCond .eq 9, 3) := by decide +kernel
theorem dX6_read_25 : decode cX6_read 25 = .ok (.aload_n 0, 1) := by decide +kernel
theorem dX6_read_26 : decode cX6_read 26 = .ok (.iconst 1, 1) := by decide +kernel
theorem dX6_read_27 : decode cX6_read 27 = .ok (.invokevirtual 140, 3) := by decide +kernel
theorem dX6_read_30 : decode cX6_read 30 = .ok (.ireturn, 1) := by decide +kernel
theorem dX6_read_31 : decode cX6_read 31 = .ok (.iconst 0, 1) := by decide +kernel
theorem dX6_read_32 : decode cX6_read 32 = .ok (.istore_n 3, 1) := by decide +kernel
theorem dX6_read_33 : decode cX6_read 33 = .ok (.iconst 0, 1) := by decide +kernel
theorem dX6_read_34 : decode cX6_read 34 = .ok (.istore 4, 2) := by decide +kernel
theorem dX6_read_36 : decode cX6_read 36 = .ok (.iload 4, 2) := by decide +kernel
theorem dX6_read_38 : decode cX6_read 38 = .ok (.iconst 1, 1) := by decide +kernel
theorem dX6_read_39 : decode cX6_read 39 = .ok (.iadd, 1) := by decide +kernel
theorem dX6_read_40 : decode cX6_read 40 = .ok (.aload_n 2, 1) := by decide +kernel
theorem dX6_read_41 : decode cX6_read 41 = .ok (.getfield 144, 3) := by decide +kernel
theorem dX6_read_44 : decode cX6_read 44 = .ok (.if_icmp .ge 70, 3) := by decide +kernel
theorem dX6_read_47 : decode cX6_read 47 = .ok (.aload_n 0, 1) := by decide +kernel
theorem dX6_read_48 : decode cX6_read 48 = .ok (.getfield 18, 3) := by decide +kernel
theorem dX6_read_51 : decode cX6_read 51 = .ok (.invokevirtual 127, 3) := by decide +kernel
theorem dX6_read_54 : decode cX6_read 54 = .ok (.ifCond .ne 60, 3) := by decide +kernel
theorem dX6_read_57 : decode cX6_read 57 = .ok (.aload_n 2, 1) := by decide +kernel
theorem dX6_read_58 : decode cX6_read 58 = .ok (.getfield 146, 3) := by decide +kernel
theorem dX6_read_61 : decode cX6_read 61 = .ok (.iload 4, 2) := by decide +kernel
theorem dX6_read_63 : decode cX6_read 63 = .ok (.iaload, 1) := by decide +kernel
theorem dX6_read_64 : decode cX6_read 64 = .ok (.aload_n 2, 1) := by decide +kernel
theorem dX6_read_65 : decode cX6_read 65 = .ok (.getfield 146, 3) := by decide +kernel
theorem dX6_read_68 : decode cX6_read 68 = .ok (.iload 4, 2) := by decide +kernel
theorem dX6_read_70 : decode cX6_read 70 = .ok (.iconst 1, 1) := by decide +kernel
theorem dX6_read_71 : decode cX6_read 71 = .ok (.iadd, 1) := by decide +kernel
theorem dX6_read_72 : decode cX6_read 72 = .ok (.iaload, 1) := by decide +kernel
theorem dX6_read_73 : decode cX6_read 73 = .ok (.invokestatic 124, 3) := by decide +kernel
theorem dX6_read_76 : decode cX6_read 76 = .ok (.ifCond .ne 6, 3) := by decide +kernel
theorem dX6_read_79 : decode cX6_read 79 = .ok (.goto 35, 3) := by decide +kernel
theorem dX6_read_82 : decode cX6_read 82 = .ok (.aload_n 0, 1) := by decide +kernel
theorem dX6_read_83 : decode cX6_read 83 = .ok (.getfield 18, 3) := by decide +kernel
theorem dX6_read_86 : decode cX6_read 86 = .ok (.aload_n 2, 1) := by decide +kernel
theorem dX6_read_87 : decode cX6_read 87 = .ok (.getfield 146, 3) := by decide +kernel
theorem dX6_read_90 : decode cX6_read 90 = .ok (.iload 4, 2) := by decide +kernel
theorem dX6_read_92 : decode cX6_read 92 = .ok (.iaload, 1) := by decide +kernel
theorem dX6_read_93 : decode cX6_read 93 = .ok (.aload_n 2, 1) := by decide +kernel
theorem dX6_read_94 : decode cX6_read 94 = .ok (.getfield 146, 3) := by decide +kernel
theorem dX6_read_97 : decode cX6_read 97 = .ok (.iload 4, 2) := by decide +kernel
theorem dX6_read_99 : decode cX6_read 99 = .ok (.iconst 1, 1) := by decide +kernel
theorem dX6_read_100 : decode cX6_read 100 = .ok (.iadd, 1) := by decide +kernel
theorem dX6_read_101 : decode cX6_read 101 = .ok (.iaload, 1) := by decide +kernel
theorem dX6_read_102 : decode cX6_read 102 = .ok (.invokevirtual 128, 3) := by decide +kernel
theorem dX6_read_105 : decode cX6_read 105 = .ok (.iinc 3 1, 3) := by decide +kernel
theorem dX6_read_108 : decode cX6_read 108 = .ok (.iinc 4 2, 3) := by decide +kernel
theorem dX6_read_111 : decode cX6_read 111 = .ok (.goto (-75), 3) := by decide +kernel
theorem dX6_read_114 : decode cX6_read 114 = .ok (.aload_n 0, 1) := by decide +kernel
theorem dX6_read_115 : decode cX6_read 115 = .ok (.invokevirtual 131, 3) := by decide +kernel
theorem dX6_read_118 : decode cX6_read 118 = .ok (.iload_n 3, 1) := by decide +kernel
theorem dX6_read_119 : decode cX6_read 119 = .ok (.ireturn, 1) := by decide +kernel
theorem dX6_stands_0 : decode cX6_stands 0 = .ok (.iload_n 1, 1) := by decide +kernel
theorem dX6_stands_1 : decode cX6_stands 1 = .ok (.bipush 24, 2) := by decide +kernel
theorem dX6_stands_3 : decode cX6_stands 3 = .ok (.invokestatic 66, 3) := by decide +kernel
theorem dX6_stands_6 : decode cX6_stands 6 = .ok (.ifCond .ne 25, 3) := by decide +kernel
theorem dX6_stands_9 : decode cX6_stands 9 = .ok (.iload_n 2, 1) := by decide +kernel
theorem dX6_stands_10 : decode cX6_stands 10 = .ok (.aload_n 0, 1) := by decide +kernel
theorem dX6_stands_11 : decode cX6_stands 11 = .ok (.getfield 38, 3) := by decide +kernel
theorem dX6_stands_14 : decode cX6_stands 14 = .ok (.getfield 100, 3) := by decide +kernel
theorem dX6_stands_17 : decode cX6_stands 17 = .ok (.invokestatic 66, 3) := by decide +kernel
theorem dX6_stands_20 : decode cX6_stands 20 = .ok (.ifCond .ne 11, 3) := by decide +kernel
theorem dX6_stands_23 : decode cX6_stands 23 = .ok (.iload_n 3, 1) := by decide +kernel
theorem dX6_stands_24 : decode cX6_stands 24 = .ok (.iconst 2, 1) := by decide +kernel
theorem dX6_stands_25 : decode cX6_stands 25 = .ok (.invokestatic 66, 3) := by decide +kernel
theorem dX6_stands_28 : decode cX6_stands 28 = .ok (.ifCond .eq 6, 3) := by decide +kernel
theorem dX6_stands_31 : decode cX6_stands 31 = .ok (.bipush (-2), 2) := by decide +kernel
theorem dX6_stands_33 : decode cX6_stands 33 = .ok (.ireturn, 1) := by decide +kernel
theorem dX6_stands_34 : decode cX6_stands 34 = .ok (.aload_n 0, 1) := by decide +kernel
theorem dX6_stands_35 : decode cX6_stands 35 = .ok (.invokevirtual 149, 3) := by decide +kernel
theorem dX6_stands_38 : decode cX6_stands 38 = .ok (.iload_n 3, 1) := by decide +kernel
theorem dX6_stands_39 : decode cX6_stands 39 = .ok (.ifCond .ne 15, 3) := by decide +kernel
theorem dX6_stands_42 : decode cX6_stands 42 = .ok (.aload_n 0, 1) := by decide +kernel
theorem dX6_stands_43 : decode cX6_stands 43 = .ok (.getfield 45, 3) := by decide +kernel
theorem dX6_stands_46 : decode cX6_stands 46 = .ok (.iload_n 1, 1) := by decide +kernel
theorem dX6_stands_47 : decode cX6_stands 47 = .ok (.iload_n 2, 1) := by decide +kernel
theorem dX6_stands_48 : decode cX6_stands 48 = .ok (.invokevirtual 152, 3) := by decide +kernel
theorem dX6_stands_51 : decode cX6_stands 51 = .ok (.goto 12, 3) := by decide +kernel
theorem dX6_stands_54 : decode cX6_stands 54 = .ok (.aload_n 0, 1) := by decide +kernel
theorem dX6_stands_55 : decode cX6_stands 55 = .ok (.getfield 45, 3) := by decide +kernel
theorem dX6_stands_58 : decode cX6_stands 58 = .ok (.iload_n 1, 1) := by decide +kernel
theorem dX6_stands_59 : decode cX6_stands 59 = .ok (.iload_n 2, 1) := by decide +kernel
theorem dX6_stands_60 : decode cX6_stands 60 = .ok (.invokevirtual 156, 3) := by decide +kernel
theorem dX6_stands_63 : decode cX6_stands 63 = .ok (.ireturn, 1) := by decide +kernel
theorem dX6_at_0 : decode cX6_at 0 = .ok (.iload_n 1, 1) := by decide +kernel
theorem dX6_at_1 : decode cX6_at 1 = .ok (.bipush 24, 2) := by decide +kernel
theorem dX6_at_3 : decode cX6_at 3 = .ok (.invokestatic 66, 3) := by decide +kernel
theorem dX6_at_6 : decode cX6_at 6 = .ok (.ifCond .ne 25, 3) := by decide +kernel
theorem dX6_at_9 : decode cX6_at 9 = .ok (.iload_n 2, 1) := by decide +kernel
theorem dX6_at_10 : decode cX6_at 10 = .ok (.aload_n 0, 1) := by decide +kernel
theorem dX6_at_11 : decode cX6_at 11 = .ok (.getfield 38, 3) := by decide +kernel
theorem dX6_at_14 : decode cX6_at 14 = .ok (.getfield 90, 3) := by decide +kernel
theorem dX6_at_17 : decode cX6_at 17 = .ok (.invokestatic 66, 3) := by decide +kernel
theorem dX6_at_20 : decode cX6_at 20 = .ok (.ifCond .ne 11, 3) := by decide +kernel
theorem dX6_at_23 : decode cX6_at 23 = .ok (.iload_n 3, 1) := by decide +kernel
theorem dX6_at_24 : decode cX6_at 24 = .ok (.iconst 4, 1) := by decide +kernel
theorem dX6_at_25 : decode cX6_at 25 = .ok (.invokestatic 66, 3) := by decide +kernel
theorem dX6_at_28 : decode cX6_at 28 = .ok (.ifCond .eq 6, 3) := by decide +kernel
theorem dX6_at_31 : decode cX6_at 31 = .ok (.bipush (-2), 2) := by decide +kernel
theorem dX6_at_33 : decode cX6_at 33 = .ok (.ireturn, 1) := by decide +kernel
theorem dX6_at_34 : decode cX6_at 34 = .ok (.aload_n 0, 1) := by decide +kernel
theorem dX6_at_35 : decode cX6_at 35 = .ok (.invokevirtual 149, 3) := by decide +kernel
theorem dX6_at_38 : decode cX6_at 38 = .ok (.iload_n 3, 1) := by decide +kernel
theorem dX6_at_39 : decode cX6_at 39 = .ok (.ifCond .ne 22, 3) := by decide +kernel
theorem dX6_at_42 : decode cX6_at 42 = .ok (.aload_n 0, 1) := by decide +kernel
theorem dX6_at_43 : decode cX6_at 43 = .ok (.getfield 38, 3) := by decide +kernel
theorem dX6_at_46 : decode cX6_at 46 = .ok (.getfield 97, 3) := by decide +kernel
theorem dX6_at_49 : decode cX6_at 49 = .ok (.iload_n 2, 1) := by decide +kernel
theorem dX6_at_50 : decode cX6_at 50 = .ok (.iaload, 1) := by decide +kernel
theorem dX6_at_51 : decode cX6_at 51 = .ok (.iload_n 1, 1) := by decide +kernel
theorem dX6_at_52 : decode cX6_at 52 = .ok (.if_icmp .gt 7, 3) := by decide +kernel
theorem dX6_at_55 : decode cX6_at 55 = .ok (.iconst 1, 1) := by decide +kernel
theorem dX6_at_56 : decode cX6_at 56 = .ok (.goto 4, 3) := by decide +kernel
theorem dX6_at_59 : decode cX6_at 59 = .ok (.iconst 0, 1) := by decide +kernel
theorem dX6_at_60 : decode cX6_at 60 = .ok (.ireturn, 1) := by decide +kernel
theorem dX6_at_61 : decode cX6_at 61 = .ok (.iload_n 3, 1) := by decide +kernel
theorem dX6_at_62 : decode cX6_at 62 = .ok (.iconst 1, 1) := by decide +kernel
theorem dX6_at_63 : decode cX6_at 63 = .ok (.if_icmp .ne 20, 3) := by decide +kernel
theorem dX6_at_66 : decode cX6_at 66 = .ok (.aload_n 0, 1) := by decide +kernel
theorem dX6_at_67 : decode cX6_at 67 = .ok (.getfield 45, 3) := by decide +kernel
theorem dX6_at_70 : decode cX6_at 70 = .ok (.iload_n 1, 1) := by decide +kernel
theorem dX6_at_71 : decode cX6_at 71 = .ok (.aload_n 0, 1) := by decide +kernel
theorem dX6_at_72 : decode cX6_at 72 = .ok (.getfield 38, 3) := by decide +kernel
theorem dX6_at_75 : decode cX6_at 75 = .ok (.getfield 106, 3) := by decide +kernel
theorem dX6_at_78 : decode cX6_at 78 = .ok (.iload_n 2, 1) := by decide +kernel
theorem dX6_at_79 : decode cX6_at 79 = .ok (.invokevirtual 159, 3) := by decide +kernel
theorem dX6_at_82 : decode cX6_at 82 = .ok (.ireturn, 1) := by decide +kernel
theorem dX6_at_83 : decode cX6_at 83 = .ok (.iload_n 3, 1) := by decide +kernel
theorem dX6_at_84 : decode cX6_at 84 = .ok (.iconst 2, 1) := by decide +kernel
theorem dX6_at_85 : decode cX6_at 85 = .ok (.if_icmp .ne 22, 3) := by decide +kernel
theorem dX6_at_88 : decode cX6_at 88 = .ok (.aload_n 0, 1) := by decide +kernel
theorem dX6_at_89 : decode cX6_at 89 = .ok (.getfield 45, 3) := by decide +kernel
theorem dX6_at_92 : decode cX6_at 92 = .ok (.iload_n 1, 1) := by decide +kernel
theorem dX6_at_93 : decode cX6_at 93 = .ok (.aload_n 0, 1) := by decide +kernel
theorem dX6_at_94 : decode cX6_at 94 = .ok (.getfield 38, 3) := by decide +kernel
theorem dX6_at_97 : decode cX6_at 97 = .ok (.getfield 103, 3) := by decide +kernel
theorem dX6_at_100 : decode cX6_at 100 = .ok (.iload_n 2, 1) := by decide +kernel
theorem dX6_at_101 : decode cX6_at 101 = .ok (.invokevirtual 159, 3) := by decide +kernel
theorem dX6_at_104 : decode cX6_at 104 = .ok (.goto 12, 3) := by decide +kernel
theorem dX6_at_107 : decode cX6_at 107 = .ok (.aload_n 0, 1) := by decide +kernel
theorem dX6_at_108 : decode cX6_at 108 = .ok (.getfield 45, 3) := by decide +kernel
theorem dX6_at_111 : decode cX6_at 111 = .ok (.iload_n 1, 1) := by decide +kernel
theorem dX6_at_112 : decode cX6_at 112 = .ok (.iload_n 2, 1) := by decide +kernel
theorem dX6_at_113 : decode cX6_at 113 = .ok (.invokevirtual 163, 3) := by decide +kernel
theorem dX6_at_116 : decode cX6_at 116 = .ok (.ireturn, 1) := by decide +kernel
theorem dX6_clear_0 : decode cX6_clear 0 = .ok (.iload_n 1, 1) := by decide +kernel
theorem dX6_clear_1 : decode cX6_clear 1 = .ok (.aload_n 0, 1) := by decide +kernel
theorem dX6_clear_2 : decode cX6_clear 2 = .ok (.getfield 38, 3) := by decide +kernel
theorem dX6_clear_5 : decode cX6_clear 5 = .ok (.getfield 90, 3) := by decide +kernel
theorem dX6_clear_8 : decode cX6_clear 8 = .ok (.invokestatic 66, 3) := by decide +kernel
theorem dX6_clear_11 : decode cX6_clear 11 = .ok (.ifCond .eq 6, 3) := by decide +kernel
theorem dX6_clear_14 : decode cX6_clear 14 = .ok (.bipush (-2), 2) := by decide +kernel
theorem dX6_clear_16 : decode cX6_clear 16 = .ok (.ireturn, 1) := by decide +kernel
theorem dX6_clear_17 : decode cX6_clear 17 = .ok (.aload_n 0, 1) := by decide +kernel
theorem dX6_clear_18 : decode cX6_clear 18 = .ok (.invokevirtual 149, 3) := by decide +kernel
theorem dX6_clear_21 : decode cX6_clear 21 = .ok (.iconst 0, 1) := by decide +kernel
theorem dX6_clear_22 : decode cX6_clear 22 = .ok (.istore_n 2, 1) := by decide +kernel
theorem dX6_clear_23 : decode cX6_clear 23 = .ok (.iload_n 2, 1) := by decide +kernel
theorem dX6_clear_24 : decode cX6_clear 24 = .ok (.bipush 24, 2) := by decide +kernel
theorem dX6_clear_26 : decode cX6_clear 26 = .ok (.if_icmp .ge 27, 3) := by decide +kernel
theorem dX6_clear_29 : decode cX6_clear 29 = .ok (.aload_n 0, 1) := by decide +kernel
theorem dX6_clear_30 : decode cX6_clear 30 = .ok (.getfield 45, 3) := by decide +kernel
theorem dX6_clear_33 : decode cX6_clear 33 = .ok (.aload_n 0, 1) := by decide +kernel
theorem dX6_clear_34 : decode cX6_clear 34 = .ok (.getfield 38, 3) := by decide +kernel
theorem dX6_clear_37 : decode cX6_clear 37 = .ok (.iload_n 2, 1) := by decide +kernel
theorem dX6_clear_38 : decode cX6_clear 38 = .ok (.iload_n 1, 1) := by decide +kernel
theorem dX6_clear_39 : decode cX6_clear 39 = .ok (.invokevirtual 166, 3) := by decide +kernel
theorem dX6_clear_42 : decode cX6_clear 42 = .ok (.ifCond .eq 5, 3) := by decide +kernel
theorem dX6_clear_45 : decode cX6_clear 45 = .ok (.iload_n 2, 1) := by decide +kernel
theorem dX6_clear_46 : decode cX6_clear 46 = .ok (.ireturn, 1) := by decide +kernel
theorem dX6_clear_47 : decode cX6_clear 47 = .ok (.iinc 2 1, 3) := by decide +kernel
theorem dX6_clear_50 : decode cX6_clear 50 = .ok (.goto (-27), 3) := by decide +kernel
theorem dX6_clear_53 : decode cX6_clear 53 = .ok (.iconst (-1), 1) := by decide +kernel
theorem dX6_clear_54 : decode cX6_clear 54 = .ok (.ireturn, 1) := by decide +kernel
theorem dX6_bank_0 : decode cX6_bank 0 = .ok (.iload_n 1, 1) := by decide +kernel
theorem dX6_bank_1 : decode cX6_bank 1 = .ok (.bipush 24, 2) := by decide +kernel
theorem dX6_bank_3 : decode cX6_bank 3 = .ok (.invokestatic 66, 3) := by decide +kernel
theorem dX6_bank_6 : decode cX6_bank 6 = .ok (.ifCond .eq 6, 3) := by decide +kernel
theorem dX6_bank_9 : decode cX6_bank 9 = .ok (.bipush (-2), 2) := by decide +kernel
theorem dX6_bank_11 : decode cX6_bank 11 = .ok (.ireturn, 1) := by decide +kernel
theorem dX6_bank_12 : decode cX6_bank 12 = .ok (.aload_n 0, 1) := by decide +kernel
theorem dX6_bank_13 : decode cX6_bank 13 = .ok (.invokevirtual 149, 3) := by decide +kernel
theorem dX6_bank_16 : decode cX6_bank 16 = .ok (.iconst (-1), 1) := by decide +kernel
theorem dX6_bank_17 : decode cX6_bank 17 = .ok (.istore_n 2, 1) := by decide +kernel
theorem dX6_bank_18 : decode cX6_bank 18 = .ok (.iconst 0, 1) := by decide +kernel
theorem dX6_bank_19 : decode cX6_bank 19 = .ok (.istore_n 3, 1) := by decide +kernel
theorem dX6_bank_20 : decode cX6_bank 20 = .ok (.iconst 0, 1) := by decide +kernel
theorem dX6_bank_21 : decode cX6_bank 21 = .ok (.istore 4, 2) := by decide +kernel
theorem dX6_bank_23 : decode cX6_bank 23 = .ok (.iload 4, 2) := by decide +kernel
theorem dX6_bank_25 : decode cX6_bank 25 = .ok (.aload_n 0, 1) := by decide +kernel
theorem dX6_bank_26 : decode cX6_bank 26 = .ok (.getfield 38, 3) := by decide +kernel
theorem dX6_bank_29 : decode cX6_bank 29 = .ok (.getfield 90, 3) := by decide +kernel
theorem dX6_bank_32 : decode cX6_bank 32 = .ok (.if_icmp .ge 40, 3) := by decide +kernel
theorem dX6_bank_35 : decode cX6_bank 35 = .ok (.aload_n 0, 1) := by decide +kernel
theorem dX6_bank_36 : decode cX6_bank 36 = .ok (.getfield 45, 3) := by decide +kernel
theorem dX6_bank_39 : decode cX6_bank 39 = .ok (.iload_n 1, 1) := by decide +kernel
theorem dX6_bank_40 : decode cX6_bank 40 = .ok (.aload_n 0, 1) := by decide +kernel
theorem dX6_bank_41 : decode cX6_bank 41 = .ok (.getfield 38, 3) := by decide +kernel
theorem dX6_bank_44 : decode cX6_bank 44 = .ok (.getfield 103, 3) := by decide +kernel
theorem dX6_bank_47 : decode cX6_bank 47 = .ok (.iload 4, 2) := by decide +kernel
theorem dX6_bank_49 : decode cX6_bank 49 = .ok (.invokevirtual 159, 3) := by decide +kernel
theorem dX6_bank_52 : decode cX6_bank 52 = .ok (.istore 5, 2) := by decide +kernel
theorem dX6_bank_54 : decode cX6_bank 54 = .ok (.iload 5, 2) := by decide +kernel
theorem dX6_bank_56 : decode cX6_bank 56 = .ok (.iload_n 3, 1) := by decide +kernel
theorem dX6_bank_57 : decode cX6_bank 57 = .ok (.if_icmp .le 9, 3) := by decide +kernel
theorem dX6_bank_60 : decode cX6_bank 60 = .ok (.iload 5, 2) := by decide +kernel
theorem dX6_bank_62 : decode cX6_bank 62 = .ok (.istore_n 3, 1) := by decide +kernel
theorem dX6_bank_63 : decode cX6_bank 63 = .ok (.iload 4, 2) := by decide +kernel
theorem dX6_bank_65 : decode cX6_bank 65 = .ok (.istore_n 2, 1) := by decide +kernel
theorem dX6_bank_66 : decode cX6_bank 66 = .ok (.iinc 4 1, 3) := by decide +kernel
theorem dX6_bank_69 : decode cX6_bank 69 = .ok (.goto (-46), 3) := by decide +kernel
theorem dX6_bank_72 : decode cX6_bank 72 = .ok (.iload_n 2, 1) := by decide +kernel
theorem dX6_bank_73 : decode cX6_bank 73 = .ok (.ireturn, 1) := by decide +kernel
theorem dX6_ring_0 : decode cX6_ring 0 = .ok (.iload_n 1, 1) := by decide +kernel
theorem dX6_ring_1 : decode cX6_ring 1 = .ok (.bipush 24, 2) := by decide +kernel
theorem dX6_ring_3 : decode cX6_ring 3 = .ok (.invokestatic 66, 3) := by decide +kernel
theorem dX6_ring_6 : decode cX6_ring 6 = .ok (.ifCond .ne 11, 3) := by decide +kernel
theorem dX6_ring_9 : decode cX6_ring 9 = .ok (.iload_n 2, 1) := by decide +kernel
theorem dX6_ring_10 : decode cX6_ring 10 = .ok (.iconst 2, 1) := by decide +kernel
theorem dX6_ring_11 : decode cX6_ring 11 = .ok (.invokestatic 66, 3) := by decide +kernel
theorem dX6_ring_14 : decode cX6_ring 14 = .ok (.ifCond .eq 6, 3) := by decide +kernel
theorem dX6_ring_17 : decode cX6_ring 17 = .ok (.bipush (-2), 2) := by decide +kernel
theorem dX6_ring_19 : decode cX6_ring 19 = .ok (.ireturn, 1) := by decide +kernel
theorem dX6_ring_20 : decode cX6_ring 20 = .ok (.aload_n 0, 1) := by decide +kernel
theorem dX6_ring_21 : decode cX6_ring 21 = .ok (.invokevirtual 149, 3) := by decide +kernel
theorem dX6_ring_24 : decode cX6_ring 24 = .ok (.aload_n 0, 1) := by decide +kernel
theorem dX6_ring_25 : decode cX6_ring 25 = .ok (.getfield 45, 3) := by decide +kernel
theorem dX6_ring_28 : decode cX6_ring 28 = .ok (.aload_n 0, 1) := by decide +kernel
theorem dX6_ring_29 : decode cX6_ring 29 = .ok (.getfield 38, 3) := by decide +kernel
theorem dX6_ring_32 : decode cX6_ring 32 = .ok (.iload_n 1, 1) := by decide +kernel
theorem dX6_ring_33 : decode cX6_ring 33 = .ok (.invokevirtual 170, 3) := by decide +kernel
theorem dX6_ring_36 : decode cX6_ring 36 = .ok (.iconst (-1), 1) := by decide +kernel
theorem dX6_ring_37 : decode cX6_ring 37 = .ok (.istore_n 3, 1) := by decide +kernel
theorem dX6_ring_38 : decode cX6_ring 38 = .ok (.bipush 9, 2) := by decide +kernel
theorem dX6_ring_40 : decode cX6_ring 40 = .ok (.istore 4, 2) := by decide +kernel
theorem dX6_ring_42 : decode cX6_ring 42 = .ok (.iconst 0, 1) := by decide +kernel
theorem dX6_ring_43 : decode cX6_ring 43 = .ok (.istore 5, 2) := by decide +kernel
theorem dX6_ring_45 : decode cX6_ring 45 = .ok (.iload 5, 2) := by decide +kernel
theorem dX6_ring_47 : decode cX6_ring 47 = .ok (.aload_n 0, 1) := by decide +kernel
theorem dX6_ring_48 : decode cX6_ring 48 = .ok (.getfield 38, 3) := by decide +kernel
theorem dX6_ring_51 : decode cX6_ring 51 = .ok (.getfield 90, 3) := by decide +kernel
theorem dX6_ring_54 : decode cX6_ring 54 = .ok (.if_icmp .ge 40, 3) := by decide +kernel
theorem dX6_ring_57 : decode cX6_ring 57 = .ok (.aload_n 0, 1) := by decide +kernel
theorem dX6_ring_58 : decode cX6_ring 58 = .ok (.getfield 45, 3) := by decide +kernel
theorem dX6_ring_61 : decode cX6_ring 61 = .ok (.iload 5, 2) := by decide +kernel
theorem dX6_ring_63 : decode cX6_ring 63 = .ok (.invokevirtual 174, 3) := by decide +kernel
theorem dX6_ring_66 : decode cX6_ring 66 = .ok (.istore 6, 2) := by decide +kernel
theorem dX6_ring_68 : decode cX6_ring 68 = .ok (.iload 6, 2) := by decide +kernel
theorem dX6_ring_70 : decode cX6_ring 70 = .ok (.iconst (-1), 1) := by decide +kernel
theorem dX6_ring_71 : decode cX6_ring 71 = .ok (.if_icmp .eq 17, 3) := by decide +kernel
theorem dX6_ring_74 : decode cX6_ring 74 = .ok (.iload 6, 2) := by decide +kernel
theorem dX6_ring_76 : decode cX6_ring 76 = .ok (.iload 4, 2) := by decide +kernel
theorem dX6_ring_78 : decode cX6_ring 78 = .ok (.if_icmp .ge 10, 3) := by decide +kernel
theorem dX6_ring_81 : decode cX6_ring 81 = .ok (.iload 6, 2) := by decide +kernel
theorem dX6_ring_83 : decode cX6_ring 83 = .ok (.istore 4, 2) := by decide +kernel
theorem dX6_ring_85 : decode cX6_ring 85 = .ok (.iload 5, 2) := by decide +kernel
theorem dX6_ring_87 : decode cX6_ring 87 = .ok (.istore_n 3, 1) := by decide +kernel
theorem dX6_ring_88 : decode cX6_ring 88 = .ok (.iinc 5 1, 3) := by decide +kernel
theorem dX6_ring_91 : decode cX6_ring 91 = .ok (.goto (-46), 3) := by decide +kernel
theorem dX6_ring_94 : decode cX6_ring 94 = .ok (.iload_n 3, 1) := by decide +kernel
theorem dX6_ring_95 : decode cX6_ring 95 = .ok (.iconst (-1), 1) := by decide +kernel
theorem dX6_ring_96 : decode cX6_ring 96 = .ok (.if_icmp .eq 8, 3) := by decide +kernel
theorem dX6_ring_99 : decode cX6_ring 99 = .ok (.iload_n 2, 1) := by decide +kernel
theorem dX6_ring_100 : decode cX6_ring 100 = .ok (.iconst 1, 1) := by decide +kernel
theorem dX6_ring_101 : decode cX6_ring 101 = .ok (.if_icmp .ne 7, 3) := by decide +kernel
theorem dX6_ring_104 : decode cX6_ring 104 = .ok (.iload_n 3, 1) := by decide +kernel
theorem dX6_ring_105 : decode cX6_ring 105 = .ok (.goto 5, 3) := by decide +kernel
theorem dX6_ring_108 : decode cX6_ring 108 = .ok (.iload 4, 2) := by decide +kernel
theorem dX6_ring_110 : decode cX6_ring 110 = .ok (.ireturn, 1) := by decide +kernel
theorem dX6_silent_0 : decode cX6_silent 0 = .ok (.aload_n 0, 1) := by decide +kernel
theorem dX6_silent_1 : decode cX6_silent 1 = .ok (.invokevirtual 149, 3) := by decide +kernel
theorem dX6_silent_4 : decode cX6_silent 4 = .ok (.iconst 0, 1) := by decide +kernel
theorem dX6_silent_5 : decode cX6_silent 5 = .ok (.istore_n 1, 1) := by decide +kernel
theorem dX6_silent_6 : decode cX6_silent 6 = .ok (.iconst 0, 1) := by decide +kernel
theorem dX6_silent_7 : decode cX6_silent 7 = .ok (.istore_n 2, 1) := by decide +kernel
theorem dX6_silent_8 : decode cX6_silent 8 = .ok (.iload_n 2, 1) := by decide +kernel
theorem dX6_silent_9 : decode cX6_silent 9 = .ok (.aload_n 0, 1) := by decide +kernel
theorem dX6_silent_10 : decode cX6_silent 10 = .ok (.getfield 38, 3) := by decide +kernel
theorem dX6_silent_13 : decode cX6_silent 13 = .ok (.getfield 90, 3) := by decide +kernel
theorem dX6_silent_16 : decode cX6_silent 16 = .ok (.if_icmp .ge 28, 3) := by decide +kernel
theorem dX6_silent_19 : decode cX6_silent 19 = .ok (.aload_n 0, 1) := by decide +kernel
theorem dX6_silent_20 : decode cX6_silent 20 = .ok (.getfield 45, 3) := by decide +kernel
theorem dX6_silent_23 : decode cX6_silent 23 = .ok (.bipush 23, 2) := by decide +kernel
theorem dX6_silent_25 : decode cX6_silent 25 = .ok (.iload_n 2, 1) := by decide +kernel
theorem dX6_silent_26 : decode cX6_silent 26 = .ok (.invokevirtual 163, 3) := by decide +kernel
theorem dX6_silent_29 : decode cX6_silent 29 = .ok (.ifCond .ne 9, 3) := by decide +kernel
theorem dX6_silent_32 : decode cX6_silent 32 = .ok (.iload_n 1, 1) := by decide +kernel
theorem dX6_silent_33 : decode cX6_silent 33 = .ok (.iconst 1, 1) := by decide +kernel
theorem dX6_silent_34 : decode cX6_silent 34 = .ok (.iload_n 2, 1) := by decide +kernel
theorem dX6_silent_35 : decode cX6_silent 35 = .ok (.ishl, 1) := by decide +kernel
theorem dX6_silent_36 : decode cX6_silent 36 = .ok (.ior, 1) := by decide +kernel
theorem dX6_silent_37 : decode cX6_silent 37 = .ok (.istore_n 1, 1) := by decide +kernel
theorem dX6_silent_38 : decode cX6_silent 38 = .ok (.iinc 2 1, 3) := by decide +kernel
theorem dX6_silent_41 : decode cX6_silent 41 = .ok (.goto (-33), 3) := by decide +kernel
theorem dX6_silent_44 : decode cX6_silent 44 = .ok (.iload_n 1, 1) := by decide +kernel
theorem dX6_silent_45 : decode cX6_silent 45 = .ok (.ireturn, 1) := by decide +kernel
theorem dX6_meet_0 : decode cX6_meet 0 = .ok (.iload_n 1, 1) := by decide +kernel
theorem dX6_meet_1 : decode cX6_meet 1 = .ok (.bipush 24, 2) := by decide +kernel
theorem dX6_meet_3 : decode cX6_meet 3 = .ok (.invokestatic 66, 3) := by decide +kernel
theorem dX6_meet_6 : decode cX6_meet 6 = .ok (.ifCond .ne 11, 3) := by decide +kernel
theorem dX6_meet_9 : decode cX6_meet 9 = .ok (.iload_n 2, 1) := by decide +kernel
theorem dX6_meet_10 : decode cX6_meet 10 = .ok (.iconst 3, 1) := by decide +kernel
theorem dX6_meet_11 : decode cX6_meet 11 = .ok (.invokestatic 66, 3) := by decide +kernel
theorem dX6_meet_14 : decode cX6_meet 14 = .ok (.ifCond .eq 6, 3) := by decide +kernel
theorem dX6_meet_17 : decode cX6_meet 17 = .ok (.bipush (-2), 2) := by decide +kernel
theorem dX6_meet_19 : decode cX6_meet 19 = .ok (.ireturn, 1) := by decide +kernel
theorem dX6_meet_20 : decode cX6_meet 20 = .ok (.aload_n 0, 1) := by decide +kernel
theorem dX6_meet_21 : decode cX6_meet 21 = .ok (.getfield 49, 3) := by decide +kernel
theorem dX6_meet_24 : decode cX6_meet 24 = .ok (.aload_n 0, 1) := by decide +kernel
theorem dX6_meet_25 : decode cX6_meet 25 = .ok (.getfield 38, 3) := by decide +kernel
theorem dX6_meet_28 : decode cX6_meet 28 = .ok (.invokevirtual 177, 3) := by decide +kernel
theorem dX6_meet_31 : decode cX6_meet 31 = .ok (.iconst (-1), 1) := by decide +kernel
theorem dX6_meet_32 : decode cX6_meet 32 = .ok (.istore_n 3, 1) := by decide +kernel
theorem dX6_meet_33 : decode cX6_meet 33 = .ok (.iconst (-1), 1) := by decide +kernel
theorem dX6_meet_34 : decode cX6_meet 34 = .ok (.istore 4, 2) := by decide +kernel
theorem dX6_meet_36 : decode cX6_meet 36 = .ok (.iconst (-1), 1) := by decide +kernel
theorem dX6_meet_37 : decode cX6_meet 37 = .ok (.istore 5, 2) := by decide +kernel
theorem dX6_meet_39 : decode cX6_meet 39 = .ok (.iconst 0, 1) := by decide +kernel
theorem dX6_meet_40 : decode cX6_meet 40 = .ok (.istore 6, 2) := by decide +kernel
theorem dX6_meet_42 : decode cX6_meet 42 = .ok (.iload 6, 2) := by decide +kernel
theorem dX6_meet_44 : decode cX6_meet 44 = .ok (.aload_n 0, 1) := by decide +kernel
theorem dX6_meet_45 : decode cX6_meet 45 = .ok (.getfield 49, 3) := by decide +kernel
theorem dX6_meet_48 : decode cX6_meet 48 = .ok (.getfield 90, 3) := by decide +kernel
theorem dX6_meet_51 : decode cX6_meet 51 = .ok (.if_icmp .ge 114, 3) := by decide +kernel
theorem dX6_meet_54 : decode cX6_meet 54 = .ok (.iload 6, 2) := by decide +kernel
theorem dX6_meet_56 : decode cX6_meet 56 = .ok (.iconst 1, 1) := by decide +kernel
theorem dX6_meet_57 : decode cX6_meet 57 = .ok (.iadd, 1) := by decide +kernel
theorem dX6_meet_58 : decode cX6_meet 58 = .ok (.istore 7, 2) := by decide +kernel
theorem dX6_meet_60 : decode cX6_meet 60 = .ok (.iload 7, 2) := by decide +kernel
theorem dX6_meet_62 : decode cX6_meet 62 = .ok (.aload_n 0, 1) := by decide +kernel
theorem dX6_meet_63 : decode cX6_meet 63 = .ok (.getfield 49, 3) := by decide +kernel
theorem dX6_meet_66 : decode cX6_meet 66 = .ok (.getfield 90, 3) := by decide +kernel
theorem dX6_meet_69 : decode cX6_meet 69 = .ok (.if_icmp .ge 90, 3) := by decide +kernel
theorem dX6_meet_72 : decode cX6_meet 72 = .ok (.aload_n 0, 1) := by decide +kernel
theorem dX6_meet_73 : decode cX6_meet 73 = .ok (.getfield 49, 3) := by decide +kernel
theorem dX6_meet_76 : decode cX6_meet 76 = .ok (.aload_n 0, 1) := by decide +kernel
theorem dX6_meet_77 : decode cX6_meet 77 = .ok (.getfield 38, 3) := by decide +kernel
theorem dX6_meet_80 : decode cX6_meet 80 = .ok (.getfield 112, 3) := by decide +kernel
theorem dX6_meet_83 : decode cX6_meet 83 = .ok (.putfield 112, 3) := by decide +kernel
theorem dX6_meet_86 : decode cX6_meet 86 = .ok (.aload_n 0, 1) := by decide +kernel
theorem dX6_meet_87 : decode cX6_meet 87 = .ok (.getfield 49, 3) := by decide +kernel
theorem dX6_meet_90 : decode cX6_meet 90 = .ok (.iload_n 1, 1) := by decide +kernel
theorem dX6_meet_91 : decode cX6_meet 91 = .ok (.iload 6, 2) := by decide +kernel
theorem dX6_meet_93 : decode cX6_meet 93 = .ok (.iload 7, 2) := by decide +kernel
theorem dX6_meet_95 : decode cX6_meet 95 = .ok (.invokevirtual 181, 3) := by decide +kernel
theorem dX6_meet_98 : decode cX6_meet 98 = .ok (.aload_n 0, 1) := by decide +kernel
theorem dX6_meet_99 : decode cX6_meet 99 = .ok (.getfield 52, 3) := by decide +kernel
theorem dX6_meet_102 : decode cX6_meet 102 = .ok (.aload_n 0, 1) := by decide +kernel
theorem dX6_meet_103 : decode cX6_meet 103 = .ok (.getfield 49, 3) := by decide +kernel
theorem dX6_meet_106 : decode cX6_meet 106 = .ok (.aload_n 0, 1) := by decide +kernel
theorem dX6_meet_107 : decode cX6_meet 107 = .ok (.getfield 18, 3) := by decide +kernel
theorem dX6_meet_110 : decode cX6_meet 110 = .ok (.aload_n 0, 1) := by decide +kernel
theorem dX6_meet_111 : decode cX6_meet 111 = .ok (.getfield 18, 3) := by decide +kernel
theorem dX6_meet_114 : decode cX6_meet 114 = .ok (.invokevirtual 185, 3) := by decide +kernel
theorem dX6_meet_117 : decode cX6_meet 117 = .ok (.invokevirtual 188, 3) := by decide +kernel
theorem dX6_meet_120 : decode cX6_meet 120 = .ok (.aload_n 0, 1) := by decide +kernel
theorem dX6_meet_121 : decode cX6_meet 121 = .ok (.getfield 52, 3) := by decide +kernel
theorem dX6_meet_124 : decode cX6_meet 124 = .ok (.invokevirtual 192, 3) := by decide +kernel
theorem dX6_meet_127 : decode cX6_meet 127 = .ok (.istore 8, 2) := by decide +kernel
theorem dX6_meet_129 : decode cX6_meet 129 = .ok (.iload 5, 2) := by decide +kernel
theorem dX6_meet_131 : decode cX6_meet 131 = .ok (.iconst (-1), 1) := by decide +kernel
theorem dX6_meet_132 : decode cX6_meet 132 = .ok (.if_icmp .eq 10, 3) := by decide +kernel
theorem dX6_meet_135 : decode cX6_meet 135 = .ok (.iload 8, 2) := by decide +kernel
theorem dX6_meet_137 : decode cX6_meet 137 = .ok (.iload 5, 2) := by decide +kernel
theorem dX6_meet_139 : decode cX6_meet 139 = .ok (.if_icmp .ge 14, 3) := by decide +kernel
theorem dX6_meet_142 : decode cX6_meet 142 = .ok (.iload 8, 2) := by decide +kernel
theorem dX6_meet_144 : decode cX6_meet 144 = .ok (.istore 5, 2) := by decide +kernel
theorem dX6_meet_146 : decode cX6_meet 146 = .ok (.iload 6, 2) := by decide +kernel
theorem dX6_meet_148 : decode cX6_meet 148 = .ok (.istore_n 3, 1) := by decide +kernel
theorem dX6_meet_149 : decode cX6_meet 149 = .ok (.iload 7, 2) := by decide +kernel
theorem dX6_meet_151 : decode cX6_meet 151 = .ok (.istore 4, 2) := by decide +kernel
theorem dX6_meet_153 : decode cX6_meet 153 = .ok (.iinc 7 1, 3) := by decide +kernel
theorem dX6_meet_156 : decode cX6_meet 156 = .ok (.goto (-96), 3) := by decide +kernel
theorem dX6_meet_159 : decode cX6_meet 159 = .ok (.iinc 6 1, 3) := by decide +kernel
theorem dX6_meet_162 : decode cX6_meet 162 = .ok (.goto (-120), 3) := by decide +kernel
theorem dX6_meet_165 : decode cX6_meet 165 = .ok (.iload_n 2, 1) := by decide +kernel
theorem dX6_meet_166 : decode cX6_meet 166 = .ok (.ifCond .ne 5, 3) := by decide +kernel
theorem dX6_meet_169 : decode cX6_meet 169 = .ok (.iload_n 3, 1) := by decide +kernel
theorem dX6_meet_170 : decode cX6_meet 170 = .ok (.ireturn, 1) := by decide +kernel
theorem dX6_meet_171 : decode cX6_meet 171 = .ok (.iload_n 2, 1) := by decide +kernel
theorem dX6_meet_172 : decode cX6_meet 172 = .ok (.iconst 1, 1) := by decide +kernel
theorem dX6_meet_173 : decode cX6_meet 173 = .ok (.if_icmp .ne 8, 3) := by decide +kernel
theorem dX6_meet_176 : decode cX6_meet 176 = .ok (.iload 4, 2) := by decide +kernel
theorem dX6_meet_178 : decode cX6_meet 178 = .ok (.goto 5, 3) := by decide +kernel
theorem dX6_meet_181 : decode cX6_meet 181 = .ok (.iload 5, 2) := by decide +kernel
theorem dX6_meet_183 : decode cX6_meet 183 = .ok (.ireturn, 1) := by decide +kernel
theorem dX6_live_0 : decode cX6_live 0 = .ok (.iload_n 1, 1) := by decide +kernel
theorem dX6_live_1 : decode cX6_live 1 = .ok (.aload_n 0, 1) := by decide +kernel
theorem dX6_live_2 : decode cX6_live 2 = .ok (.getfield 38, 3) := by decide +kernel
theorem dX6_live_5 : decode cX6_live 5 = .ok (.getfield 90, 3) := by decide +kernel
theorem dX6_live_8 : decode cX6_live 8 = .ok (.invokestatic 66, 3) := by decide +kernel
theorem dX6_live_11 : decode cX6_live 11 = .ok (.ifCond .eq 6, 3) := by decide +kernel
theorem dX6_live_14 : decode cX6_live 14 = .ok (.bipush (-2), 2) := by decide +kernel
theorem dX6_live_16 : decode cX6_live 16 = .ok (.ireturn, 1) := by decide +kernel
theorem dX6_live_17 : decode cX6_live 17 = .ok (.aload_n 0, 1) := by decide +kernel
theorem dX6_live_18 : decode cX6_live 18 = .ok (.getfield 49, 3) := by decide +kernel
theorem dX6_live_21 : decode cX6_live 21 = .ok (.aload_n 0, 1) := by decide +kernel
theorem dX6_live_22 : decode cX6_live 22 = .ok (.getfield 38, 3) := by decide +kernel
theorem dX6_live_25 : decode cX6_live 25 = .ok (.invokevirtual 177, 3) := by decide +kernel
theorem dX6_live_28 : decode cX6_live 28 = .ok (.iconst 0, 1) := by decide +kernel
theorem dX6_live_29 : decode cX6_live 29 = .ok (.istore_n 2, 1) := by decide +kernel
theorem dX6_live_30 : decode cX6_live 30 = .ok (.iload_n 2, 1) := by decide +kernel
theorem dX6_live_31 : decode cX6_live 31 = .ok (.bipush 24, 2) := by decide +kernel
theorem dX6_live_33 : decode cX6_live 33 = .ok (.if_icmp .ge 60, 3) := by decide +kernel
theorem dX6_live_36 : decode cX6_live 36 = .ok (.aload_n 0, 1) := by decide +kernel
theorem dX6_live_37 : decode cX6_live 37 = .ok (.getfield 49, 3) := by decide +kernel
theorem dX6_live_40 : decode cX6_live 40 = .ok (.getfield 97, 3) := by decide +kernel
theorem dX6_live_43 : decode cX6_live 43 = .ok (.iload_n 1, 1) := by decide +kernel
theorem dX6_live_44 : decode cX6_live 44 = .ok (.iload_n 2, 1) := by decide +kernel
theorem dX6_live_45 : decode cX6_live 45 = .ok (.iastore, 1) := by decide +kernel
theorem dX6_live_46 : decode cX6_live 46 = .ok (.aload_n 0, 1) := by decide +kernel
theorem dX6_live_47 : decode cX6_live 47 = .ok (.getfield 52, 3) := by decide +kernel
theorem dX6_live_50 : decode cX6_live 50 = .ok (.aload_n 0, 1) := by decide +kernel
theorem dX6_live_51 : decode cX6_live 51 = .ok (.getfield 49, 3) := by decide +kernel
theorem dX6_live_54 : decode cX6_live 54 = .ok (.aload_n 0, 1) := by decide +kernel
theorem dX6_live_55 : decode cX6_live 55 = .ok (.getfield 18, 3) := by decide +kernel
theorem dX6_live_58 : decode cX6_live 58 = .ok (.aload_n 0, 1) := by decide +kernel
theorem dX6_live_59 : decode cX6_live 59 = .ok (.getfield 18, 3) := by decide +kernel
theorem dX6_live_62 : decode cX6_live 62 = .ok (.invokevirtual 185, 3) := by decide +kernel
theorem dX6_live_65 : decode cX6_live 65 = .ok (.invokevirtual 188, 3) := by decide +kernel
theorem dX6_live_68 : decode cX6_live 68 = .ok (.aload_n 0, 1) := by decide +kernel
theorem dX6_live_69 : decode cX6_live 69 = .ok (.getfield 52, 3) := by decide +kernel
theorem dX6_live_72 : decode cX6_live 72 = .ok (.aload_n 0, 1) := by decide +kernel
theorem dX6_live_73 : decode cX6_live 73 = .ok (.getfield 49, 3) := by decide +kernel
theorem dX6_live_76 : decode cX6_live 76 = .ok (.bipush 23, 2) := by decide +kernel
theorem dX6_live_78 : decode cX6_live 78 = .ok (.iload_n 1, 1) := by decide +kernel
theorem dX6_live_79 : decode cX6_live 79 = .ok (.invokevirtual 195, 3) := by decide +kernel
theorem dX6_live_82 : decode cX6_live 82 = .ok (.ifCond .ne 5, 3) := by decide +kernel
theorem dX6_live_85 : decode cX6_live 85 = .ok (.iload_n 2, 1) := by decide +kernel
theorem dX6_live_86 : decode cX6_live 86 = .ok (.ireturn, 1) := by decide +kernel
theorem dX6_live_87 : decode cX6_live 87 = .ok (.iinc 2 1, 3) := by decide +kernel
theorem dX6_live_90 : decode cX6_live 90 = .ok (.goto (-60), 3) := by decide +kernel
theorem dX6_live_93 : decode cX6_live 93 = .ok (.iconst (-1), 1) := by decide +kernel
theorem dX6_live_94 : decode cX6_live 94 = .ok (.ireturn, 1) := by decide +kernel
theorem dX6_voice_0 : decode cX6_voice 0 = .ok (.iload_n 1, 1) := by decide +kernel
theorem dX6_voice_1 : decode cX6_voice 1 = .ok (.iconst 2, 1) := by decide +kernel
theorem dX6_voice_2 : decode cX6_voice 2 = .ok (.invokestatic 66, 3) := by decide +kernel
theorem dX6_voice_5 : decode cX6_voice 5 = .ok (.ifCond .eq 6, 3) := by decide +kernel
theorem dX6_voice_8 : decode cX6_voice 8 = .ok (.bipush (-2), 2) := by decide +kernel
theorem dX6_voice_10 : decode cX6_voice 10 = .ok (.ireturn, 1) := by decide +kernel
theorem dX6_voice_11 : decode cX6_voice 11 = .ok (.aload_n 0, 1) := by decide +kernel
theorem dX6_voice_12 : decode cX6_voice 12 = .ok (.getfield 49, 3) := by decide +kernel
theorem dX6_voice_15 : decode cX6_voice 15 = .ok (.aload_n 0, 1) := by decide +kernel
theorem dX6_voice_16 : decode cX6_voice 16 = .ok (.getfield 38, 3) := by decide +kernel
theorem dX6_voice_19 : decode cX6_voice 19 = .ok (.invokevirtual 177, 3) := by decide +kernel
theorem dX6_voice_22 : decode cX6_voice 22 = .ok (.iconst (-1), 1) := by decide +kernel
theorem dX6_voice_23 : decode cX6_voice 23 = .ok (.istore_n 2, 1) := by decide +kernel
theorem dX6_voice_24 : decode cX6_voice 24 = .ok (.iconst (-1), 1) := by decide +kernel
theorem dX6_voice_25 : decode cX6_voice 25 = .ok (.istore_n 3, 1) := by decide +kernel
theorem dX6_voice_26 : decode cX6_voice 26 = .ok (.iconst 0, 1) := by decide +kernel
theorem dX6_voice_27 : decode cX6_voice 27 = .ok (.istore 4, 2) := by decide +kernel
theorem dX6_voice_29 : decode cX6_voice 29 = .ok (.iload 4, 2) := by decide +kernel
theorem dX6_voice_31 : decode cX6_voice 31 = .ok (.aload_n 0, 1) := by decide +kernel
theorem dX6_voice_32 : decode cX6_voice 32 = .ok (.getfield 49, 3) := by decide +kernel
theorem dX6_voice_35 : decode cX6_voice 35 = .ok (.getfield 90, 3) := by decide +kernel
theorem dX6_voice_38 : decode cX6_voice 38 = .ok (.if_icmp .ge 84, 3) := by decide +kernel
theorem dX6_voice_41 : decode cX6_voice 41 = .ok (.aload_n 0, 1) := by decide +kernel
theorem dX6_voice_42 : decode cX6_voice 42 = .ok (.getfield 49, 3) := by decide +kernel
theorem dX6_voice_45 : decode cX6_voice 45 = .ok (.getfield 94, 3) := by decide +kernel
theorem dX6_voice_48 : decode cX6_voice 48 = .ok (.iload 4, 2) := by decide +kernel
theorem dX6_voice_50 : decode cX6_voice 50 = .ok (.iconst 3, 1) := by decide +kernel
theorem dX6_voice_51 : decode cX6_voice 51 = .ok (.iastore, 1) := by decide +kernel
theorem dX6_voice_52 : decode cX6_voice 52 = .ok (.aload_n 0, 1) := by decide +kernel
theorem dX6_voice_53 : decode cX6_voice 53 = .ok (.getfield 52, 3) := by decide +kernel
theorem dX6_voice_56 : decode cX6_voice 56 = .ok (.aload_n 0, 1) := by decide +kernel
theorem dX6_voice_57 : decode cX6_voice 57 = .ok (.getfield 49, 3) := by decide +kernel
theorem dX6_voice_60 : decode cX6_voice 60 = .ok (.aload_n 0, 1) := by decide +kernel
theorem dX6_voice_61 : decode cX6_voice 61 = .ok (.getfield 18, 3) := by decide +kernel
theorem dX6_voice_64 : decode cX6_voice 64 = .ok (.aload_n 0, 1) := by decide +kernel
theorem dX6_voice_65 : decode cX6_voice 65 = .ok (.getfield 18, 3) := by decide +kernel
theorem dX6_voice_68 : decode cX6_voice 68 = .ok (.invokevirtual 185, 3) := by decide +kernel
theorem dX6_voice_71 : decode cX6_voice 71 = .ok (.invokevirtual 188, 3) := by decide +kernel
theorem dX6_voice_74 : decode cX6_voice 74 = .ok (.aload_n 0, 1) := by decide +kernel
theorem dX6_voice_75 : decode cX6_voice 75 = .ok (.getfield 52, 3) := by decide +kernel
theorem dX6_voice_78 : decode cX6_voice 78 = .ok (.iconst 1, 1) := by decide +kernel
theorem dX6_voice_79 : decode cX6_voice 79 = .ok (.invokevirtual 198, 3) := by decide +kernel
theorem dX6_voice_82 : decode cX6_voice 82 = .ok (.istore 5, 2) := by decide +kernel
theorem dX6_voice_84 : decode cX6_voice 84 = .ok (.iload 5, 2) := by decide +kernel
theorem dX6_voice_86 : decode cX6_voice 86 = .ok (.iload_n 3, 1) := by decide +kernel
theorem dX6_voice_87 : decode cX6_voice 87 = .ok (.if_icmp .le 9, 3) := by decide +kernel
theorem dX6_voice_90 : decode cX6_voice 90 = .ok (.iload 5, 2) := by decide +kernel
theorem dX6_voice_92 : decode cX6_voice 92 = .ok (.istore_n 3, 1) := by decide +kernel
theorem dX6_voice_93 : decode cX6_voice 93 = .ok (.iload 4, 2) := by decide +kernel
theorem dX6_voice_95 : decode cX6_voice 95 = .ok (.istore_n 2, 1) := by decide +kernel
theorem dX6_voice_96 : decode cX6_voice 96 = .ok (.aload_n 0, 1) := by decide +kernel
theorem dX6_voice_97 : decode cX6_voice 97 = .ok (.getfield 49, 3) := by decide +kernel
theorem dX6_voice_100 : decode cX6_voice 100 = .ok (.getfield 94, 3) := by decide +kernel
theorem dX6_voice_103 : decode cX6_voice 103 = .ok (.iload 4, 2) := by decide +kernel
theorem dX6_voice_105 : decode cX6_voice 105 = .ok (.aload_n 0, 1) := by decide +kernel
theorem dX6_voice_106 : decode cX6_voice 106 = .ok (.getfield 38, 3) := by decide +kernel
theorem dX6_voice_109 : decode cX6_voice 109 = .ok (.getfield 94, 3) := by decide +kernel
theorem dX6_voice_112 : decode cX6_voice 112 = .ok (.iload 4, 2) := by decide +kernel
theorem dX6_voice_114 : decode cX6_voice 114 = .ok (.iaload, 1) := by decide +kernel
theorem dX6_voice_115 : decode cX6_voice 115 = .ok (.iastore, 1) := by decide +kernel
theorem dX6_voice_116 : decode cX6_voice 116 = .ok (.iinc 4 1, 3) := by decide +kernel
theorem dX6_voice_119 : decode cX6_voice 119 = .ok (.goto (-90), 3) := by decide +kernel
theorem dX6_voice_122 : decode cX6_voice 122 = .ok (.iload_n 1, 1) := by decide +kernel
theorem dX6_voice_123 : decode cX6_voice 123 = .ok (.ifCond .ne 7, 3) := by decide +kernel
theorem dX6_voice_126 : decode cX6_voice 126 = .ok (.iload_n 2, 1) := by decide +kernel
theorem dX6_voice_127 : decode cX6_voice 127 = .ok (.goto 4, 3) := by decide +kernel
theorem dX6_voice_130 : decode cX6_voice 130 = .ok (.iload_n 3, 1) := by decide +kernel
theorem dX6_voice_131 : decode cX6_voice 131 = .ok (.ireturn, 1) := by decide +kernel
theorem dX6_spare_0 : decode cX6_spare 0 = .ok (.iload_n 1, 1) := by decide +kernel
theorem dX6_spare_1 : decode cX6_spare 1 = .ok (.iconst (-1), 1) := by decide +kernel
theorem dX6_spare_2 : decode cX6_spare 2 = .ok (.if_icmp .lt 8, 3) := by decide +kernel
theorem dX6_spare_5 : decode cX6_spare 5 = .ok (.iload_n 1, 1) := by decide +kernel
theorem dX6_spare_6 : decode cX6_spare 6 = .ok (.iconst 1, 1) := by decide +kernel
theorem dX6_spare_7 : decode cX6_spare 7 = .ok (.if_icmp .le 6, 3) := by decide +kernel
theorem dX6_spare_10 : decode cX6_spare 10 = .ok (.bipush (-2), 2) := by decide +kernel
theorem dX6_spare_12 : decode cX6_spare 12 = .ok (.ireturn, 1) := by decide +kernel
theorem dX6_spare_13 : decode cX6_spare 13 = .ok (.aload_n 0, 1) := by decide +kernel
theorem dX6_spare_14 : decode cX6_spare 14 = .ok (.invokevirtual 201, 3) := by decide +kernel
theorem dX6_spare_17 : decode cX6_spare 17 = .ok (.istore_n 2, 1) := by decide +kernel
theorem dX6_spare_18 : decode cX6_spare 18 = .ok (.iload_n 2, 1) := by decide +kernel
theorem dX6_spare_19 : decode cX6_spare 19 = .ok (.iconst (-1), 1) := by decide +kernel
theorem dX6_spare_20 : decode cX6_spare 20 = .ok (.if_icmp .ne 5, 3) := by decide +kernel
theorem dX6_spare_23 : decode cX6_spare 23 = .ok (.iconst (-1), 1) := by decide +kernel
theorem dX6_spare_24 : decode cX6_spare 24 = .ok (.ireturn, 1) := by decide +kernel
theorem dX6_spare_25 : decode cX6_spare 25 = .ok (.iload_n 1, 1) := by decide +kernel
theorem dX6_spare_26 : decode cX6_spare 26 = .ok (.iconst (-1), 1) := by decide +kernel
theorem dX6_spare_27 : decode cX6_spare 27 = .ok (.if_icmp .ne 8, 3) := by decide +kernel
theorem dX6_spare_30 : decode cX6_spare 30 = .ok (.iload_n 2, 1) := by decide +kernel
theorem dX6_spare_31 : decode cX6_spare 31 = .ok (.invokestatic 204, 3) := by decide +kernel
theorem dX6_spare_34 : decode cX6_spare 34 = .ok (.ireturn, 1) := by decide +kernel
theorem dX6_spare_35 : decode cX6_spare 35 = .ok (.iload_n 1, 1) := by decide +kernel
theorem dX6_spare_36 : decode cX6_spare 36 = .ok (.ifCond .ne 7, 3) := by decide +kernel
theorem dX6_spare_39 : decode cX6_spare 39 = .ok (.iload_n 2, 1) := by decide +kernel
theorem dX6_spare_40 : decode cX6_spare 40 = .ok (.goto 8, 3) := by decide +kernel
theorem dX6_spare_43 : decode cX6_spare 43 = .ok (.iload_n 2, 1) := by decide +kernel
theorem dX6_spare_44 : decode cX6_spare 44 = .ok (.iload_n 2, 1) := by decide +kernel
theorem dX6_spare_45 : decode cX6_spare 45 = .ok (.iconst 1, 1) := by decide +kernel
theorem dX6_spare_46 : decode cX6_spare 46 = .ok (.isub, 1) := by decide +kernel
theorem dX6_spare_47 : decode cX6_spare 47 = .ok (.iand, 1) := by decide +kernel
theorem dX6_spare_48 : decode cX6_spare 48 = .ok (.invokestatic 209, 3) := by decide +kernel
theorem dX6_spare_51 : decode cX6_spare 51 = .ok (.ireturn, 1) := by decide +kernel
theorem dX6_tally_0 : decode cX6_tally 0 = .ok (.iload_n 1, 1) := by decide +kernel
theorem dX6_tally_1 : decode cX6_tally 1 = .ok (.bipush 24, 2) := by decide +kernel
theorem dX6_tally_3 : decode cX6_tally 3 = .ok (.invokestatic 66, 3) := by decide +kernel
theorem dX6_tally_6 : decode cX6_tally 6 = .ok (.ifCond .ne 21, 3) := by decide +kernel
theorem dX6_tally_9 : decode cX6_tally 9 = .ok (.iload_n 2, 1) := by decide +kernel
theorem dX6_tally_10 : decode cX6_tally 10 = .ok (.bipush 12, 2) := by decide +kernel
theorem dX6_tally_12 : decode cX6_tally 12 = .ok (.invokestatic 66, 3) := by decide +kernel
theorem dX6_tally_15 : decode cX6_tally 15 = .ok (.ifCond .ne 12, 3) := by decide +kernel
theorem dX6_tally_18 : decode cX6_tally 18 = .ok (.iload_n 3, 1) := by decide +kernel
theorem dX6_tally_19 : decode cX6_tally 19 = .ok (.bipush 10, 2) := by decide +kernel
theorem dX6_tally_21 : decode cX6_tally 21 = .ok (.invokestatic 66, 3) := by decide +kernel
theorem dX6_tally_24 : decode cX6_tally 24 = .ok (.ifCond .eq 6, 3) := by decide +kernel
theorem dX6_tally_27 : decode cX6_tally 27 = .ok (.bipush (-2), 2) := by decide +kernel
theorem dX6_tally_29 : decode cX6_tally 29 = .ok (.ireturn, 1) := by decide +kernel
theorem dX6_tally_30 : decode cX6_tally 30 = .ok (.aload_n 0, 1) := by decide +kernel
theorem dX6_tally_31 : decode cX6_tally 31 = .ok (.getfield 25, 3) := by decide +kernel
theorem dX6_tally_34 : decode cX6_tally 34 = .ok (.getfield 212, 3) := by decide +kernel
theorem dX6_tally_37 : decode cX6_tally 37 = .ok (.bipush 8, 2) := by decide +kernel
theorem dX6_tally_39 : decode cX6_tally 39 = .ok (.if_icmp .ne 6, 3) := by decide +kernel
theorem dX6_tally_42 : decode cX6_tally 42 = .ok (.bipush (-4), 2) := by decide +kernel
theorem dX6_tally_44 : decode cX6_tally 44 = .ok (.ireturn, 1) := by decide +kernel
theorem dX6_tally_45 : decode cX6_tally 45 = .ok (.aload_n 0, 1) := by decide +kernel
theorem dX6_tally_46 : decode cX6_tally 46 = .ok (.getfield 25, 3) := by decide +kernel
theorem dX6_tally_49 : decode cX6_tally 49 = .ok (.iload_n 1, 1) := by decide +kernel
theorem dX6_tally_50 : decode cX6_tally 50 = .ok (.iload_n 2, 1) := by decide +kernel
theorem dX6_tally_51 : decode cX6_tally 51 = .ok (.iload_n 3, 1) := by decide +kernel
theorem dX6_tally_52 : decode cX6_tally 52 = .ok (.invokevirtual 213, 3) := by decide +kernel
theorem dX6_tally_55 : decode cX6_tally 55 = .ok (.aload_n 0, 1) := by decide +kernel
theorem dX6_tally_56 : decode cX6_tally 56 = .ok (.getfield 25, 3) := by decide +kernel
theorem dX6_tally_59 : decode cX6_tally 59 = .ok (.getfield 212, 3) := by decide +kernel
theorem dX6_tally_62 : decode cX6_tally 62 = .ok (.ireturn, 1) := by decide +kernel
theorem dX6_forget_0 : decode cX6_forget 0 = .ok (.aload_n 0, 1) := by decide +kernel
theorem dX6_forget_1 : decode cX6_forget 1 = .ok (.getfield 25, 3) := by decide +kernel
theorem dX6_forget_4 : decode cX6_forget 4 = .ok (.getfield 212, 3) := by decide +kernel
theorem dX6_forget_7 : decode cX6_forget 7 = .ok (.istore_n 1, 1) := by decide +kernel
theorem dX6_forget_8 : decode cX6_forget 8 = .ok (.aload_n 0, 1) := by decide +kernel
theorem dX6_forget_9 : decode cX6_forget 9 = .ok (.getfield 25, 3) := by decide +kernel
theorem dX6_forget_12 : decode cX6_forget 12 = .ok (.iconst 0, 1) := by decide +kernel
theorem dX6_forget_13 : decode cX6_forget 13 = .ok (.putfield 212, 3) := by decide +kernel
theorem dX6_forget_16 : decode cX6_forget 16 = .ok (.iload_n 1, 1) := by decide +kernel
theorem dX6_forget_17 : decode cX6_forget 17 = .ok (.ireturn, 1) := by decide +kernel
theorem dX6_never_0 : decode cX6_never 0 = .ok (.iconst 0, 1) := by decide +kernel
theorem dX6_never_1 : decode cX6_never 1 = .ok (.istore_n 1, 1) := by decide +kernel
theorem dX6_never_2 : decode cX6_never 2 = .ok (.iconst 0, 1) := by decide +kernel
theorem dX6_never_3 : decode cX6_never 3 = .ok (.istore_n 2, 1) := by decide +kernel
theorem dX6_never_4 : decode cX6_never 4 = .ok (.iload_n 2, 1) := by decide +kernel
theorem dX6_never_5 : decode cX6_never 5 = .ok (.aload_n 0, 1) := by decide +kernel
theorem dX6_never_6 : decode cX6_never 6 = .ok (.getfield 18, 3) := by decide +kernel
theorem dX6_never_9 : decode cX6_never 9 = .ok (.getfield 134, 3) := by decide +kernel
theorem dX6_never_12 : decode cX6_never 12 = .ok (.if_icmp .ge 57, 3) := by decide +kernel
theorem dX6_never_15 : decode cX6_never 15 = .ok (.aload_n 0, 1) := by decide +kernel
theorem dX6_never_16 : decode cX6_never 16 = .ok (.getfield 52, 3) := by decide +kernel
theorem dX6_never_19 : decode cX6_never 19 = .ok (.aload_n 0, 1) := by decide +kernel
theorem dX6_never_20 : decode cX6_never 20 = .ok (.getfield 38, 3) := by decide +kernel
theorem dX6_never_23 : decode cX6_never 23 = .ok (.aload_n 0, 1) := by decide +kernel
theorem dX6_never_24 : decode cX6_never 24 = .ok (.getfield 18, 3) := by decide +kernel
theorem dX6_never_27 : decode cX6_never 27 = .ok (.aload_n 0, 1) := by decide +kernel
theorem dX6_never_28 : decode cX6_never 28 = .ok (.getfield 18, 3) := by decide +kernel
theorem dX6_never_31 : decode cX6_never 31 = .ok (.invokevirtual 185, 3) := by decide +kernel
theorem dX6_never_34 : decode cX6_never 34 = .ok (.iconst 1, 1) := by decide +kernel
theorem dX6_never_35 : decode cX6_never 35 = .ok (.iload_n 2, 1) := by decide +kernel
theorem dX6_never_36 : decode cX6_never 36 = .ok (.ishl, 1) := by decide +kernel
theorem dX6_never_37 : decode cX6_never 37 = .ok (.iconst (-1), 1) := by decide +kernel
theorem dX6_never_38 : decode cX6_never 38 = .ok (.ixor, 1) := by decide +kernel
theorem dX6_never_39 : decode cX6_never 39 = .ok (.iand, 1) := by decide +kernel
theorem dX6_never_40 : decode cX6_never 40 = .ok (.invokevirtual 188, 3) := by decide +kernel
theorem dX6_never_43 : decode cX6_never 43 = .ok (.aload_n 0, 1) := by decide +kernel
theorem dX6_never_44 : decode cX6_never 44 = .ok (.getfield 25, 3) := by decide +kernel
theorem dX6_never_47 : decode cX6_never 47 = .ok (.aload_n 0, 1) := by decide +kernel
theorem dX6_never_48 : decode cX6_never 48 = .ok (.getfield 52, 3) := by decide +kernel
theorem dX6_never_51 : decode cX6_never 51 = .ok (.invokevirtual 215, 3) := by decide +kernel
theorem dX6_never_54 : decode cX6_never 54 = .ok (.ifCond .eq 9, 3) := by decide +kernel
theorem dX6_never_57 : decode cX6_never 57 = .ok (.iload_n 1, 1) := by decide +kernel
theorem dX6_never_58 : decode cX6_never 58 = .ok (.iconst 1, 1) := by decide +kernel
theorem dX6_never_59 : decode cX6_never 59 = .ok (.iload_n 2, 1) := by decide +kernel
theorem dX6_never_60 : decode cX6_never 60 = .ok (.ishl, 1) := by decide +kernel
theorem dX6_never_61 : decode cX6_never 61 = .ok (.ior, 1) := by decide +kernel
theorem dX6_never_62 : decode cX6_never 62 = .ok (.istore_n 1, 1) := by decide +kernel
theorem dX6_never_63 : decode cX6_never 63 = .ok (.iinc 2 1, 3) := by decide +kernel
theorem dX6_never_66 : decode cX6_never 66 = .ok (.goto (-62), 3) := by decide +kernel
theorem dX6_never_69 : decode cX6_never 69 = .ok (.iload_n 1, 1) := by decide +kernel
theorem dX6_never_70 : decode cX6_never 70 = .ok (.ireturn, 1) := by decide +kernel
theorem dX6_sort_0 : decode cX6_sort 0 = .ok (.iload_n 1, 1) := by decide +kernel
theorem dX6_sort_1 : decode cX6_sort 1 = .ok (.aload_n 0, 1) := by decide +kernel
theorem dX6_sort_2 : decode cX6_sort 2 = .ok (.getfield 38, 3) := by decide +kernel
theorem dX6_sort_5 : decode cX6_sort 5 = .ok (.getfield 90, 3) := by decide +kernel
theorem dX6_sort_8 : decode cX6_sort 8 = .ok (.invokestatic 66, 3) := by decide +kernel
theorem dX6_sort_11 : decode cX6_sort 11 = .ok (.ifCond .eq 6, 3) := by decide +kernel
theorem dX6_sort_14 : decode cX6_sort 14 = .ok (.bipush (-2), 2) := by decide +kernel
theorem dX6_sort_16 : decode cX6_sort 16 = .ok (.ireturn, 1) := by decide +kernel
theorem dX6_sort_17 : decode cX6_sort 17 = .ok (.aload_n 0, 1) := by decide +kernel
theorem dX6_sort_18 : decode cX6_sort 18 = .ok (.getfield 49, 3) := by decide +kernel
theorem dX6_sort_21 : decode cX6_sort 21 = .ok (.aload_n 0, 1) := by decide +kernel
theorem dX6_sort_22 : decode cX6_sort 22 = .ok (.getfield 38, 3) := by decide +kernel
theorem dX6_sort_25 : decode cX6_sort 25 = .ok (.invokevirtual 177, 3) := by decide +kernel
theorem dX6_sort_28 : decode cX6_sort 28 = .ok (.iconst 0, 1) := by decide +kernel
theorem dX6_sort_29 : decode cX6_sort 29 = .ok (.istore_n 2, 1) := by decide +kernel
theorem dX6_sort_30 : decode cX6_sort 30 = .ok (.iconst 0, 1) := by decide +kernel
theorem dX6_sort_31 : decode cX6_sort 31 = .ok (.istore_n 3, 1) := by decide +kernel
theorem dX6_sort_32 : decode cX6_sort 32 = .ok (.iload_n 3, 1) := by decide +kernel
theorem dX6_sort_33 : decode cX6_sort 33 = .ok (.iconst 4, 1) := by decide +kernel
theorem dX6_sort_34 : decode cX6_sort 34 = .ok (.if_icmp .ge 61, 3) := by decide +kernel
theorem dX6_sort_37 : decode cX6_sort 37 = .ok (.aload_n 0, 1) := by decide +kernel
theorem dX6_sort_38 : decode cX6_sort 38 = .ok (.getfield 49, 3) := by decide +kernel
theorem dX6_sort_41 : decode cX6_sort 41 = .ok (.getfield 94, 3) := by decide +kernel
theorem dX6_sort_44 : decode cX6_sort 44 = .ok (.iload_n 1, 1) := by decide +kernel
theorem dX6_sort_45 : decode cX6_sort 45 = .ok (.iload_n 3, 1) := by decide +kernel
theorem dX6_sort_46 : decode cX6_sort 46 = .ok (.iastore, 1) := by decide +kernel
theorem dX6_sort_47 : decode cX6_sort 47 = .ok (.aload_n 0, 1) := by decide +kernel
theorem dX6_sort_48 : decode cX6_sort 48 = .ok (.getfield 52, 3) := by decide +kernel
theorem dX6_sort_51 : decode cX6_sort 51 = .ok (.aload_n 0, 1) := by decide +kernel
theorem dX6_sort_52 : decode cX6_sort 52 = .ok (.getfield 49, 3) := by decide +kernel
theorem dX6_sort_55 : decode cX6_sort 55 = .ok (.aload_n 0, 1) := by decide +kernel
theorem dX6_sort_56 : decode cX6_sort 56 = .ok (.getfield 18, 3) := by decide +kernel
theorem dX6_sort_59 : decode cX6_sort 59 = .ok (.aload_n 0, 1) := by decide +kernel
theorem dX6_sort_60 : decode cX6_sort 60 = .ok (.getfield 18, 3) := by decide +kernel
theorem dX6_sort_63 : decode cX6_sort 63 = .ok (.invokevirtual 185, 3) := by decide +kernel
theorem dX6_sort_66 : decode cX6_sort 66 = .ok (.invokevirtual 188, 3) := by decide +kernel
theorem dX6_sort_69 : decode cX6_sort 69 = .ok (.aload_n 0, 1) := by decide +kernel
theorem dX6_sort_70 : decode cX6_sort 70 = .ok (.getfield 25, 3) := by decide +kernel
theorem dX6_sort_73 : decode cX6_sort 73 = .ok (.aload_n 0, 1) := by decide +kernel
theorem dX6_sort_74 : decode cX6_sort 74 = .ok (.getfield 52, 3) := by decide +kernel
theorem dX6_sort_77 : decode cX6_sort 77 = .ok (.invokevirtual 215, 3) := by decide +kernel
theorem dX6_sort_80 : decode cX6_sort 80 = .ok (.ifCond .eq 9, 3) := by decide +kernel
theorem dX6_sort_83 : decode cX6_sort 83 = .ok (.iload_n 2, 1) := by decide +kernel
theorem dX6_sort_84 : decode cX6_sort 84 = .ok (.iconst 1, 1) := by decide +kernel
theorem dX6_sort_85 : decode cX6_sort 85 = .ok (.iload_n 3, 1) := by decide +kernel
theorem dX6_sort_86 : decode cX6_sort 86 = .ok (.ishl, 1) := by decide +kernel
theorem dX6_sort_87 : decode cX6_sort 87 = .ok (.ior, 1) := by decide +kernel
theorem dX6_sort_88 : decode cX6_sort 88 = .ok (.istore_n 2, 1) := by decide +kernel
theorem dX6_sort_89 : decode cX6_sort 89 = .ok (.iinc 3 1, 3) := by decide +kernel
theorem dX6_sort_92 : decode cX6_sort 92 = .ok (.goto (-60), 3) := by decide +kernel
theorem dX6_sort_95 : decode cX6_sort 95 = .ok (.iload_n 2, 1) := by decide +kernel
theorem dX6_sort_96 : decode cX6_sort 96 = .ok (.ireturn, 1) := by decide +kernel
theorem dX6_lent_0 : decode cX6_lent 0 = .ok (.iload_n 1, 1) := by decide +kernel
theorem dX6_lent_1 : decode cX6_lent 1 = .ok (.aload_n 0, 1) := by decide +kernel
theorem dX6_lent_2 : decode cX6_lent 2 = .ok (.getfield 38, 3) := by decide +kernel
theorem dX6_lent_5 : decode cX6_lent 5 = .ok (.getfield 100, 3) := by decide +kernel
theorem dX6_lent_8 : decode cX6_lent 8 = .ok (.invokestatic 66, 3) := by decide +kernel
theorem dX6_lent_11 : decode cX6_lent 11 = .ok (.ifCond .eq 6, 3) := by decide +kernel
theorem dX6_lent_14 : decode cX6_lent 14 = .ok (.bipush (-2), 2) := by decide +kernel
theorem dX6_lent_16 : decode cX6_lent 16 = .ok (.ireturn, 1) := by decide +kernel
theorem dX6_lent_17 : decode cX6_lent 17 = .ok (.aload_n 0, 1) := by decide +kernel
theorem dX6_lent_18 : decode cX6_lent 18 = .ok (.getfield 49, 3) := by decide +kernel
theorem dX6_lent_21 : decode cX6_lent 21 = .ok (.aload_n 0, 1) := by decide +kernel
theorem dX6_lent_22 : decode cX6_lent 22 = .ok (.getfield 38, 3) := by decide +kernel
theorem dX6_lent_25 : decode cX6_lent 25 = .ok (.invokevirtual 177, 3) := by decide +kernel
theorem dX6_lent_28 : decode cX6_lent 28 = .ok (.iconst 0, 1) := by decide +kernel
theorem dX6_lent_29 : decode cX6_lent 29 = .ok (.istore_n 2, 1) := by decide +kernel
theorem dX6_lent_30 : decode cX6_lent 30 = .ok (.iconst 1, 1) := by decide +kernel
theorem dX6_lent_31 : decode cX6_lent 31 = .ok (.istore_n 3, 1) := by decide +kernel
theorem dX6_lent_32 : decode cX6_lent 32 = .ok (.iload_n 3, 1) := by decide +kernel
theorem dX6_lent_33 : decode cX6_lent 33 = .ok (.bipush 9, 2) := by decide +kernel
theorem dX6_lent_35 : decode cX6_lent 35 = .ok (.if_icmp .gt 61, 3) := by decide +kernel
theorem dX6_lent_38 : decode cX6_lent 38 = .ok (.aload_n 0, 1) := by decide +kernel
theorem dX6_lent_39 : decode cX6_lent 39 = .ok (.getfield 49, 3) := by decide +kernel
theorem dX6_lent_42 : decode cX6_lent 42 = .ok (.getfield 109, 3) := by decide +kernel
theorem dX6_lent_45 : decode cX6_lent 45 = .ok (.iload_n 1, 1) := by decide +kernel
theorem dX6_lent_46 : decode cX6_lent 46 = .ok (.iload_n 3, 1) := by decide +kernel
theorem dX6_lent_47 : decode cX6_lent 47 = .ok (.iastore, 1) := by decide +kernel
theorem dX6_lent_48 : decode cX6_lent 48 = .ok (.aload_n 0, 1) := by decide +kernel
theorem dX6_lent_49 : decode cX6_lent 49 = .ok (.getfield 52, 3) := by decide +kernel
theorem dX6_lent_52 : decode cX6_lent 52 = .ok (.aload_n 0, 1) := by decide +kernel
theorem dX6_lent_53 : decode cX6_lent 53 = .ok (.getfield 49, 3) := by decide +kernel
theorem dX6_lent_56 : decode cX6_lent 56 = .ok (.aload_n 0, 1) := by decide +kernel
theorem dX6_lent_57 : decode cX6_lent 57 = .ok (.getfield 18, 3) := by decide +kernel
theorem dX6_lent_60 : decode cX6_lent 60 = .ok (.aload_n 0, 1) := by decide +kernel
theorem dX6_lent_61 : decode cX6_lent 61 = .ok (.getfield 18, 3) := by decide +kernel
theorem dX6_lent_64 : decode cX6_lent 64 = .ok (.invokevirtual 185, 3) := by decide +kernel
theorem dX6_lent_67 : decode cX6_lent 67 = .ok (.invokevirtual 188, 3) := by decide +kernel
theorem dX6_lent_70 : decode cX6_lent 70 = .ok (.aload_n 0, 1) := by decide +kernel
theorem dX6_lent_71 : decode cX6_lent 71 = .ok (.getfield 25, 3) := by decide +kernel
theorem dX6_lent_74 : decode cX6_lent 74 = .ok (.aload_n 0, 1) := by decide +kernel
theorem dX6_lent_75 : decode cX6_lent 75 = .ok (.getfield 52, 3) := by decide +kernel
theorem dX6_lent_78 : decode cX6_lent 78 = .ok (.invokevirtual 215, 3) := by decide +kernel
theorem dX6_lent_81 : decode cX6_lent 81 = .ok (.ifCond .eq 9, 3) := by decide +kernel
theorem dX6_lent_84 : decode cX6_lent 84 = .ok (.iload_n 2, 1) := by decide +kernel
theorem dX6_lent_85 : decode cX6_lent 85 = .ok (.iconst 1, 1) := by decide +kernel
theorem dX6_lent_86 : decode cX6_lent 86 = .ok (.iload_n 3, 1) := by decide +kernel
theorem dX6_lent_87 : decode cX6_lent 87 = .ok (.ishl, 1) := by decide +kernel
theorem dX6_lent_88 : decode cX6_lent 88 = .ok (.ior, 1) := by decide +kernel
theorem dX6_lent_89 : decode cX6_lent 89 = .ok (.istore_n 2, 1) := by decide +kernel
theorem dX6_lent_90 : decode cX6_lent 90 = .ok (.iinc 3 1, 3) := by decide +kernel
theorem dX6_lent_93 : decode cX6_lent 93 = .ok (.goto (-61), 3) := by decide +kernel
theorem dX6_lent_96 : decode cX6_lent 96 = .ok (.iload_n 2, 1) := by decide +kernel
theorem dX6_lent_97 : decode cX6_lent 97 = .ok (.ireturn, 1) := by decide +kernel
theorem dX6_ask_0 : decode cX6_ask 0 = .ok (.iload_n 1, 1) := by decide +kernel
theorem dX6_ask_1 : decode cX6_ask 1 = .ok (.aload_n 0, 1) := by decide +kernel
theorem dX6_ask_2 : decode cX6_ask 2 = .ok (.getfield 38, 3) := by decide +kernel
theorem dX6_ask_5 : decode cX6_ask 5 = .ok (.getfield 100, 3) := by decide +kernel
theorem dX6_ask_8 : decode cX6_ask 8 = .ok (.invokestatic 66, 3) := by decide +kernel
theorem dX6_ask_11 : decode cX6_ask 11 = .ok (.ifCond .eq 6, 3) := by decide +kernel
theorem dX6_ask_14 : decode cX6_ask 14 = .ok (.bipush (-2), 2) := by decide +kernel
theorem dX6_ask_16 : decode cX6_ask 16 = .ok (.ireturn, 1) := by decide +kernel
theorem dX6_ask_17 : decode cX6_ask 17 = .ok (.aload_n 0, 1) := by decide +kernel
theorem dX6_ask_18 : decode cX6_ask 18 = .ok (.iload_n 1, 1) := by decide +kernel
theorem dX6_ask_19 : decode cX6_ask 19 = .ok (.invokevirtual 219, 3) := by decide +kernel
theorem dX6_ask_22 : decode cX6_ask 22 = .ok (.iconst 0, 1) := by decide +kernel
theorem dX6_ask_23 : decode cX6_ask 23 = .ok (.istore_n 2, 1) := by decide +kernel
theorem dX6_ask_24 : decode cX6_ask 24 = .ok (.aload_n 0, 1) := by decide +kernel
theorem dX6_ask_25 : decode cX6_ask 25 = .ok (.iconst 0, 1) := by decide +kernel
theorem dX6_ask_26 : decode cX6_ask 26 = .ok (.invokevirtual 222, 3) := by decide +kernel
theorem dX6_ask_29 : decode cX6_ask 29 = .ok (.istore_n 3, 1) := by decide +kernel
theorem dX6_ask_30 : decode cX6_ask 30 = .ok (.iconst 1, 1) := by decide +kernel
theorem dX6_ask_31 : decode cX6_ask 31 = .ok (.istore 4, 2) := by decide +kernel
theorem dX6_ask_33 : decode cX6_ask 33 = .ok (.iload 4, 2) := by decide +kernel
theorem dX6_ask_35 : decode cX6_ask 35 = .ok (.bipush 24, 2) := by decide +kernel
theorem dX6_ask_37 : decode cX6_ask 37 = .ok (.if_icmp .ge 29, 3) := by decide +kernel
theorem dX6_ask_40 : decode cX6_ask 40 = .ok (.aload_n 0, 1) := by decide +kernel
theorem dX6_ask_41 : decode cX6_ask 41 = .ok (.iload 4, 2) := by decide +kernel
theorem dX6_ask_43 : decode cX6_ask 43 = .ok (.invokevirtual 222, 3) := by decide +kernel
theorem dX6_ask_46 : decode cX6_ask 46 = .ok (.istore 5, 2) := by decide +kernel
theorem dX6_ask_48 : decode cX6_ask 48 = .ok (.iload 5, 2) := by decide +kernel
theorem dX6_ask_50 : decode cX6_ask 50 = .ok (.iload_n 3, 1) := by decide +kernel
theorem dX6_ask_51 : decode cX6_ask 51 = .ok (.if_icmp .ge 9, 3) := by decide +kernel
theorem dX6_ask_54 : decode cX6_ask 54 = .ok (.iload 5, 2) := by decide +kernel
theorem dX6_ask_56 : decode cX6_ask 56 = .ok (.istore_n 3, 1) := by decide +kernel
theorem dX6_ask_57 : decode cX6_ask 57 = .ok (.iload 4, 2) := by decide +kernel
theorem dX6_ask_59 : decode cX6_ask 59 = .ok (.istore_n 2, 1) := by decide +kernel
theorem dX6_ask_60 : decode cX6_ask 60 = .ok (.iinc 4 1, 3) := by decide +kernel
theorem dX6_ask_63 : decode cX6_ask 63 = .ok (.goto (-30), 3) := by decide +kernel
theorem dX6_ask_66 : decode cX6_ask 66 = .ok (.iload_n 2, 1) := by decide +kernel
theorem dX6_ask_67 : decode cX6_ask 67 = .ok (.ireturn, 1) := by decide +kernel
theorem dX6_chance_0 : decode cX6_chance 0 = .ok (.iload_n 1, 1) := by decide +kernel
theorem dX6_chance_1 : decode cX6_chance 1 = .ok (.bipush 17, 2) := by decide +kernel
theorem dX6_chance_3 : decode cX6_chance 3 = .ok (.invokestatic 66, 3) := by decide +kernel
theorem dX6_chance_6 : decode cX6_chance 6 = .ok (.ifCond .ne 25, 3) := by decide +kernel
theorem dX6_chance_9 : decode cX6_chance 9 = .ok (.iload_n 2, 1) := by decide +kernel
theorem dX6_chance_10 : decode cX6_chance 10 = .ok (.aload_n 0, 1) := by decide +kernel
theorem dX6_chance_11 : decode cX6_chance 11 = .ok (.getfield 38, 3) := by decide +kernel
theorem dX6_chance_14 : decode cX6_chance 14 = .ok (.getfield 100, 3) := by decide +kernel
theorem dX6_chance_17 : decode cX6_chance 17 = .ok (.invokestatic 66, 3) := by decide +kernel
theorem dX6_chance_20 : decode cX6_chance 20 = .ok (.ifCond .ne 11, 3) := by decide +kernel
theorem dX6_chance_23 : decode cX6_chance 23 = .ok (.iload_n 3, 1) := by decide +kernel
theorem dX6_chance_24 : decode cX6_chance 24 = .ok (.iconst 2, 1) := by decide +kernel
theorem dX6_chance_25 : decode cX6_chance 25 = .ok (.invokestatic 66, 3) := by decide +kernel
theorem dX6_chance_28 : decode cX6_chance 28 = .ok (.ifCond .eq 7, 3) := by decide +kernel
theorem dX6_chance_31 : decode cX6_chance 31 = .ok (.ldc2_w 225, 3) := by decide +kernel
theorem dX6_chance_34 : decode cX6_chance 34 = .ok (.lreturn, 1) := by decide +kernel
theorem dX6_chance_35 : decode cX6_chance 35 = .ok (.aload_n 0, 1) := by decide +kernel
theorem dX6_chance_36 : decode cX6_chance 36 = .ok (.invokevirtual 227, 3) := by decide +kernel
theorem dX6_chance_39 : decode cX6_chance 39 = .ok (.iconst 4, 1) := by decide +kernel
theorem dX6_chance_40 : decode cX6_chance 40 = .ok (.aload_n 0, 1) := by decide +kernel
theorem dX6_chance_41 : decode cX6_chance 41 = .ok (.getfield 18, 3) := by decide +kernel
theorem dX6_chance_44 : decode cX6_chance 44 = .ok (.getfield 134, 3) := by decide +kernel
theorem dX6_chance_47 : decode cX6_chance 47 = .ok (.imul, 1) := by decide +kernel
theorem dX6_chance_48 : decode cX6_chance 48 = .ok (.istore 4, 2) := by decide +kernel
theorem dX6_chance_50 : decode cX6_chance 50 = .ok (.lconst 0, 1) := by decide +kernel
theorem dX6_chance_51 : decode cX6_chance 51 = .ok (.lstore 5, 2) := by decide +kernel
theorem dX6_chance_53 : decode cX6_chance 53 = .ok (.iconst 0, 1) := by decide +kernel
theorem dX6_chance_54 : decode cX6_chance 54 = .ok (.istore 7, 2) := by decide +kernel
theorem dX6_chance_56 : decode cX6_chance 56 = .ok (.iload 7, 2) := by decide +kernel
theorem dX6_chance_58 : decode cX6_chance 58 = .ok (.aload_n 0, 1) := by decide +kernel
theorem dX6_chance_59 : decode cX6_chance 59 = .ok (.getfield 18, 3) := by decide +kernel
theorem dX6_chance_62 : decode cX6_chance 62 = .ok (.getfield 134, 3) := by decide +kernel
theorem dX6_chance_65 : decode cX6_chance 65 = .ok (.if_icmp .gt 58, 3) := by decide +kernel
theorem dX6_chance_68 : decode cX6_chance 68 = .ok (.aload_n 0, 1) := by decide +kernel
theorem dX6_chance_69 : decode cX6_chance 69 = .ok (.getfield 59, 3) := by decide +kernel
theorem dX6_chance_72 : decode cX6_chance 72 = .ok (.iload_n 2, 1) := by decide +kernel
theorem dX6_chance_73 : decode cX6_chance 73 = .ok (.bipush 9, 2) := by decide +kernel
theorem dX6_chance_75 : decode cX6_chance 75 = .ok (.imul, 1) := by decide +kernel
theorem dX6_chance_76 : decode cX6_chance 76 = .ok (.iload 7, 2) := by decide +kernel
theorem dX6_chance_78 : decode cX6_chance 78 = .ok (.iadd, 1) := by decide +kernel
theorem dX6_chance_79 : decode cX6_chance 79 = .ok (.iaload, 1) := by decide +kernel
theorem dX6_chance_80 : decode cX6_chance 80 = .ok (.i2l, 1) := by decide +kernel
theorem dX6_chance_81 : decode cX6_chance 81 = .ok (.lstore 8, 2) := by decide +kernel
theorem dX6_chance_83 : decode cX6_chance 83 = .ok (.lload 5, 2) := by decide +kernel
theorem dX6_chance_85 : decode cX6_chance 85 = .ok (.lload 8, 2) := by decide +kernel
theorem dX6_chance_87 : decode cX6_chance 87 = .ok (.iload_n 1, 1) := by decide +kernel
theorem dX6_chance_88 : decode cX6_chance 88 = .ok (.i2l, 1) := by decide +kernel
theorem dX6_chance_89 : decode cX6_chance 89 = .ok (.iload 7, 2) := by decide +kernel
theorem dX6_chance_91 : decode cX6_chance 91 = .ok (.invokestatic 230, 3) := by decide +kernel
theorem dX6_chance_94 : decode cX6_chance 94 = .ok (.lmul, 1) := by decide +kernel
theorem dX6_chance_95 : decode cX6_chance 95 = .ok (.bipush 16, 2) := by decide +kernel
theorem dX6_chance_97 : decode cX6_chance 97 = .ok (.iload_n 1, 1) := by decide +kernel
theorem dX6_chance_98 : decode cX6_chance 98 = .ok (.isub, 1) := by decide +kernel
theorem dX6_chance_99 : decode cX6_chance 99 = .ok (.i2l, 1) := by decide +kernel
theorem dX6_chance_100 : decode cX6_chance 100 = .ok (.aload_n 0, 1) := by decide +kernel
theorem dX6_chance_101 : decode cX6_chance 101 = .ok (.getfield 18, 3) := by decide +kernel
theorem dX6_chance_104 : decode cX6_chance 104 = .ok (.getfield 134, 3) := by decide +kernel
theorem dX6_chance_107 : decode cX6_chance 107 = .ok (.iload 7, 2) := by decide +kernel
theorem dX6_chance_109 : decode cX6_chance 109 = .ok (.isub, 1) := by decide +kernel
theorem dX6_chance_110 : decode cX6_chance 110 = .ok (.invokestatic 230, 3) := by decide +kernel
theorem dX6_chance_113 : decode cX6_chance 113 = .ok (.lmul, 1) := by decide +kernel
theorem dX6_chance_114 : decode cX6_chance 114 = .ok (.ladd, 1) := by decide +kernel
theorem dX6_chance_115 : decode cX6_chance 115 = .ok (.lstore 5, 2) := by decide +kernel
theorem dX6_chance_117 : decode cX6_chance 117 = .ok (.iinc 7 1, 3) := by decide +kernel
theorem dX6_chance_120 : decode cX6_chance 120 = .ok (.goto (-64), 3) := by decide +kernel
theorem dX6_chance_123 : decode cX6_chance 123 = .ok (.lconst 1, 1) := by decide +kernel
theorem dX6_chance_124 : decode cX6_chance 124 = .ok (.iload 4, 2) := by decide +kernel
theorem dX6_chance_126 : decode cX6_chance 126 = .ok (.lshl, 1) := by decide +kernel
theorem dX6_chance_127 : decode cX6_chance 127 = .ok (.lstore 7, 2) := by decide +kernel
theorem dX6_chance_129 : decode cX6_chance 129 = .ok (.iconst 0, 1) := by decide +kernel
theorem dX6_chance_130 : decode cX6_chance 130 = .ok (.istore 9, 2) := by decide +kernel
theorem dX6_chance_132 : decode cX6_chance 132 = .ok (.iload 9, 2) := by decide +kernel
theorem dX6_chance_134 : decode cX6_chance 134 = .ok (.iload 4, 2) := by decide +kernel
theorem dX6_chance_136 : decode cX6_chance 136 = .ok (.if_icmp .ge 30, 3) := by decide +kernel
theorem dX6_chance_139 : decode cX6_chance 139 = .ok (.lload 5, 2) := by decide +kernel
theorem dX6_chance_141 : decode cX6_chance 141 = .ok (.lconst 1, 1) := by decide +kernel
theorem dX6_chance_142 : decode cX6_chance 142 = .ok (.land, 1) := by decide +kernel
theorem dX6_chance_143 : decode cX6_chance 143 = .ok (.lconst 0, 1) := by decide +kernel
theorem dX6_chance_144 : decode cX6_chance 144 = .ok (.lcmp, 1) := by decide +kernel
theorem dX6_chance_145 : decode cX6_chance 145 = .ok (.ifCond .ne 21, 3) := by decide +kernel
theorem dX6_chance_148 : decode cX6_chance 148 = .ok (.lload 5, 2) := by decide +kernel
theorem dX6_chance_150 : decode cX6_chance 150 = .ok (.iconst 1, 1) := by decide +kernel
theorem dX6_chance_151 : decode cX6_chance 151 = .ok (.lshr, 1) := by decide +kernel
theorem dX6_chance_152 : decode cX6_chance 152 = .ok (.lstore 5, 2) := by decide +kernel
theorem dX6_chance_154 : decode cX6_chance 154 = .ok (.lload 7, 2) := by decide +kernel
theorem dX6_chance_156 : decode cX6_chance 156 = .ok (.iconst 1, 1) := by decide +kernel
theorem dX6_chance_157 : decode cX6_chance 157 = .ok (.lshr, 1) := by decide +kernel
theorem dX6_chance_158 : decode cX6_chance 158 = .ok (.lstore 7, 2) := by decide +kernel
theorem dX6_chance_160 : decode cX6_chance 160 = .ok (.iinc 9 1, 3) := by decide +kernel
theorem dX6_chance_163 : decode cX6_chance 163 = .ok (.goto (-31), 3) := by decide +kernel
theorem dX6_chance_166 : decode cX6_chance 166 = .ok (.iload_n 3, 1) := by decide +kernel
theorem dX6_chance_167 : decode cX6_chance 167 = .ok (.ifCond .ne 8, 3) := by decide +kernel
theorem dX6_chance_170 : decode cX6_chance 170 = .ok (.lload 5, 2) := by decide +kernel
theorem dX6_chance_172 : decode cX6_chance 172 = .ok (.goto 5, 3) := by decide +kernel
theorem dX6_chance_175 : decode cX6_chance 175 = .ok (.lload 7, 2) := by decide +kernel
theorem dX6_chance_177 : decode cX6_chance 177 = .ok (.lreturn, 1) := by decide +kernel
theorem dX6_lives_0 : decode cX6_lives 0 = .ok (.iload_n 2, 1) := by decide +kernel
theorem dX6_lives_1 : decode cX6_lives 1 = .ok (.bipush 13, 2) := by decide +kernel
theorem dX6_lives_3 : decode cX6_lives 3 = .ok (.invokestatic 66, 3) := by decide +kernel
theorem dX6_lives_6 : decode cX6_lives 6 = .ok (.ifCond .ne 11, 3) := by decide +kernel
theorem dX6_lives_9 : decode cX6_lives 9 = .ok (.iload_n 3, 1) := by decide +kernel
theorem dX6_lives_10 : decode cX6_lives 10 = .ok (.iconst 2, 1) := by decide +kernel
theorem dX6_lives_11 : decode cX6_lives 11 = .ok (.invokestatic 66, 3) := by decide +kernel
theorem dX6_lives_14 : decode cX6_lives 14 = .ok (.ifCond .eq 6, 3) := by decide +kernel
theorem dX6_lives_17 : decode cX6_lives 17 = .ok (.bipush (-2), 2) := by decide +kernel
theorem dX6_lives_19 : decode cX6_lives 19 = .ok (.ireturn, 1) := by decide +kernel
theorem dX6_lives_20 : decode cX6_lives 20 = .ok (.aload_n 0, 1) := by decide +kernel
theorem dX6_lives_21 : decode cX6_lives 21 = .ok (.getfield 49, 3) := by decide +kernel
theorem dX6_lives_24 : decode cX6_lives 24 = .ok (.aload_n 0, 1) := by decide +kernel
theorem dX6_lives_25 : decode cX6_lives 25 = .ok (.getfield 38, 3) := by decide +kernel
theorem dX6_lives_28 : decode cX6_lives 28 = .ok (.invokevirtual 177, 3) := by decide +kernel
theorem dX6_lives_31 : decode cX6_lives 31 = .ok (.aload_n 0, 1) := by decide +kernel
theorem dX6_lives_32 : decode cX6_lives 32 = .ok (.getfield 49, 3) := by decide +kernel
theorem dX6_lives_35 : decode cX6_lives 35 = .ok (.iload_n 1, 1) := by decide +kernel
theorem dX6_lives_36 : decode cX6_lives 36 = .ok (.iload_n 2, 1) := by decide +kernel
theorem dX6_lives_37 : decode cX6_lives 37 = .ok (.invokevirtual 234, 3) := by decide +kernel
theorem dX6_lives_40 : decode cX6_lives 40 = .ok (.aload_n 0, 1) := by decide +kernel
theorem dX6_lives_41 : decode cX6_lives 41 = .ok (.getfield 52, 3) := by decide +kernel
theorem dX6_lives_44 : decode cX6_lives 44 = .ok (.aload_n 0, 1) := by decide +kernel
theorem dX6_lives_45 : decode cX6_lives 45 = .ok (.getfield 49, 3) := by decide +kernel
theorem dX6_lives_48 : decode cX6_lives 48 = .ok (.aload_n 0, 1) := by decide +kernel
theorem dX6_lives_49 : decode cX6_lives 49 = .ok (.getfield 18, 3) := by decide +kernel
theorem dX6_lives_52 : decode cX6_lives 52 = .ok (.aload_n 0, 1) := by decide +kernel
theorem dX6_lives_53 : decode cX6_lives 53 = .ok (.getfield 18, 3) := by decide +kernel
theorem dX6_lives_56 : decode cX6_lives 56 = .ok (.invokevirtual 185, 3) := by decide +kernel
theorem dX6_lives_59 : decode cX6_lives 59 = .ok (.invokevirtual 188, 3) := by decide +kernel
theorem dX6_lives_62 : decode cX6_lives 62 = .ok (.aload_n 0, 1) := by decide +kernel
theorem dX6_lives_63 : decode cX6_lives 63 = .ok (.getfield 52, 3) := by decide +kernel
theorem dX6_lives_66 : decode cX6_lives 66 = .ok (.iload_n 3, 1) := by decide +kernel
theorem dX6_lives_67 : decode cX6_lives 67 = .ok (.ifCond .ne 7, 3) := by decide +kernel
theorem dX6_lives_70 : decode cX6_lives 70 = .ok (.iconst 1, 1) := by decide +kernel
theorem dX6_lives_71 : decode cX6_lives 71 = .ok (.goto 4, 3) := by decide +kernel
theorem dX6_lives_74 : decode cX6_lives 74 = .ok (.iconst 3, 1) := by decide +kernel
theorem dX6_lives_75 : decode cX6_lives 75 = .ok (.invokevirtual 198, 3) := by decide +kernel
theorem dX6_lives_78 : decode cX6_lives 78 = .ok (.ireturn, 1) := by decide +kernel
theorem dX6_sheet_0 : decode cX6_sheet 0 = .ok (.iload_n 1, 1) := by decide +kernel
theorem dX6_sheet_1 : decode cX6_sheet 1 = .ok (.iconst 4, 1) := by decide +kernel
theorem dX6_sheet_2 : decode cX6_sheet 2 = .ok (.invokestatic 66, 3) := by decide +kernel
theorem dX6_sheet_5 : decode cX6_sheet 5 = .ok (.ifCond .ne 17, 3) := by decide +kernel
theorem dX6_sheet_8 : decode cX6_sheet 8 = .ok (.iload_n 2, 1) := by decide +kernel
theorem dX6_sheet_9 : decode cX6_sheet 9 = .ok (.iconst 3, 1) := by decide +kernel
theorem dX6_sheet_10 : decode cX6_sheet 10 = .ok (.invokestatic 66, 3) := by decide +kernel
theorem dX6_sheet_13 : decode cX6_sheet 13 = .ok (.ifCond .ne 9, 3) := by decide +kernel
theorem dX6_sheet_16 : decode cX6_sheet 16 = .ok (.iload_n 3, 1) := by decide +kernel
theorem dX6_sheet_17 : decode cX6_sheet 17 = .ok (.bipush 60, 2) := by decide +kernel
theorem dX6_sheet_19 : decode cX6_sheet 19 = .ok (.if_icmp .le 6, 3) := by decide +kernel
theorem dX6_sheet_22 : decode cX6_sheet 22 = .ok (.bipush (-2), 2) := by decide +kernel
theorem dX6_sheet_24 : decode cX6_sheet 24 = .ok (.ireturn, 1) := by decide +kernel
theorem dX6_sheet_25 : decode cX6_sheet 25 = .ok (.iload_n 3, 1) := by decide +kernel
theorem dX6_sheet_26 : decode cX6_sheet 26 = .ok (.ifCond .ge 9, 3) := by decide +kernel
theorem dX6_sheet_29 : decode cX6_sheet 29 = .ok (.aload_n 0, 1) := by decide +kernel
theorem dX6_sheet_30 : decode cX6_sheet 30 = .ok (.iconst 5, 1) := by decide +kernel
theorem dX6_sheet_31 : decode cX6_sheet 31 = .ok (.invokevirtual 140, 3) := by decide +kernel
theorem dX6_sheet_34 : decode cX6_sheet 34 = .ok (.ireturn, 1) := by decide +kernel
theorem dX6_sheet_35 : decode cX6_sheet 35 = .ok (.aload_n 0, 1) := by decide +kernel
theorem dX6_sheet_36 : decode cX6_sheet 36 = .ok (.getfield 31, 3) := by decide +kernel
theorem dX6_sheet_39 : decode cX6_sheet 39 = .ok (.iload_n 1, 1) := by decide +kernel
theorem dX6_sheet_40 : decode cX6_sheet 40 = .ok (.aaload, 1) := by decide +kernel
theorem dX6_sheet_41 : decode cX6_sheet 41 = .ok (.iload_n 2, 1) := by decide +kernel
theorem dX6_sheet_42 : decode cX6_sheet 42 = .ok (.iload_n 3, 1) := by decide +kernel
theorem dX6_sheet_43 : decode cX6_sheet 43 = .ok (.invokevirtual 237, 3) := by decide +kernel
theorem dX6_sheet_46 : decode cX6_sheet 46 = .ok (.iload_n 3, 1) := by decide +kernel
theorem dX6_sheet_47 : decode cX6_sheet 47 = .ok (.ireturn, 1) := by decide +kernel
theorem dX6_lose_0 : decode cX6_lose 0 = .ok (.iload_n 1, 1) := by decide +kernel
theorem dX6_lose_1 : decode cX6_lose 1 = .ok (.iconst 4, 1) := by decide +kernel
theorem dX6_lose_2 : decode cX6_lose 2 = .ok (.invokestatic 66, 3) := by decide +kernel
theorem dX6_lose_5 : decode cX6_lose 5 = .ok (.ifCond .eq 6, 3) := by decide +kernel
theorem dX6_lose_8 : decode cX6_lose 8 = .ok (.bipush (-2), 2) := by decide +kernel
theorem dX6_lose_10 : decode cX6_lose 10 = .ok (.ireturn, 1) := by decide +kernel
theorem dX6_lose_11 : decode cX6_lose 11 = .ok (.aload_n 0, 1) := by decide +kernel
theorem dX6_lose_12 : decode cX6_lose 12 = .ok (.getfield 31, 3) := by decide +kernel
theorem dX6_lose_15 : decode cX6_lose 15 = .ok (.iload_n 1, 1) := by decide +kernel
theorem dX6_lose_16 : decode cX6_lose 16 = .ok (.aaload, 1) := by decide +kernel
theorem dX6_lose_17 : decode cX6_lose 17 = .ok (.invokevirtual 137, 3) := by decide +kernel
theorem dX6_lose_20 : decode cX6_lose 20 = .ok (.ifCond .eq 9, 3) := by decide +kernel
theorem dX6_lose_23 : decode cX6_lose 23 = .ok (.aload_n 0, 1) := by decide +kernel
theorem dX6_lose_24 : decode cX6_lose 24 = .ok (.iconst 1, 1) := by decide +kernel
theorem dX6_lose_25 : decode cX6_lose 25 = .ok (.invokevirtual 140, 3) := by decide +kernel
theorem dX6_lose_28 : decode cX6_lose 28 = .ok (.ireturn, 1) := by decide +kernel
theorem dX6_lose_29 : decode cX6_lose 29 = .ok (.aload_n 0, 1) := by decide +kernel
theorem dX6_lose_30 : decode cX6_lose 30 = .ok (.getfield 31, 3) := by decide +kernel
theorem dX6_lose_33 : decode cX6_lose 33 = .ok (.iload_n 1, 1) := by decide +kernel
theorem dX6_lose_34 : decode cX6_lose 34 = .ok (.aaload, 1) := by decide +kernel
theorem dX6_lose_35 : decode cX6_lose 35 = .ok (.getfield 144, 3) := by decide +kernel
theorem dX6_lose_38 : decode cX6_lose 38 = .ok (.istore_n 2, 1) := by decide +kernel
theorem dX6_lose_39 : decode cX6_lose 39 = .ok (.aload_n 0, 1) := by decide +kernel
theorem dX6_lose_40 : decode cX6_lose 40 = .ok (.getfield 31, 3) := by decide +kernel
theorem dX6_lose_43 : decode cX6_lose 43 = .ok (.iload_n 1, 1) := by decide +kernel
theorem dX6_lose_44 : decode cX6_lose 44 = .ok (.aaload, 1) := by decide +kernel
theorem dX6_lose_45 : decode cX6_lose 45 = .ok (.iconst (-1), 1) := by decide +kernel
theorem dX6_lose_46 : decode cX6_lose 46 = .ok (.iconst 0, 1) := by decide +kernel
theorem dX6_lose_47 : decode cX6_lose 47 = .ok (.invokevirtual 237, 3) := by decide +kernel
theorem dX6_lose_50 : decode cX6_lose 50 = .ok (.iload_n 2, 1) := by decide +kernel
theorem dX6_lose_51 : decode cX6_lose 51 = .ok (.ireturn, 1) := by decide +kernel
theorem dX6_lay_0 : decode cX6_lay 0 = .ok (.iload_n 1, 1) := by decide +kernel
theorem dX6_lay_1 : decode cX6_lay 1 = .ok (.iconst 4, 1) := by decide +kernel
theorem dX6_lay_2 : decode cX6_lay 2 = .ok (.invokestatic 66, 3) := by decide +kernel
theorem dX6_lay_5 : decode cX6_lay 5 = .ok (.ifCond .ne 11, 3) := by decide +kernel
theorem dX6_lay_8 : decode cX6_lay 8 = .ok (.iload_n 2, 1) := by decide +kernel
theorem dX6_lay_9 : decode cX6_lay 9 = .ok (.iconst 3, 1) := by decide +kernel
theorem dX6_lay_10 : decode cX6_lay 10 = .ok (.invokestatic 66, 3) := by decide +kernel
theorem dX6_lay_13 : decode cX6_lay 13 = .ok (.ifCond .eq 6, 3) := by decide +kernel
theorem dX6_lay_16 : decode cX6_lay 16 = .ok (.bipush (-2), 2) := by decide +kernel
theorem dX6_lay_18 : decode cX6_lay 18 = .ok (.ireturn, 1) := by decide +kernel
theorem dX6_lay_19 : decode cX6_lay 19 = .ok (.aload_n 0, 1) := by decide +kernel
theorem dX6_lay_20 : decode cX6_lay 20 = .ok (.getfield 31, 3) := by decide +kernel
theorem dX6_lay_23 : decode cX6_lay 23 = .ok (.iload_n 1, 1) := by decide +kernel
theorem dX6_lay_24 : decode cX6_lay 24 = .ok (.aaload, 1) := by decide +kernel
theorem dX6_lay_25 : decode cX6_lay 25 = .ok (.iload_n 2, 1) := by decide +kernel
theorem dX6_lay_26 : decode cX6_lay 26 = .ok (.iload_n 3, 1) := by decide +kernel
theorem dX6_lay_27 : decode cX6_lay 27 = .ok (.invokestatic 240, 3) := by decide +kernel
theorem dX6_lay_30 : decode cX6_lay 30 = .ok (.istore 5, 2) := by decide +kernel
theorem dX6_lay_32 : decode cX6_lay 32 = .ok (.iload 5, 2) := by decide +kernel
theorem dX6_lay_34 : decode cX6_lay 34 = .ok (.ifCond .eq 10, 3) := by decide +kernel
theorem dX6_lay_37 : decode cX6_lay 37 = .ok (.aload_n 0, 1) := by decide +kernel
theorem dX6_lay_38 : decode cX6_lay 38 = .ok (.iload 5, 2) := by decide +kernel
theorem dX6_lay_40 : decode cX6_lay 40 = .ok (.invokevirtual 140, 3) := by decide +kernel
theorem dX6_lay_43 : decode cX6_lay 43 = .ok (.ireturn, 1) := by decide +kernel
theorem dX6_lay_44 : decode cX6_lay 44 = .ok (.aload_n 0, 1) := by decide +kernel
theorem dX6_lay_45 : decode cX6_lay 45 = .ok (.getfield 31, 3) := by decide +kernel
theorem dX6_lay_48 : decode cX6_lay 48 = .ok (.iload_n 1, 1) := by decide +kernel
theorem dX6_lay_49 : decode cX6_lay 49 = .ok (.aaload, 1) := by decide +kernel
theorem dX6_lay_50 : decode cX6_lay 50 = .ok (.iload_n 3, 1) := by decide +kernel
theorem dX6_lay_51 : decode cX6_lay 51 = .ok (.iload 4, 2) := by decide +kernel
theorem dX6_lay_53 : decode cX6_lay 53 = .ok (.invokevirtual 244, 3) := by decide +kernel
theorem dX6_lay_56 : decode cX6_lay 56 = .ok (.iconst 1, 1) := by decide +kernel
theorem dX6_lay_57 : decode cX6_lay 57 = .ok (.ireturn, 1) := by decide +kernel
theorem dX6_get_0 : decode cX6_get 0 = .ok (.iload_n 1, 1) := by decide +kernel
theorem dX6_get_1 : decode cX6_get 1 = .ok (.iconst 4, 1) := by decide +kernel
theorem dX6_get_2 : decode cX6_get 2 = .ok (.invokestatic 66, 3) := by decide +kernel
theorem dX6_get_5 : decode cX6_get 5 = .ok (.ifCond .ne 11, 3) := by decide +kernel
theorem dX6_get_8 : decode cX6_get 8 = .ok (.iload_n 2, 1) := by decide +kernel
theorem dX6_get_9 : decode cX6_get 9 = .ok (.iconst 3, 1) := by decide +kernel
theorem dX6_get_10 : decode cX6_get 10 = .ok (.invokestatic 66, 3) := by decide +kernel
theorem dX6_get_13 : decode cX6_get 13 = .ok (.ifCond .eq 6, 3) := by decide +kernel
theorem dX6_get_16 : decode cX6_get 16 = .ok (.ldc 247, 2) := by decide +kernel
theorem dX6_get_18 : decode cX6_get 18 = .ok (.ireturn, 1) := by decide +kernel
theorem dX6_get_19 : decode cX6_get 19 = .ok (.aload_n 0, 1) := by decide +kernel
theorem dX6_get_20 : decode cX6_get 20 = .ok (.getfield 31, 3) := by decide +kernel
theorem dX6_get_23 : decode cX6_get 23 = .ok (.iload_n 1, 1) := by decide +kernel
theorem dX6_get_24 : decode cX6_get 24 = .ok (.aaload, 1) := by decide +kernel
theorem dX6_get_25 : decode cX6_get 25 = .ok (.iload_n 2, 1) := by decide +kernel
theorem dX6_get_26 : decode cX6_get 26 = .ok (.iload_n 3, 1) := by decide +kernel
theorem dX6_get_27 : decode cX6_get 27 = .ok (.invokestatic 240, 3) := by decide +kernel
theorem dX6_get_30 : decode cX6_get 30 = .ok (.istore 4, 2) := by decide +kernel
theorem dX6_get_32 : decode cX6_get 32 = .ok (.iload 4, 2) := by decide +kernel
theorem dX6_get_34 : decode cX6_get 34 = .ok (.ifCond .eq 13, 3) := by decide +kernel
theorem dX6_get_37 : decode cX6_get 37 = .ok (.aload_n 0, 1) := by decide +kernel
theorem dX6_get_38 : decode cX6_get 38 = .ok (.iload 4, 2) := by decide +kernel
theorem dX6_get_40 : decode cX6_get 40 = .ok (.invokevirtual 140, 3) := by decide +kernel
theorem dX6_get_43 : decode cX6_get 43 = .ok (.pop, 1) := by decide +kernel
theorem dX6_get_44 : decode cX6_get 44 = .ok (.ldc 247, 2) := by decide +kernel
theorem dX6_get_46 : decode cX6_get 46 = .ok (.ireturn, 1) := by decide +kernel
theorem dX6_get_47 : decode cX6_get 47 = .ok (.aload_n 0, 1) := by decide +kernel
theorem dX6_get_48 : decode cX6_get 48 = .ok (.getfield 31, 3) := by decide +kernel
theorem dX6_get_51 : decode cX6_get 51 = .ok (.iload_n 1, 1) := by decide +kernel
theorem dX6_get_52 : decode cX6_get 52 = .ok (.aaload, 1) := by decide +kernel
theorem dX6_get_53 : decode cX6_get 53 = .ok (.getfield 146, 3) := by decide +kernel
theorem dX6_get_56 : decode cX6_get 56 = .ok (.iload_n 3, 1) := by decide +kernel
theorem dX6_get_57 : decode cX6_get 57 = .ok (.iaload, 1) := by decide +kernel
theorem dX6_get_58 : decode cX6_get 58 = .ok (.ireturn, 1) := by decide +kernel
theorem dX6_copy_0 : decode cX6_copy 0 = .ok (.iload_n 1, 1) := by decide +kernel
theorem dX6_copy_1 : decode cX6_copy 1 = .ok (.iconst 4, 1) := by decide +kernel
theorem dX6_copy_2 : decode cX6_copy 2 = .ok (.invokestatic 66, 3) := by decide +kernel
theorem dX6_copy_5 : decode cX6_copy 5 = .ok (.ifCond .ne 11, 3) := by decide +kernel
theorem dX6_copy_8 : decode cX6_copy 8 = .ok (.iload_n 3, 1) := by decide +kernel
theorem dX6_copy_9 : decode cX6_copy 9 = .ok (.iconst 4, 1) := by decide +kernel
theorem dX6_copy_10 : decode cX6_copy 10 = .ok (.invokestatic 66, 3) := by decide +kernel
theorem dX6_copy_13 : decode cX6_copy 13 = .ok (.ifCond .eq 6, 3) := by decide +kernel
theorem dX6_copy_16 : decode cX6_copy 16 = .ok (.bipush (-2), 2) := by decide +kernel
theorem dX6_copy_18 : decode cX6_copy 18 = .ok (.ireturn, 1) := by decide +kernel
theorem dX6_copy_19 : decode cX6_copy 19 = .ok (.aload_n 0, 1) := by decide +kernel
theorem dX6_copy_20 : decode cX6_copy 20 = .ok (.getfield 31, 3) := by decide +kernel
theorem dX6_copy_23 : decode cX6_copy 23 = .ok (.iload_n 1, 1) := by decide +kernel
theorem dX6_copy_24 : decode cX6_copy 24 = .ok (.aaload, 1) := by decide +kernel
theorem dX6_copy_25 : decode cX6_copy 25 = .ok (.astore 6, 2) := by decide +kernel
theorem dX6_copy_27 : decode cX6_copy 27 = .ok (.aload_n 0, 1) := by decide +kernel
theorem dX6_copy_28 : decode cX6_copy 28 = .ok (.getfield 31, 3) := by decide +kernel
theorem dX6_copy_31 : decode cX6_copy 31 = .ok (.iload_n 3, 1) := by decide +kernel
theorem dX6_copy_32 : decode cX6_copy 32 = .ok (.aaload, 1) := by decide +kernel
theorem dX6_copy_33 : decode cX6_copy 33 = .ok (.astore 7, 2) := by decide +kernel
theorem dX6_copy_35 : decode cX6_copy 35 = .ok (.aload 6, 2) := by decide +kernel
theorem dX6_copy_37 : decode cX6_copy 37 = .ok (.invokevirtual 137, 3) := by decide +kernel
theorem dX6_copy_40 : decode cX6_copy 40 = .ok (.ifCond .ne 11, 3) := by decide +kernel
theorem dX6_copy_43 : decode cX6_copy 43 = .ok (.aload 7, 2) := by decide +kernel
theorem dX6_copy_45 : decode cX6_copy 45 = .ok (.invokevirtual 137, 3) := by decide +kernel
theorem dX6_copy_48 : decode cX6_copy 48 = .ok (.ifCond .eq 9, 3) := by decide +kernel
theorem dX6_copy_51 : decode cX6_copy 51 = .ok (.aload_n 0, 1) := by decide +kernel
theorem dX6_copy_52 : decode cX6_copy 52 = .ok (.iconst 1, 1) := by decide +kernel
theorem dX6_copy_53 : decode cX6_copy 53 = .ok (.invokevirtual 140, 3) := by decide +kernel
theorem dX6_copy_56 : decode cX6_copy 56 = .ok (.ireturn, 1) := by decide +kernel
theorem dX6_copy_57 : decode cX6_copy 57 = .ok (.aload 6, 2) := by decide +kernel
theorem dX6_copy_59 : decode cX6_copy 59 = .ok (.getfield 248, 3) := by decide +kernel
theorem dX6_copy_62 : decode cX6_copy 62 = .ok (.aload 7, 2) := by decide +kernel
theorem dX6_copy_64 : decode cX6_copy 64 = .ok (.getfield 248, 3) := by decide +kernel
theorem dX6_copy_67 : decode cX6_copy 67 = .ok (.if_icmp .eq 9, 3) := by decide +kernel
theorem dX6_copy_70 : decode cX6_copy 70 = .ok (.aload_n 0, 1) := by decide +kernel
theorem dX6_copy_71 : decode cX6_copy 71 = .ok (.iconst 4, 1) := by decide +kernel
theorem dX6_copy_72 : decode cX6_copy 72 = .ok (.invokevirtual 140, 3) := by decide +kernel
theorem dX6_copy_75 : decode cX6_copy 75 = .ok (.ireturn, 1) := by decide +kernel
theorem dX6_copy_76 : decode cX6_copy 76 = .ok (.aload 6, 2) := by decide +kernel
theorem dX6_copy_78 : decode cX6_copy 78 = .ok (.iload_n 2, 1) := by decide +kernel
theorem dX6_copy_79 : decode cX6_copy 79 = .ok (.iload 5, 2) := by decide +kernel
theorem dX6_copy_81 : decode cX6_copy 81 = .ok (.invokevirtual 251, 3) := by decide +kernel
theorem dX6_copy_84 : decode cX6_copy 84 = .ok (.ifCond .eq 15, 3) := by decide +kernel
theorem dX6_copy_87 : decode cX6_copy 87 = .ok (.aload 7, 2) := by decide +kernel
theorem dX6_copy_89 : decode cX6_copy 89 = .ok (.iload 4, 2) := by decide +kernel
theorem dX6_copy_91 : decode cX6_copy 91 = .ok (.iload 5, 2) := by decide +kernel
theorem dX6_copy_93 : decode cX6_copy 93 = .ok (.invokevirtual 251, 3) := by decide +kernel
theorem dX6_copy_96 : decode cX6_copy 96 = .ok (.ifCond .ne 9, 3) := by decide +kernel
theorem dX6_copy_99 : decode cX6_copy 99 = .ok (.aload_n 0, 1) := by decide +kernel
theorem dX6_copy_100 : decode cX6_copy 100 = .ok (.iconst 2, 1) := by decide +kernel
theorem dX6_copy_101 : decode cX6_copy 101 = .ok (.invokevirtual 140, 3) := by decide +kernel
theorem dX6_copy_104 : decode cX6_copy 104 = .ok (.ireturn, 1) := by decide +kernel
theorem dX6_copy_105 : decode cX6_copy 105 = .ok (.aload 6, 2) := by decide +kernel
theorem dX6_copy_107 : decode cX6_copy 107 = .ok (.getfield 146, 3) := by decide +kernel
theorem dX6_copy_110 : decode cX6_copy 110 = .ok (.iload_n 2, 1) := by decide +kernel
theorem dX6_copy_111 : decode cX6_copy 111 = .ok (.aload 7, 2) := by decide +kernel
theorem dX6_copy_113 : decode cX6_copy 113 = .ok (.getfield 146, 3) := by decide +kernel
theorem dX6_copy_116 : decode cX6_copy 116 = .ok (.iload 4, 2) := by decide +kernel
theorem dX6_copy_118 : decode cX6_copy 118 = .ok (.iload 5, 2) := by decide +kernel
theorem dX6_copy_120 : decode cX6_copy 120 = .ok (.invokestatic 254, 3) := by decide +kernel
theorem dX6_copy_123 : decode cX6_copy 123 = .ok (.iconst 1, 1) := by decide +kernel
theorem dX6_copy_124 : decode cX6_copy 124 = .ok (.ireturn, 1) := by decide +kernel
theorem dX6_write_0 : decode cX6_write 0 = .ok (.iload_n 1, 1) := by decide +kernel
theorem dX6_write_1 : decode cX6_write 1 = .ok (.aload_n 0, 1) := by decide +kernel
theorem dX6_write_2 : decode cX6_write 2 = .ok (.getfield 38, 3) := by decide +kernel
theorem dX6_write_5 : decode cX6_write 5 = .ok (.getfield 100, 3) := by decide +kernel
theorem dX6_write_8 : decode cX6_write 8 = .ok (.invokestatic 66, 3) := by decide +kernel
theorem dX6_write_11 : decode cX6_write 11 = .ok (.ifCond .ne 11, 3) := by decide +kernel
theorem dX6_write_14 : decode cX6_write 14 = .ok (.iload_n 2, 1) := by decide +kernel
theorem dX6_write_15 : decode cX6_write 15 = .ok (.iconst 4, 1) := by decide +kernel
theorem dX6_write_16 : decode cX6_write 16 = .ok (.invokestatic 66, 3) := by decide +kernel
theorem dX6_write_19 : decode cX6_write 19 = .ok (.ifCond .eq 6, 3) := by decide +kernel
theorem dX6_write_22 : decode cX6_write 22 = .ok (.bipush (-2), 2) := by decide +kernel
theorem dX6_write_24 : decode cX6_write 24 = .ok (.ireturn, 1) := by decide +kernel
theorem dX6_write_25 : decode cX6_write 25 = .ok (.aload_n 0, 1) := by decide +kernel
theorem dX6_write_26 : decode cX6_write 26 = .ok (.getfield 31, 3) := by decide +kernel
theorem dX6_write_29 : decode cX6_write 29 = .ok (.iload_n 2, 1) := by decide +kernel
theorem dX6_write_30 : decode cX6_write 30 = .ok (.aaload, 1) := by decide +kernel
theorem dX6_write_31 : decode cX6_write 31 = .ok (.astore_n 3, 1) := by decide +kernel
theorem dX6_write_32 : decode cX6_write 32 = .ok (.aload_n 3, 1) := by decide +kernel
theorem dX6_write_33 : decode cX6_write 33 = .ok (.invokevirtual 137, 3) := by decide +kernel
theorem dX6_write_36 : decode cX6_write 36 = .ok (.ifCond .eq 9, 3) := by decide +kernel
theorem dX6_write_39 : decode cX6_write 39 = .ok (.aload_n 0, 1) := by decide +kernel
theorem dX6_write_40 : decode cX6_write 40 = .ok (.iconst 1, 1) := by decide +kernel
theorem dX6_write_41 : decode cX6_write 41 = .ok (.invokevirtual 140, 3) := by decide +kernel
theorem dX6_write_44 : decode cX6_write 44 = .ok (.ireturn, 1) := by decide +kernel
theorem dX6_write_45 : decode cX6_write 45 = .ok (.aload_n 0, 1) := by decide +kernel
theorem dX6_write_46 : decode cX6_write 46 = .ok (.invokevirtual 149, 3) := by decide +kernel
theorem dX6_write_49 : decode cX6_write 49 = .ok (.aload_n 3, 1) := by decide +kernel
theorem dX6_write_50 : decode cX6_write 50 = .ok (.getfield 144, 3) := by decide +kernel
theorem dX6_write_53 : decode cX6_write 53 = .ok (.bipush 24, 2) := by decide +kernel
theorem dX6_write_55 : decode cX6_write 55 = .ok (.invokestatic 260, 3) := by decide +kernel
theorem dX6_write_58 : decode cX6_write 58 = .ok (.istore 4, 2) := by decide +kernel
theorem dX6_write_60 : decode cX6_write 60 = .ok (.iconst 0, 1) := by decide +kernel
theorem dX6_write_61 : decode cX6_write 61 = .ok (.istore 5, 2) := by decide +kernel
theorem dX6_write_63 : decode cX6_write 63 = .ok (.iload 5, 2) := by decide +kernel
theorem dX6_write_65 : decode cX6_write 65 = .ok (.iload 4, 2) := by decide +kernel
theorem dX6_write_67 : decode cX6_write 67 = .ok (.if_icmp .ge 25, 3) := by decide +kernel
theorem dX6_write_70 : decode cX6_write 70 = .ok (.aload_n 3, 1) := by decide +kernel
theorem dX6_write_71 : decode cX6_write 71 = .ok (.iload 5, 2) := by decide +kernel
theorem dX6_write_73 : decode cX6_write 73 = .ok (.aload_n 0, 1) := by decide +kernel
theorem dX6_write_74 : decode cX6_write 74 = .ok (.getfield 45, 3) := by decide +kernel
theorem dX6_write_77 : decode cX6_write 77 = .ok (.iload 5, 2) := by decide +kernel
theorem dX6_write_79 : decode cX6_write 79 = .ok (.iload_n 1, 1) := by decide +kernel
theorem dX6_write_80 : decode cX6_write 80 = .ok (.invokevirtual 156, 3) := by decide +kernel
theorem dX6_write_83 : decode cX6_write 83 = .ok (.invokevirtual 244, 3) := by decide +kernel
theorem dX6_write_86 : decode cX6_write 86 = .ok (.iinc 5 1, 3) := by decide +kernel
theorem dX6_write_89 : decode cX6_write 89 = .ok (.goto (-26), 3) := by decide +kernel
theorem dX6_write_92 : decode cX6_write 92 = .ok (.iload 4, 2) := by decide +kernel
theorem dX6_write_94 : decode cX6_write 94 = .ok (.ireturn, 1) := by decide +kernel
theorem dX6_count_0 : decode cX6_count 0 = .ok (.iload_n 1, 1) := by decide +kernel
theorem dX6_count_1 : decode cX6_count 1 = .ok (.bipush 9, 2) := by decide +kernel
theorem dX6_count_3 : decode cX6_count 3 = .ok (.invokestatic 66, 3) := by decide +kernel
theorem dX6_count_6 : decode cX6_count 6 = .ok (.ifCond .eq 6, 3) := by decide +kernel
theorem dX6_count_9 : decode cX6_count 9 = .ok (.bipush (-2), 2) := by decide +kernel
theorem dX6_count_11 : decode cX6_count 11 = .ok (.ireturn, 1) := by decide +kernel
theorem dX6_count_12 : decode cX6_count 12 = .ok (.iload_n 1, 1) := by decide +kernel
theorem dX6_count_13 : decode cX6_count 13 = .ok (.tableswitch 96 0 8 #[51, 59, 67, 96, 96, 96, 75, 83, 91], 51) := by decide +kernel
theorem dX6_count_64 : decode cX6_count 64 = .ok (.aload_n 0, 1) := by decide +kernel
theorem dX6_count_65 : decode cX6_count 65 = .ok (.getfield 38, 3) := by decide +kernel
theorem dX6_count_68 : decode cX6_count 68 = .ok (.getfield 90, 3) := by decide +kernel
theorem dX6_count_71 : decode cX6_count 71 = .ok (.ireturn, 1) := by decide +kernel
theorem dX6_count_72 : decode cX6_count 72 = .ok (.aload_n 0, 1) := by decide +kernel
theorem dX6_count_73 : decode cX6_count 73 = .ok (.getfield 38, 3) := by decide +kernel
theorem dX6_count_76 : decode cX6_count 76 = .ok (.getfield 100, 3) := by decide +kernel
theorem dX6_count_79 : decode cX6_count 79 = .ok (.ireturn, 1) := by decide +kernel
theorem dX6_count_80 : decode cX6_count 80 = .ok (.aload_n 0, 1) := by decide +kernel
theorem dX6_count_81 : decode cX6_count 81 = .ok (.getfield 38, 3) := by decide +kernel
theorem dX6_count_84 : decode cX6_count 84 = .ok (.getfield 112, 3) := by decide +kernel
theorem dX6_count_87 : decode cX6_count 87 = .ok (.ireturn, 1) := by decide +kernel
theorem dX6_count_88 : decode cX6_count 88 = .ok (.aload_n 0, 1) := by decide +kernel
theorem dX6_count_89 : decode cX6_count 89 = .ok (.getfield 18, 3) := by decide +kernel
theorem dX6_count_92 : decode cX6_count 92 = .ok (.getfield 134, 3) := by decide +kernel
theorem dX6_count_95 : decode cX6_count 95 = .ok (.ireturn, 1) := by decide +kernel
theorem dX6_count_96 : decode cX6_count 96 = .ok (.aload_n 0, 1) := by decide +kernel
theorem dX6_count_97 : decode cX6_count 97 = .ok (.getfield 25, 3) := by decide +kernel
theorem dX6_count_100 : decode cX6_count 100 = .ok (.getfield 212, 3) := by decide +kernel
theorem dX6_count_103 : decode cX6_count 103 = .ok (.ireturn, 1) := by decide +kernel
theorem dX6_count_104 : decode cX6_count 104 = .ok (.aload_n 0, 1) := by decide +kernel
theorem dX6_count_105 : decode cX6_count 105 = .ok (.getfield 265, 3) := by decide +kernel
theorem dX6_count_108 : decode cX6_count 108 = .ok (.ireturn, 1) := by decide +kernel
theorem dX6_count_109 : decode cX6_count 109 = .ok (.aload_n 0, 1) := by decide +kernel
theorem dX6_count_110 : decode cX6_count 110 = .ok (.getfield 11, 3) := by decide +kernel
theorem dX6_count_113 : decode cX6_count 113 = .ok (.iload_n 1, 1) := by decide +kernel
theorem dX6_count_114 : decode cX6_count 114 = .ok (.iconst 3, 1) := by decide +kernel
theorem dX6_count_115 : decode cX6_count 115 = .ok (.isub, 1) := by decide +kernel
theorem dX6_count_116 : decode cX6_count 116 = .ok (.aaload, 1) := by decide +kernel
theorem dX6_count_117 : decode cX6_count 117 = .ok (.invokevirtual 80, 3) := by decide +kernel
theorem dX6_count_120 : decode cX6_count 120 = .ok (.ireturn, 1) := by decide +kernel
theorem dX6_digest_0 : decode cX6_digest 0 = .ok (.ldc2_w 268, 3) := by decide +kernel
theorem dX6_digest_3 : decode cX6_digest 3 = .ok (.lstore_n 1, 1) := by decide +kernel
theorem dX6_digest_4 : decode cX6_digest 4 = .ok (.iconst 0, 1) := by decide +kernel
theorem dX6_digest_5 : decode cX6_digest 5 = .ok (.istore_n 3, 1) := by decide +kernel
theorem dX6_digest_6 : decode cX6_digest 6 = .ok (.iload_n 3, 1) := by decide +kernel
theorem dX6_digest_7 : decode cX6_digest 7 = .ok (.bipush 8, 2) := by decide +kernel
theorem dX6_digest_9 : decode cX6_digest 9 = .ok (.if_icmp .ge 22, 3) := by decide +kernel
theorem dX6_digest_12 : decode cX6_digest 12 = .ok (.ldc2_w 270, 3) := by decide +kernel
theorem dX6_digest_15 : decode cX6_digest 15 = .ok (.lload_n 1, 1) := by decide +kernel
theorem dX6_digest_16 : decode cX6_digest 16 = .ok (.lmul, 1) := by decide +kernel
theorem dX6_digest_17 : decode cX6_digest 17 = .ok (.aload_n 0, 1) := by decide +kernel
theorem dX6_digest_18 : decode cX6_digest 18 = .ok (.iload_n 3, 1) := by decide +kernel
theorem dX6_digest_19 : decode cX6_digest 19 = .ok (.invokevirtual 272, 3) := by decide +kernel
theorem dX6_digest_22 : decode cX6_digest 22 = .ok (.i2l, 1) := by decide +kernel
theorem dX6_digest_23 : decode cX6_digest 23 = .ok (.ladd, 1) := by decide +kernel
theorem dX6_digest_24 : decode cX6_digest 24 = .ok (.lstore_n 1, 1) := by decide +kernel
theorem dX6_digest_25 : decode cX6_digest 25 = .ok (.iinc 3 1, 3) := by decide +kernel
theorem dX6_digest_28 : decode cX6_digest 28 = .ok (.goto (-22), 3) := by decide +kernel
theorem dX6_digest_31 : decode cX6_digest 31 = .ok (.iconst 0, 1) := by decide +kernel
theorem dX6_digest_32 : decode cX6_digest 32 = .ok (.istore_n 3, 1) := by decide +kernel
theorem dX6_digest_33 : decode cX6_digest 33 = .ok (.iload_n 3, 1) := by decide +kernel
theorem dX6_digest_34 : decode cX6_digest 34 = .ok (.iconst 3, 1) := by decide +kernel
theorem dX6_digest_35 : decode cX6_digest 35 = .ok (.if_icmp .ge 22, 3) := by decide +kernel
theorem dX6_digest_38 : decode cX6_digest 38 = .ok (.ldc2_w 270, 3) := by decide +kernel
theorem dX6_digest_41 : decode cX6_digest 41 = .ok (.lload_n 1, 1) := by decide +kernel
theorem dX6_digest_42 : decode cX6_digest 42 = .ok (.lmul, 1) := by decide +kernel
theorem dX6_digest_43 : decode cX6_digest 43 = .ok (.aload_n 0, 1) := by decide +kernel
theorem dX6_digest_44 : decode cX6_digest 44 = .ok (.iload_n 3, 1) := by decide +kernel
theorem dX6_digest_45 : decode cX6_digest 45 = .ok (.invokevirtual 275, 3) := by decide +kernel
theorem dX6_digest_48 : decode cX6_digest 48 = .ok (.i2l, 1) := by decide +kernel
theorem dX6_digest_49 : decode cX6_digest 49 = .ok (.ladd, 1) := by decide +kernel
theorem dX6_digest_50 : decode cX6_digest 50 = .ok (.lstore_n 1, 1) := by decide +kernel
theorem dX6_digest_51 : decode cX6_digest 51 = .ok (.iinc 3 1, 3) := by decide +kernel
theorem dX6_digest_54 : decode cX6_digest 54 = .ok (.goto (-21), 3) := by decide +kernel
theorem dX6_digest_57 : decode cX6_digest 57 = .ok (.iconst 0, 1) := by decide +kernel
theorem dX6_digest_58 : decode cX6_digest 58 = .ok (.istore_n 3, 1) := by decide +kernel
theorem dX6_digest_59 : decode cX6_digest 59 = .ok (.iload_n 3, 1) := by decide +kernel
theorem dX6_digest_60 : decode cX6_digest 60 = .ok (.bipush 12, 2) := by decide +kernel
theorem dX6_digest_62 : decode cX6_digest 62 = .ok (.if_icmp .ge 39, 3) := by decide +kernel
theorem dX6_digest_65 : decode cX6_digest 65 = .ok (.iconst 0, 1) := by decide +kernel
theorem dX6_digest_66 : decode cX6_digest 66 = .ok (.istore 4, 2) := by decide +kernel
theorem dX6_digest_68 : decode cX6_digest 68 = .ok (.iload 4, 2) := by decide +kernel
theorem dX6_digest_70 : decode cX6_digest 70 = .ok (.iconst 3, 1) := by decide +kernel
theorem dX6_digest_71 : decode cX6_digest 71 = .ok (.if_icmp .ge 24, 3) := by decide +kernel
theorem dX6_digest_74 : decode cX6_digest 74 = .ok (.ldc2_w 270, 3) := by decide +kernel
theorem dX6_digest_77 : decode cX6_digest 77 = .ok (.lload_n 1, 1) := by decide +kernel
theorem dX6_digest_78 : decode cX6_digest 78 = .ok (.lmul, 1) := by decide +kernel
theorem dX6_digest_79 : decode cX6_digest 79 = .ok (.aload_n 0, 1) := by decide +kernel
theorem dX6_digest_80 : decode cX6_digest 80 = .ok (.iload_n 3, 1) := by decide +kernel
theorem dX6_digest_81 : decode cX6_digest 81 = .ok (.iload 4, 2) := by decide +kernel
theorem dX6_digest_83 : decode cX6_digest 83 = .ok (.invokevirtual 278, 3) := by decide +kernel
theorem dX6_digest_86 : decode cX6_digest 86 = .ok (.i2l, 1) := by decide +kernel
theorem dX6_digest_87 : decode cX6_digest 87 = .ok (.ladd, 1) := by decide +kernel
theorem dX6_digest_88 : decode cX6_digest 88 = .ok (.lstore_n 1, 1) := by decide +kernel
theorem dX6_digest_89 : decode cX6_digest 89 = .ok (.iinc 4 1, 3) := by decide +kernel
theorem dX6_digest_92 : decode cX6_digest 92 = .ok (.goto (-24), 3) := by decide +kernel
theorem dX6_digest_95 : decode cX6_digest 95 = .ok (.iinc 3 1, 3) := by decide +kernel
theorem dX6_digest_98 : decode cX6_digest 98 = .ok (.goto (-39), 3) := by decide +kernel
theorem dX6_digest_101 : decode cX6_digest 101 = .ok (.iconst 0, 1) := by decide +kernel
theorem dX6_digest_102 : decode cX6_digest 102 = .ok (.istore_n 3, 1) := by decide +kernel
theorem dX6_digest_103 : decode cX6_digest 103 = .ok (.iload_n 3, 1) := by decide +kernel
theorem dX6_digest_104 : decode cX6_digest 104 = .ok (.aload_n 0, 1) := by decide +kernel
theorem dX6_digest_105 : decode cX6_digest 105 = .ok (.getfield 38, 3) := by decide +kernel
theorem dX6_digest_108 : decode cX6_digest 108 = .ok (.getfield 100, 3) := by decide +kernel
theorem dX6_digest_111 : decode cX6_digest 111 = .ok (.if_icmp .ge 16, 3) := by decide +kernel
theorem dX6_digest_114 : decode cX6_digest 114 = .ok (.aload_n 0, 1) := by decide +kernel
theorem dX6_digest_115 : decode cX6_digest 115 = .ok (.lload_n 1, 1) := by decide +kernel
theorem dX6_digest_116 : decode cX6_digest 116 = .ok (.iload_n 3, 1) := by decide +kernel
theorem dX6_digest_117 : decode cX6_digest 117 = .ok (.invokevirtual 281, 3) := by decide +kernel
theorem dX6_digest_120 : decode cX6_digest 120 = .ok (.lstore_n 1, 1) := by decide +kernel
theorem dX6_digest_121 : decode cX6_digest 121 = .ok (.iinc 3 1, 3) := by decide +kernel
theorem dX6_digest_124 : decode cX6_digest 124 = .ok (.goto (-21), 3) := by decide +kernel
theorem dX6_digest_127 : decode cX6_digest 127 = .ok (.iconst 0, 1) := by decide +kernel
theorem dX6_digest_128 : decode cX6_digest 128 = .ok (.istore_n 3, 1) := by decide +kernel
theorem dX6_digest_129 : decode cX6_digest 129 = .ok (.iload_n 3, 1) := by decide +kernel
theorem dX6_digest_130 : decode cX6_digest 130 = .ok (.aload_n 0, 1) := by decide +kernel
theorem dX6_digest_131 : decode cX6_digest 131 = .ok (.getfield 38, 3) := by decide +kernel
theorem dX6_digest_134 : decode cX6_digest 134 = .ok (.getfield 90, 3) := by decide +kernel
theorem dX6_digest_137 : decode cX6_digest 137 = .ok (.if_icmp .ge 16, 3) := by decide +kernel
theorem dX6_digest_140 : decode cX6_digest 140 = .ok (.aload_n 0, 1) := by decide +kernel
theorem dX6_digest_141 : decode cX6_digest 141 = .ok (.lload_n 1, 1) := by decide +kernel
theorem dX6_digest_142 : decode cX6_digest 142 = .ok (.iload_n 3, 1) := by decide +kernel
theorem dX6_digest_143 : decode cX6_digest 143 = .ok (.invokevirtual 284, 3) := by decide +kernel
theorem dX6_digest_146 : decode cX6_digest 146 = .ok (.lstore_n 1, 1) := by decide +kernel
theorem dX6_digest_147 : decode cX6_digest 147 = .ok (.iinc 3 1, 3) := by decide +kernel
theorem dX6_digest_150 : decode cX6_digest 150 = .ok (.goto (-21), 3) := by decide +kernel
theorem dX6_digest_153 : decode cX6_digest 153 = .ok (.iconst 0, 1) := by decide +kernel
theorem dX6_digest_154 : decode cX6_digest 154 = .ok (.istore_n 3, 1) := by decide +kernel
theorem dX6_digest_155 : decode cX6_digest 155 = .ok (.iload_n 3, 1) := by decide +kernel
theorem dX6_digest_156 : decode cX6_digest 156 = .ok (.bipush 24, 2) := by decide +kernel
theorem dX6_digest_158 : decode cX6_digest 158 = .ok (.if_icmp .ge 50, 3) := by decide +kernel
theorem dX6_digest_161 : decode cX6_digest 161 = .ok (.ldc2_w 270, 3) := by decide +kernel
theorem dX6_digest_164 : decode cX6_digest 164 = .ok (.lload_n 1, 1) := by decide +kernel
theorem dX6_digest_165 : decode cX6_digest 165 = .ok (.lmul, 1) := by decide +kernel
theorem dX6_digest_166 : decode cX6_digest 166 = .ok (.aload_n 0, 1) := by decide +kernel
theorem dX6_digest_167 : decode cX6_digest 167 = .ok (.iload_n 3, 1) := by decide +kernel
theorem dX6_digest_168 : decode cX6_digest 168 = .ok (.invokevirtual 287, 3) := by decide +kernel
theorem dX6_digest_171 : decode cX6_digest 171 = .ok (.i2l, 1) := by decide +kernel
theorem dX6_digest_172 : decode cX6_digest 172 = .ok (.ladd, 1) := by decide +kernel
theorem dX6_digest_173 : decode cX6_digest 173 = .ok (.lstore_n 1, 1) := by decide +kernel
theorem dX6_digest_174 : decode cX6_digest 174 = .ok (.ldc2_w 270, 3) := by decide +kernel
theorem dX6_digest_177 : decode cX6_digest 177 = .ok (.lload_n 1, 1) := by decide +kernel
theorem dX6_digest_178 : decode cX6_digest 178 = .ok (.lmul, 1) := by decide +kernel
theorem dX6_digest_179 : decode cX6_digest 179 = .ok (.aload_n 0, 1) := by decide +kernel
theorem dX6_digest_180 : decode cX6_digest 180 = .ok (.iload_n 3, 1) := by decide +kernel
theorem dX6_digest_181 : decode cX6_digest 181 = .ok (.iconst 0, 1) := by decide +kernel
theorem dX6_digest_182 : decode cX6_digest 182 = .ok (.invokevirtual 290, 3) := by decide +kernel
theorem dX6_digest_185 : decode cX6_digest 185 = .ok (.i2l, 1) := by decide +kernel
theorem dX6_digest_186 : decode cX6_digest 186 = .ok (.ladd, 1) := by decide +kernel
theorem dX6_digest_187 : decode cX6_digest 187 = .ok (.lstore_n 1, 1) := by decide +kernel
theorem dX6_digest_188 : decode cX6_digest 188 = .ok (.ldc2_w 270, 3) := by decide +kernel
theorem dX6_digest_191 : decode cX6_digest 191 = .ok (.lload_n 1, 1) := by decide +kernel
theorem dX6_digest_192 : decode cX6_digest 192 = .ok (.lmul, 1) := by decide +kernel
theorem dX6_digest_193 : decode cX6_digest 193 = .ok (.aload_n 0, 1) := by decide +kernel
theorem dX6_digest_194 : decode cX6_digest 194 = .ok (.iload_n 3, 1) := by decide +kernel
theorem dX6_digest_195 : decode cX6_digest 195 = .ok (.iconst 1, 1) := by decide +kernel
theorem dX6_digest_196 : decode cX6_digest 196 = .ok (.invokevirtual 290, 3) := by decide +kernel
theorem dX6_digest_199 : decode cX6_digest 199 = .ok (.i2l, 1) := by decide +kernel
theorem dX6_digest_200 : decode cX6_digest 200 = .ok (.ladd, 1) := by decide +kernel
theorem dX6_digest_201 : decode cX6_digest 201 = .ok (.lstore_n 1, 1) := by decide +kernel
theorem dX6_digest_202 : decode cX6_digest 202 = .ok (.iinc 3 1, 3) := by decide +kernel
theorem dX6_digest_205 : decode cX6_digest 205 = .ok (.goto (-50), 3) := by decide +kernel
theorem dX6_digest_208 : decode cX6_digest 208 = .ok (.ldc2_w 270, 3) := by decide +kernel
theorem dX6_digest_211 : decode cX6_digest 211 = .ok (.lload_n 1, 1) := by decide +kernel
theorem dX6_digest_212 : decode cX6_digest 212 = .ok (.lmul, 1) := by decide +kernel
theorem dX6_digest_213 : decode cX6_digest 213 = .ok (.aload_n 0, 1) := by decide +kernel
theorem dX6_digest_214 : decode cX6_digest 214 = .ok (.invokevirtual 293, 3) := by decide +kernel
theorem dX6_digest_217 : decode cX6_digest 217 = .ok (.i2l, 1) := by decide +kernel
theorem dX6_digest_218 : decode cX6_digest 218 = .ok (.ladd, 1) := by decide +kernel
theorem dX6_digest_219 : decode cX6_digest 219 = .ok (.lstore_n 1, 1) := by decide +kernel
theorem dX6_digest_220 : decode cX6_digest 220 = .ok (.iconst 0, 1) := by decide +kernel
theorem dX6_digest_221 : decode cX6_digest 221 = .ok (.istore_n 3, 1) := by decide +kernel
theorem dX6_digest_222 : decode cX6_digest 222 = .ok (.iload_n 3, 1) := by decide +kernel
theorem dX6_digest_223 : decode cX6_digest 223 = .ok (.iconst 3, 1) := by decide +kernel
theorem dX6_digest_224 : decode cX6_digest 224 = .ok (.if_icmp .ge 24, 3) := by decide +kernel
theorem dX6_digest_227 : decode cX6_digest 227 = .ok (.ldc2_w 270, 3) := by decide +kernel
theorem dX6_digest_230 : decode cX6_digest 230 = .ok (.lload_n 1, 1) := by decide +kernel
theorem dX6_digest_231 : decode cX6_digest 231 = .ok (.lmul, 1) := by decide +kernel
theorem dX6_digest_232 : decode cX6_digest 232 = .ok (.aload_n 0, 1) := by decide +kernel
theorem dX6_digest_233 : decode cX6_digest 233 = .ok (.bipush 8, 2) := by decide +kernel
theorem dX6_digest_235 : decode cX6_digest 235 = .ok (.iload_n 3, 1) := by decide +kernel
theorem dX6_digest_236 : decode cX6_digest 236 = .ok (.invokevirtual 296, 3) := by decide +kernel
theorem dX6_digest_239 : decode cX6_digest 239 = .ok (.i2l, 1) := by decide +kernel
theorem dX6_digest_240 : decode cX6_digest 240 = .ok (.ladd, 1) := by decide +kernel
theorem dX6_digest_241 : decode cX6_digest 241 = .ok (.lstore_n 1, 1) := by decide +kernel
theorem dX6_digest_242 : decode cX6_digest 242 = .ok (.iinc 3 1, 3) := by decide +kernel
theorem dX6_digest_245 : decode cX6_digest 245 = .ok (.goto (-23), 3) := by decide +kernel
theorem dX6_digest_248 : decode cX6_digest 248 = .ok (.ldc2_w 270, 3) := by decide +kernel
theorem dX6_digest_251 : decode cX6_digest 251 = .ok (.lload_n 1, 1) := by decide +kernel
theorem dX6_digest_252 : decode cX6_digest 252 = .ok (.lmul, 1) := by decide +kernel
theorem dX6_digest_253 : decode cX6_digest 253 = .ok (.aload_n 0, 1) := by decide +kernel
theorem dX6_digest_254 : decode cX6_digest 254 = .ok (.iconst 0, 1) := by decide +kernel
theorem dX6_digest_255 : decode cX6_digest 255 = .ok (.invokevirtual 299, 3) := by decide +kernel
theorem dX6_digest_258 : decode cX6_digest 258 = .ok (.i2l, 1) := by decide +kernel
theorem dX6_digest_259 : decode cX6_digest 259 = .ok (.ladd, 1) := by decide +kernel
theorem dX6_digest_260 : decode cX6_digest 260 = .ok (.lstore_n 1, 1) := by decide +kernel
theorem dX6_digest_261 : decode cX6_digest 261 = .ok (.ldc2_w 270, 3) := by decide +kernel
theorem dX6_digest_264 : decode cX6_digest 264 = .ok (.lload_n 1, 1) := by decide +kernel
theorem dX6_digest_265 : decode cX6_digest 265 = .ok (.lmul, 1) := by decide +kernel
theorem dX6_digest_266 : decode cX6_digest 266 = .ok (.aload_n 0, 1) := by decide +kernel
theorem dX6_digest_267 : decode cX6_digest 267 = .ok (.iconst 1, 1) := by decide +kernel
theorem dX6_digest_268 : decode cX6_digest 268 = .ok (.invokevirtual 299, 3) := by decide +kernel
theorem dX6_digest_271 : decode cX6_digest 271 = .ok (.i2l, 1) := by decide +kernel
theorem dX6_digest_272 : decode cX6_digest 272 = .ok (.ladd, 1) := by decide +kernel
theorem dX6_digest_273 : decode cX6_digest 273 = .ok (.lstore_n 1, 1) := by decide +kernel
theorem dX6_digest_274 : decode cX6_digest 274 = .ok (.ldc2_w 270, 3) := by decide +kernel
theorem dX6_digest_277 : decode cX6_digest 277 = .ok (.lload_n 1, 1) := by decide +kernel
theorem dX6_digest_278 : decode cX6_digest 278 = .ok (.lmul, 1) := by decide +kernel
theorem dX6_digest_279 : decode cX6_digest 279 = .ok (.aload_n 0, 1) := by decide +kernel
theorem dX6_digest_280 : decode cX6_digest 280 = .ok (.iconst (-1), 1) := by decide +kernel
theorem dX6_digest_281 : decode cX6_digest 281 = .ok (.invokevirtual 302, 3) := by decide +kernel
theorem dX6_digest_284 : decode cX6_digest 284 = .ok (.i2l, 1) := by decide +kernel
theorem dX6_digest_285 : decode cX6_digest 285 = .ok (.ladd, 1) := by decide +kernel
theorem dX6_digest_286 : decode cX6_digest 286 = .ok (.lstore_n 1, 1) := by decide +kernel
theorem dX6_digest_287 : decode cX6_digest 287 = .ok (.ldc2_w 270, 3) := by decide +kernel
theorem dX6_digest_290 : decode cX6_digest 290 = .ok (.lload_n 1, 1) := by decide +kernel
theorem dX6_digest_291 : decode cX6_digest 291 = .ok (.lmul, 1) := by decide +kernel
theorem dX6_digest_292 : decode cX6_digest 292 = .ok (.aload_n 0, 1) := by decide +kernel
theorem dX6_digest_293 : decode cX6_digest 293 = .ok (.iconst 0, 1) := by decide +kernel
theorem dX6_digest_294 : decode cX6_digest 294 = .ok (.invokevirtual 302, 3) := by decide +kernel
theorem dX6_digest_297 : decode cX6_digest 297 = .ok (.i2l, 1) := by decide +kernel
theorem dX6_digest_298 : decode cX6_digest 298 = .ok (.ladd, 1) := by decide +kernel
theorem dX6_digest_299 : decode cX6_digest 299 = .ok (.lstore_n 1, 1) := by decide +kernel
theorem dX6_digest_300 : decode cX6_digest 300 = .ok (.ldc2_w 270, 3) := by decide +kernel
theorem dX6_digest_303 : decode cX6_digest 303 = .ok (.lload_n 1, 1) := by decide +kernel
theorem dX6_digest_304 : decode cX6_digest 304 = .ok (.lmul, 1) := by decide +kernel
theorem dX6_digest_305 : decode cX6_digest 305 = .ok (.aload_n 0, 1) := by decide +kernel
theorem dX6_digest_306 : decode cX6_digest 306 = .ok (.invokevirtual 305, 3) := by decide +kernel
theorem dX6_digest_309 : decode cX6_digest 309 = .ok (.i2l, 1) := by decide +kernel
theorem dX6_digest_310 : decode cX6_digest 310 = .ok (.ladd, 1) := by decide +kernel
theorem dX6_digest_311 : decode cX6_digest 311 = .ok (.lstore_n 1, 1) := by decide +kernel
theorem dX6_digest_312 : decode cX6_digest 312 = .ok (.ldc2_w 270, 3) := by decide +kernel
theorem dX6_digest_315 : decode cX6_digest 315 = .ok (.lload_n 1, 1) := by decide +kernel
theorem dX6_digest_316 : decode cX6_digest 316 = .ok (.lmul, 1) := by decide +kernel
theorem dX6_digest_317 : decode cX6_digest 317 = .ok (.aload_n 0, 1) := by decide +kernel
theorem dX6_digest_318 : decode cX6_digest 318 = .ok (.bipush 7, 2) := by decide +kernel
theorem dX6_digest_320 : decode cX6_digest 320 = .ok (.bipush 9, 2) := by decide +kernel
theorem dX6_digest_322 : decode cX6_digest 322 = .ok (.iconst 0, 1) := by decide +kernel
theorem dX6_digest_323 : decode cX6_digest 323 = .ok (.invokevirtual 308, 3) := by decide +kernel
theorem dX6_digest_326 : decode cX6_digest 326 = .ok (.i2l, 1) := by decide +kernel
theorem dX6_digest_327 : decode cX6_digest 327 = .ok (.ladd, 1) := by decide +kernel
theorem dX6_digest_328 : decode cX6_digest 328 = .ok (.lstore_n 1, 1) := by decide +kernel
theorem dX6_digest_329 : decode cX6_digest 329 = .ok (.ldc2_w 270, 3) := by decide +kernel
theorem dX6_digest_332 : decode cX6_digest 332 = .ok (.lload_n 1, 1) := by decide +kernel
theorem dX6_digest_333 : decode cX6_digest 333 = .ok (.lmul, 1) := by decide +kernel
theorem dX6_digest_334 : decode cX6_digest 334 = .ok (.aload_n 0, 1) := by decide +kernel
theorem dX6_digest_335 : decode cX6_digest 335 = .ok (.bipush 7, 2) := by decide +kernel
theorem dX6_digest_337 : decode cX6_digest 337 = .ok (.bipush 9, 2) := by decide +kernel
theorem dX6_digest_339 : decode cX6_digest 339 = .ok (.iconst 1, 1) := by decide +kernel
theorem dX6_digest_340 : decode cX6_digest 340 = .ok (.invokevirtual 308, 3) := by decide +kernel
theorem dX6_digest_343 : decode cX6_digest 343 = .ok (.i2l, 1) := by decide +kernel
theorem dX6_digest_344 : decode cX6_digest 344 = .ok (.ladd, 1) := by decide +kernel
theorem dX6_digest_345 : decode cX6_digest 345 = .ok (.lreturn, 1) := by decide +kernel
theorem dX6_digestWord_0 : decode cX6_digestWord 0 = .ok (.lload_n 1, 1) := by decide +kernel
theorem dX6_digestWord_1 : decode cX6_digestWord 1 = .ok (.lstore 4, 2) := by decide +kernel
theorem dX6_digestWord_3 : decode cX6_digestWord 3 = .ok (.iconst 0, 1) := by decide +kernel
theorem dX6_digestWord_4 : decode cX6_digestWord 4 = .ok (.istore 6, 2) := by decide +kernel
theorem dX6_digestWord_6 : decode cX6_digestWord 6 = .ok (.iload 6, 2) := by decide +kernel
theorem dX6_digestWord_8 : decode cX6_digestWord 8 = .ok (.iconst 3, 1) := by decide +kernel
theorem dX6_digestWord_9 : decode cX6_digestWord 9 = .ok (.if_icmp .ge 26, 3) := by decide +kernel
theorem dX6_digestWord_12 : decode cX6_digestWord 12 = .ok (.ldc2_w 270, 3) := by decide +kernel
theorem dX6_digestWord_15 : decode cX6_digestWord 15 = .ok (.lload 4, 2) := by decide +kernel
theorem dX6_digestWord_17 : decode cX6_digestWord 17 = .ok (.lmul, 1) := by decide +kernel
theorem dX6_digestWord_18 : decode cX6_digestWord 18 = .ok (.aload_n 0, 1) := by decide +kernel
theorem dX6_digestWord_19 : decode cX6_digestWord 19 = .ok (.iload_n 3, 1) := by decide +kernel
theorem dX6_digestWord_20 : decode cX6_digestWord 20 = .ok (.iload 6, 2) := by decide +kernel
theorem dX6_digestWord_22 : decode cX6_digestWord 22 = .ok (.invokevirtual 312, 3) := by decide +kernel
theorem dX6_digestWord_25 : decode cX6_digestWord 25 = .ok (.i2l, 1) := by decide +kernel
theorem dX6_digestWord_26 : decode cX6_digestWord 26 = .ok (.ladd, 1) := by decide +kernel
theorem dX6_digestWord_27 : decode cX6_digestWord 27 = .ok (.lstore 4, 2) := by decide +kernel
theorem dX6_digestWord_29 : decode cX6_digestWord 29 = .ok (.iinc 6 1, 3) := by decide +kernel
theorem dX6_digestWord_32 : decode cX6_digestWord 32 = .ok (.goto (-26), 3) := by decide +kernel
theorem dX6_digestWord_35 : decode cX6_digestWord 35 = .ok (.getstatic 315, 3) := by decide +kernel
theorem dX6_digestWord_38 : decode cX6_digestWord 38 = .ok (.astore 6, 2) := by decide +kernel
theorem dX6_digestWord_40 : decode cX6_digestWord 40 = .ok (.aload 6, 2) := by decide +kernel
theorem dX6_digestWord_42 : decode cX6_digestWord 42 = .ok (.arraylength, 1) := by decide +kernel
theorem dX6_digestWord_43 : decode cX6_digestWord 43 = .ok (.istore 7, 2) := by decide +kernel
theorem dX6_digestWord_45 : decode cX6_digestWord 45 = .ok (.iconst 0, 1) := by decide +kernel
theorem dX6_digestWord_46 : decode cX6_digestWord 46 = .ok (.istore 8, 2) := by decide +kernel
theorem dX6_digestWord_48 : decode cX6_digestWord 48 = .ok (.iload 8, 2) := by decide +kernel
theorem dX6_digestWord_50 : decode cX6_digestWord 50 = .ok (.iload 7, 2) := by decide +kernel
theorem dX6_digestWord_52 : decode cX6_digestWord 52 = .ok (.if_icmp .ge 52, 3) := by decide +kernel
theorem dX6_digestWord_55 : decode cX6_digestWord 55 = .ok (.aload 6, 2) := by decide +kernel
theorem dX6_digestWord_57 : decode cX6_digestWord 57 = .ok (.iload 8, 2) := by decide +kernel
theorem dX6_digestWord_59 : decode cX6_digestWord 59 = .ok (.iaload, 1) := by decide +kernel
theorem dX6_digestWord_60 : decode cX6_digestWord 60 = .ok (.istore 9, 2) := by decide +kernel
theorem dX6_digestWord_62 : decode cX6_digestWord 62 = .ok (.ldc2_w 270, 3) := by decide +kernel
theorem dX6_digestWord_65 : decode cX6_digestWord 65 = .ok (.lload 4, 2) := by decide +kernel
theorem dX6_digestWord_67 : decode cX6_digestWord 67 = .ok (.lmul, 1) := by decide +kernel
theorem dX6_digestWord_68 : decode cX6_digestWord 68 = .ok (.aload_n 0, 1) := by decide +kernel
theorem dX6_digestWord_69 : decode cX6_digestWord 69 = .ok (.iload 9, 2) := by decide +kernel
theorem dX6_digestWord_71 : decode cX6_digestWord 71 = .ok (.iload_n 3, 1) := by decide +kernel
theorem dX6_digestWord_72 : decode cX6_digestWord 72 = .ok (.iconst 0, 1) := by decide +kernel
theorem dX6_digestWord_73 : decode cX6_digestWord 73 = .ok (.invokevirtual 318, 3) := by decide +kernel
theorem dX6_digestWord_76 : decode cX6_digestWord 76 = .ok (.i2l, 1) := by decide +kernel
theorem dX6_digestWord_77 : decode cX6_digestWord 77 = .ok (.ladd, 1) := by decide +kernel
theorem dX6_digestWord_78 : decode cX6_digestWord 78 = .ok (.lstore 4, 2) := by decide +kernel
theorem dX6_digestWord_80 : decode cX6_digestWord 80 = .ok (.ldc2_w 270, 3) := by decide +kernel
theorem dX6_digestWord_83 : decode cX6_digestWord 83 = .ok (.lload 4, 2) := by decide +kernel
theorem dX6_digestWord_85 : decode cX6_digestWord 85 = .ok (.lmul, 1) := by decide +kernel
theorem dX6_digestWord_86 : decode cX6_digestWord 86 = .ok (.aload_n 0, 1) := by decide +kernel
theorem dX6_digestWord_87 : decode cX6_digestWord 87 = .ok (.iload 9, 2) := by decide +kernel
theorem dX6_digestWord_89 : decode cX6_digestWord 89 = .ok (.iload_n 3, 1) := by decide +kernel
theorem dX6_digestWord_90 : decode cX6_digestWord 90 = .ok (.iconst 1, 1) := by decide +kernel
theorem dX6_digestWord_91 : decode cX6_digestWord 91 = .ok (.invokevirtual 318, 3) := by decide +kernel
theorem dX6_digestWord_94 : decode cX6_digestWord 94 = .ok (.i2l, 1) := by decide +kernel
theorem dX6_digestWord_95 : decode cX6_digestWord 95 = .ok (.ladd, 1) := by decide +kernel
theorem dX6_digestWord_96 : decode cX6_digestWord 96 = .ok (.lstore 4, 2) := by decide +kernel
theorem dX6_digestWord_98 : decode cX6_digestWord 98 = .ok (.iinc 8 1, 3) := by decide +kernel
theorem dX6_digestWord_101 : decode cX6_digestWord 101 = .ok (.goto (-53), 3) := by decide +kernel
theorem dX6_digestWord_104 : decode cX6_digestWord 104 = .ok (.ldc2_w 270, 3) := by decide +kernel
theorem dX6_digestWord_107 : decode cX6_digestWord 107 = .ok (.lload 4, 2) := by decide +kernel
theorem dX6_digestWord_109 : decode cX6_digestWord 109 = .ok (.lmul, 1) := by decide +kernel
theorem dX6_digestWord_110 : decode cX6_digestWord 110 = .ok (.aload_n 0, 1) := by decide +kernel
theorem dX6_digestWord_111 : decode cX6_digestWord 111 = .ok (.iload_n 3, 1) := by decide +kernel
theorem dX6_digestWord_112 : decode cX6_digestWord 112 = .ok (.invokevirtual 321, 3) := by decide +kernel
theorem dX6_digestWord_115 : decode cX6_digestWord 115 = .ok (.i2l, 1) := by decide +kernel
theorem dX6_digestWord_116 : decode cX6_digestWord 116 = .ok (.ladd, 1) := by decide +kernel
theorem dX6_digestWord_117 : decode cX6_digestWord 117 = .ok (.lstore 4, 2) := by decide +kernel
theorem dX6_digestWord_119 : decode cX6_digestWord 119 = .ok (.ldc2_w 270, 3) := by decide +kernel
theorem dX6_digestWord_122 : decode cX6_digestWord 122 = .ok (.lload 4, 2) := by decide +kernel
theorem dX6_digestWord_124 : decode cX6_digestWord 124 = .ok (.lmul, 1) := by decide +kernel
theorem dX6_digestWord_125 : decode cX6_digestWord 125 = .ok (.aload_n 0, 1) := by decide +kernel
theorem dX6_digestWord_126 : decode cX6_digestWord 126 = .ok (.iload_n 3, 1) := by decide +kernel
theorem dX6_digestWord_127 : decode cX6_digestWord 127 = .ok (.invokevirtual 324, 3) := by decide +kernel
theorem dX6_digestWord_130 : decode cX6_digestWord 130 = .ok (.i2l, 1) := by decide +kernel
theorem dX6_digestWord_131 : decode cX6_digestWord 131 = .ok (.ladd, 1) := by decide +kernel
theorem dX6_digestWord_132 : decode cX6_digestWord 132 = .ok (.lstore 4, 2) := by decide +kernel
theorem dX6_digestWord_134 : decode cX6_digestWord 134 = .ok (.ldc2_w 270, 3) := by decide +kernel
theorem dX6_digestWord_137 : decode cX6_digestWord 137 = .ok (.lload 4, 2) := by decide +kernel
theorem dX6_digestWord_139 : decode cX6_digestWord 139 = .ok (.lmul, 1) := by decide +kernel
theorem dX6_digestWord_140 : decode cX6_digestWord 140 = .ok (.aload_n 0, 1) := by decide +kernel
theorem dX6_digestWord_141 : decode cX6_digestWord 141 = .ok (.iconst 5, 1) := by decide +kernel
theorem dX6_digestWord_142 : decode cX6_digestWord 142 = .ok (.iload_n 3, 1) := by decide +kernel
theorem dX6_digestWord_143 : decode cX6_digestWord 143 = .ok (.iconst 0, 1) := by decide +kernel
theorem dX6_digestWord_144 : decode cX6_digestWord 144 = .ok (.invokevirtual 327, 3) := by decide +kernel
theorem dX6_digestWord_147 : decode cX6_digestWord 147 = .ok (.ladd, 1) := by decide +kernel
theorem dX6_digestWord_148 : decode cX6_digestWord 148 = .ok (.lstore 4, 2) := by decide +kernel
theorem dX6_digestWord_150 : decode cX6_digestWord 150 = .ok (.ldc2_w 270, 3) := by decide +kernel
theorem dX6_digestWord_153 : decode cX6_digestWord 153 = .ok (.lload 4, 2) := by decide +kernel
theorem dX6_digestWord_155 : decode cX6_digestWord 155 = .ok (.lmul, 1) := by decide +kernel
theorem dX6_digestWord_156 : decode cX6_digestWord 156 = .ok (.aload_n 0, 1) := by decide +kernel
theorem dX6_digestWord_157 : decode cX6_digestWord 157 = .ok (.iconst 5, 1) := by decide +kernel
theorem dX6_digestWord_158 : decode cX6_digestWord 158 = .ok (.iload_n 3, 1) := by decide +kernel
theorem dX6_digestWord_159 : decode cX6_digestWord 159 = .ok (.iconst 1, 1) := by decide +kernel
theorem dX6_digestWord_160 : decode cX6_digestWord 160 = .ok (.invokevirtual 327, 3) := by decide +kernel
theorem dX6_digestWord_163 : decode cX6_digestWord 163 = .ok (.ladd, 1) := by decide +kernel
theorem dX6_digestWord_164 : decode cX6_digestWord 164 = .ok (.lreturn, 1) := by decide +kernel
theorem dX6_digestPerson_0 : decode cX6_digestPerson 0 = .ok (.ldc2_w 270, 3) := by decide +kernel
theorem dX6_digestPerson_3 : decode cX6_digestPerson 3 = .ok (.lload_n 1, 1) := by decide +kernel
theorem dX6_digestPerson_4 : decode cX6_digestPerson 4 = .ok (.lmul, 1) := by decide +kernel
theorem dX6_digestPerson_5 : decode cX6_digestPerson 5 = .ok (.aload_n 0, 1) := by decide +kernel
theorem dX6_digestPerson_6 : decode cX6_digestPerson 6 = .ok (.iload_n 3, 1) := by decide +kernel
theorem dX6_digestPerson_7 : decode cX6_digestPerson 7 = .ok (.iconst 0, 1) := by decide +kernel
theorem dX6_digestPerson_8 : decode cX6_digestPerson 8 = .ok (.invokevirtual 331, 3) := by decide +kernel
theorem dX6_digestPerson_11 : decode cX6_digestPerson 11 = .ok (.i2l, 1) := by decide +kernel
theorem dX6_digestPerson_12 : decode cX6_digestPerson 12 = .ok (.ladd, 1) := by decide +kernel
theorem dX6_digestPerson_13 : decode cX6_digestPerson 13 = .ok (.lstore 4, 2) := by decide +kernel
theorem dX6_digestPerson_15 : decode cX6_digestPerson 15 = .ok (.ldc2_w 270, 3) := by decide +kernel
theorem dX6_digestPerson_18 : decode cX6_digestPerson 18 = .ok (.lload 4, 2) := by decide +kernel
theorem dX6_digestPerson_20 : decode cX6_digestPerson 20 = .ok (.lmul, 1) := by decide +kernel
theorem dX6_digestPerson_21 : decode cX6_digestPerson 21 = .ok (.aload_n 0, 1) := by decide +kernel
theorem dX6_digestPerson_22 : decode cX6_digestPerson 22 = .ok (.iload_n 3, 1) := by decide +kernel
theorem dX6_digestPerson_23 : decode cX6_digestPerson 23 = .ok (.iconst 1, 1) := by decide +kernel
theorem dX6_digestPerson_24 : decode cX6_digestPerson 24 = .ok (.invokevirtual 331, 3) := by decide +kernel
theorem dX6_digestPerson_27 : decode cX6_digestPerson 27 = .ok (.i2l, 1) := by decide +kernel
theorem dX6_digestPerson_28 : decode cX6_digestPerson 28 = .ok (.ladd, 1) := by decide +kernel
theorem dX6_digestPerson_29 : decode cX6_digestPerson 29 = .ok (.lstore 4, 2) := by decide +kernel
theorem dX6_digestPerson_31 : decode cX6_digestPerson 31 = .ok (.iconst 0, 1) := by decide +kernel
theorem dX6_digestPerson_32 : decode cX6_digestPerson 32 = .ok (.istore 6, 2) := by decide +kernel
theorem dX6_digestPerson_34 : decode cX6_digestPerson 34 = .ok (.iload 6, 2) := by decide +kernel
theorem dX6_digestPerson_36 : decode cX6_digestPerson 36 = .ok (.iconst 4, 1) := by decide +kernel
theorem dX6_digestPerson_37 : decode cX6_digestPerson 37 = .ok (.if_icmp .ge 28, 3) := by decide +kernel
theorem dX6_digestPerson_40 : decode cX6_digestPerson 40 = .ok (.ldc2_w 270, 3) := by decide +kernel
theorem dX6_digestPerson_43 : decode cX6_digestPerson 43 = .ok (.lload 4, 2) := by decide +kernel
theorem dX6_digestPerson_45 : decode cX6_digestPerson 45 = .ok (.lmul, 1) := by decide +kernel
theorem dX6_digestPerson_46 : decode cX6_digestPerson 46 = .ok (.aload_n 0, 1) := by decide +kernel
theorem dX6_digestPerson_47 : decode cX6_digestPerson 47 = .ok (.bipush 6, 2) := by decide +kernel
theorem dX6_digestPerson_49 : decode cX6_digestPerson 49 = .ok (.iload_n 3, 1) := by decide +kernel
theorem dX6_digestPerson_50 : decode cX6_digestPerson 50 = .ok (.iload 6, 2) := by decide +kernel
theorem dX6_digestPerson_52 : decode cX6_digestPerson 52 = .ok (.invokevirtual 334, 3) := by decide +kernel
theorem dX6_digestPerson_55 : decode cX6_digestPerson 55 = .ok (.i2l, 1) := by decide +kernel
theorem dX6_digestPerson_56 : decode cX6_digestPerson 56 = .ok (.ladd, 1) := by decide +kernel
theorem dX6_digestPerson_57 : decode cX6_digestPerson 57 = .ok (.lstore 4, 2) := by decide +kernel
theorem dX6_digestPerson_59 : decode cX6_digestPerson 59 = .ok (.iinc 6 1, 3) := by decide +kernel
theorem dX6_digestPerson_62 : decode cX6_digestPerson 62 = .ok (.goto (-28), 3) := by decide +kernel
theorem dX6_digestPerson_65 : decode cX6_digestPerson 65 = .ok (.iconst 0, 1) := by decide +kernel
theorem dX6_digestPerson_66 : decode cX6_digestPerson 66 = .ok (.istore 6, 2) := by decide +kernel
theorem dX6_digestPerson_68 : decode cX6_digestPerson 68 = .ok (.iload 6, 2) := by decide +kernel
theorem dX6_digestPerson_70 : decode cX6_digestPerson 70 = .ok (.iconst 4, 1) := by decide +kernel
theorem dX6_digestPerson_71 : decode cX6_digestPerson 71 = .ok (.if_icmp .ge 28, 3) := by decide +kernel
theorem dX6_digestPerson_74 : decode cX6_digestPerson 74 = .ok (.ldc2_w 270, 3) := by decide +kernel
theorem dX6_digestPerson_77 : decode cX6_digestPerson 77 = .ok (.lload 4, 2) := by decide +kernel
theorem dX6_digestPerson_79 : decode cX6_digestPerson 79 = .ok (.lmul, 1) := by decide +kernel
theorem dX6_digestPerson_80 : decode cX6_digestPerson 80 = .ok (.aload_n 0, 1) := by decide +kernel
theorem dX6_digestPerson_81 : decode cX6_digestPerson 81 = .ok (.bipush 23, 2) := by decide +kernel
theorem dX6_digestPerson_83 : decode cX6_digestPerson 83 = .ok (.iload_n 3, 1) := by decide +kernel
theorem dX6_digestPerson_84 : decode cX6_digestPerson 84 = .ok (.iload 6, 2) := by decide +kernel
theorem dX6_digestPerson_86 : decode cX6_digestPerson 86 = .ok (.invokevirtual 334, 3) := by decide +kernel
theorem dX6_digestPerson_89 : decode cX6_digestPerson 89 = .ok (.i2l, 1) := by decide +kernel
theorem dX6_digestPerson_90 : decode cX6_digestPerson 90 = .ok (.ladd, 1) := by decide +kernel
theorem dX6_digestPerson_91 : decode cX6_digestPerson 91 = .ok (.lstore 4, 2) := by decide +kernel
theorem dX6_digestPerson_93 : decode cX6_digestPerson 93 = .ok (.iinc 6 1, 3) := by decide +kernel
theorem dX6_digestPerson_96 : decode cX6_digestPerson 96 = .ok (.goto (-28), 3) := by decide +kernel
theorem dX6_digestPerson_99 : decode cX6_digestPerson 99 = .ok (.ldc2_w 270, 3) := by decide +kernel
theorem dX6_digestPerson_102 : decode cX6_digestPerson 102 = .ok (.lload 4, 2) := by decide +kernel
theorem dX6_digestPerson_104 : decode cX6_digestPerson 104 = .ok (.lmul, 1) := by decide +kernel
theorem dX6_digestPerson_105 : decode cX6_digestPerson 105 = .ok (.aload_n 0, 1) := by decide +kernel
theorem dX6_digestPerson_106 : decode cX6_digestPerson 106 = .ok (.iload_n 3, 1) := by decide +kernel
theorem dX6_digestPerson_107 : decode cX6_digestPerson 107 = .ok (.invokevirtual 337, 3) := by decide +kernel
theorem dX6_digestPerson_110 : decode cX6_digestPerson 110 = .ok (.i2l, 1) := by decide +kernel
theorem dX6_digestPerson_111 : decode cX6_digestPerson 111 = .ok (.ladd, 1) := by decide +kernel
theorem dX6_digestPerson_112 : decode cX6_digestPerson 112 = .ok (.lstore 4, 2) := by decide +kernel
theorem dX6_digestPerson_114 : decode cX6_digestPerson 114 = .ok (.ldc2_w 270, 3) := by decide +kernel
theorem dX6_digestPerson_117 : decode cX6_digestPerson 117 = .ok (.lload 4, 2) := by decide +kernel
theorem dX6_digestPerson_119 : decode cX6_digestPerson 119 = .ok (.lmul, 1) := by decide +kernel
theorem dX6_digestPerson_120 : decode cX6_digestPerson 120 = .ok (.aload_n 0, 1) := by decide +kernel
theorem dX6_digestPerson_121 : decode cX6_digestPerson 121 = .ok (.iload_n 3, 1) := by decide +kernel
theorem dX6_digestPerson_122 : decode cX6_digestPerson 122 = .ok (.invokevirtual 340, 3) := by decide +kernel
theorem dX6_digestPerson_125 : decode cX6_digestPerson 125 = .ok (.i2l, 1) := by decide +kernel
theorem dX6_digestPerson_126 : decode cX6_digestPerson 126 = .ok (.ladd, 1) := by decide +kernel
theorem dX6_digestPerson_127 : decode cX6_digestPerson 127 = .ok (.lstore 4, 2) := by decide +kernel
theorem dX6_digestPerson_129 : decode cX6_digestPerson 129 = .ok (.ldc2_w 270, 3) := by decide +kernel
theorem dX6_digestPerson_132 : decode cX6_digestPerson 132 = .ok (.lload 4, 2) := by decide +kernel
theorem dX6_digestPerson_134 : decode cX6_digestPerson 134 = .ok (.lmul, 1) := by decide +kernel
theorem dX6_digestPerson_135 : decode cX6_digestPerson 135 = .ok (.aload_n 0, 1) := by decide +kernel
theorem dX6_digestPerson_136 : decode cX6_digestPerson 136 = .ok (.iload_n 3, 1) := by decide +kernel
theorem dX6_digestPerson_137 : decode cX6_digestPerson 137 = .ok (.invokevirtual 343, 3) := by decide +kernel
theorem dX6_digestPerson_140 : decode cX6_digestPerson 140 = .ok (.i2l, 1) := by decide +kernel
theorem dX6_digestPerson_141 : decode cX6_digestPerson 141 = .ok (.ladd, 1) := by decide +kernel
theorem dX6_digestPerson_142 : decode cX6_digestPerson 142 = .ok (.lreturn, 1) := by decide +kernel
theorem dX6_tellAgain_0 : decode cX6_tellAgain 0 = .ok (.iload_n 1, 1) := by decide +kernel
theorem dX6_tellAgain_1 : decode cX6_tellAgain 1 = .ok (.ifCond .ne 19, 3) := by decide +kernel
theorem dX6_tellAgain_4 : decode cX6_tellAgain 4 = .ok (.aload_n 0, 1) := by decide +kernel
theorem dX6_tellAgain_5 : decode cX6_tellAgain 5 = .ok (.getfield 38, 3) := by decide +kernel
theorem dX6_tellAgain_8 : decode cX6_tellAgain 8 = .ok (.aload_n 0, 1) := by decide +kernel
theorem dX6_tellAgain_9 : decode cX6_tellAgain 9 = .ok (.getfield 11, 3) := by decide +kernel
theorem dX6_tellAgain_12 : decode cX6_tellAgain 12 = .ok (.iconst 0, 1) := by decide +kernel
theorem dX6_tellAgain_13 : decode cX6_tellAgain 13 = .ok (.aaload, 1) := by decide +kernel
theorem dX6_tellAgain_14 : decode cX6_tellAgain 14 = .ok (.invokevirtual 346, 3) := by decide +kernel
theorem dX6_tellAgain_17 : decode cX6_tellAgain 17 = .ok (.goto 37, 3) := by decide +kernel
theorem dX6_tellAgain_20 : decode cX6_tellAgain 20 = .ok (.iload_n 1, 1) := by decide +kernel
theorem dX6_tellAgain_21 : decode cX6_tellAgain 21 = .ok (.iconst 1, 1) := by decide +kernel
theorem dX6_tellAgain_22 : decode cX6_tellAgain 22 = .ok (.if_icmp .ne 19, 3) := by decide +kernel
theorem dX6_tellAgain_25 : decode cX6_tellAgain 25 = .ok (.aload_n 0, 1) := by decide +kernel
theorem dX6_tellAgain_26 : decode cX6_tellAgain 26 = .ok (.getfield 38, 3) := by decide +kernel
theorem dX6_tellAgain_29 : decode cX6_tellAgain 29 = .ok (.aload_n 0, 1) := by decide +kernel
theorem dX6_tellAgain_30 : decode cX6_tellAgain 30 = .ok (.getfield 11, 3) := by decide +kernel
theorem dX6_tellAgain_33 : decode cX6_tellAgain 33 = .ok (.iconst 1, 1) := by decide +kernel
theorem dX6_tellAgain_34 : decode cX6_tellAgain 34 = .ok (.aaload, 1) := by decide +kernel
theorem dX6_tellAgain_35 : decode cX6_tellAgain 35 = .ok (.invokevirtual 350, 3) := by decide +kernel
theorem dX6_tellAgain_38 : decode cX6_tellAgain 38 = .ok (.goto 16, 3) := by decide +kernel
theorem dX6_tellAgain_41 : decode cX6_tellAgain 41 = .ok (.aload_n 0, 1) := by decide +kernel
theorem dX6_tellAgain_42 : decode cX6_tellAgain 42 = .ok (.getfield 38, 3) := by decide +kernel
theorem dX6_tellAgain_45 : decode cX6_tellAgain 45 = .ok (.aload_n 0, 1) := by decide +kernel
theorem dX6_tellAgain_46 : decode cX6_tellAgain 46 = .ok (.getfield 11, 3) := by decide +kernel
theorem dX6_tellAgain_49 : decode cX6_tellAgain 49 = .ok (.iconst 2, 1) := by decide +kernel
theorem dX6_tellAgain_50 : decode cX6_tellAgain 50 = .ok (.aaload, 1) := by decide +kernel
theorem dX6_tellAgain_51 : decode cX6_tellAgain 51 = .ok (.invokevirtual 353, 3) := by decide +kernel
theorem dX6_tellAgain_54 : decode cX6_tellAgain 54 = .ok (.aload_n 0, 1) := by decide +kernel
theorem dX6_tellAgain_55 : decode cX6_tellAgain 55 = .ok (.invokevirtual 131, 3) := by decide +kernel
theorem dX6_tellAgain_58 : decode cX6_tellAgain 58 = .ok (.return_, 1) := by decide +kernel
theorem dX6_courseChanged_0 : decode cX6_courseChanged 0 = .ok (.aload_n 0, 1) := by decide +kernel
theorem dX6_courseChanged_1 : decode cX6_courseChanged 1 = .ok (.iconst 0, 1) := by decide +kernel
theorem dX6_courseChanged_2 : decode cX6_courseChanged 2 = .ok (.putfield 356, 3) := by decide +kernel
theorem dX6_courseChanged_5 : decode cX6_courseChanged 5 = .ok (.aload_n 0, 1) := by decide +kernel
theorem dX6_courseChanged_6 : decode cX6_courseChanged 6 = .ok (.iconst 0, 1) := by decide +kernel
theorem dX6_courseChanged_7 : decode cX6_courseChanged 7 = .ok (.putfield 360, 3) := by decide +kernel
theorem dX6_courseChanged_10 : decode cX6_courseChanged 10 = .ok (.return_, 1) := by decide +kernel
theorem dX6_learnCourse_0 : decode cX6_learnCourse 0 = .ok (.aload_n 0, 1) := by decide +kernel
theorem dX6_learnCourse_1 : decode cX6_learnCourse 1 = .ok (.getfield 356, 3) := by decide +kernel
theorem dX6_learnCourse_4 : decode cX6_learnCourse 4 = .ok (.ifCond .ne 30, 3) := by decide +kernel
theorem dX6_learnCourse_7 : decode cX6_learnCourse 7 = .ok (.aload_n 0, 1) := by decide +kernel
theorem dX6_learnCourse_8 : decode cX6_learnCourse 8 = .ok (.getfield 45, 3) := by decide +kernel
theorem dX6_learnCourse_11 : decode cX6_learnCourse 11 = .ok (.aload_n 0, 1) := by decide +kernel
theorem dX6_learnCourse_12 : decode cX6_learnCourse 12 = .ok (.getfield 38, 3) := by decide +kernel
theorem dX6_learnCourse_15 : decode cX6_learnCourse 15 = .ok (.aload_n 0, 1) := by decide +kernel
theorem dX6_learnCourse_16 : decode cX6_learnCourse 16 = .ok (.getfield 18, 3) := by decide +kernel
theorem dX6_learnCourse_19 : decode cX6_learnCourse 19 = .ok (.aload_n 0, 1) := by decide +kernel
theorem dX6_learnCourse_20 : decode cX6_learnCourse 20 = .ok (.getfield 18, 3) := by decide +kernel
theorem dX6_learnCourse_23 : decode cX6_learnCourse 23 = .ok (.invokevirtual 185, 3) := by decide +kernel
theorem dX6_learnCourse_26 : decode cX6_learnCourse 26 = .ok (.invokevirtual 188, 3) := by decide +kernel
theorem dX6_learnCourse_29 : decode cX6_learnCourse 29 = .ok (.aload_n 0, 1) := by decide +kernel
theorem dX6_learnCourse_30 : decode cX6_learnCourse 30 = .ok (.iconst 1, 1) := by decide +kernel
theorem dX6_learnCourse_31 : decode cX6_learnCourse 31 = .ok (.putfield 356, 3) := by decide +kernel
theorem dX6_learnCourse_34 : decode cX6_learnCourse 34 = .ok (.return_, 1) := by decide +kernel
theorem dX6_learnOdds_0 : decode cX6_learnOdds 0 = .ok (.aload_n 0, 1) := by decide +kernel
theorem dX6_learnOdds_1 : decode cX6_learnOdds 1 = .ok (.getfield 360, 3) := by decide +kernel
theorem dX6_learnOdds_4 : decode cX6_learnOdds 4 = .ok (.ifCond .eq 4, 3) := by decide +kernel
theorem dX6_learnOdds_7 : decode cX6_learnOdds 7 = .ok (.return_, 1) := by decide +kernel
theorem dX6_learnOdds_8 : decode cX6_learnOdds 8 = .ok (.iconst 0, 1) := by decide +kernel
theorem dX6_learnOdds_9 : decode cX6_learnOdds 9 = .ok (.istore_n 1, 1) := by decide +kernel
theorem dX6_learnOdds_10 : decode cX6_learnOdds 10 = .ok (.iload_n 1, 1) := by decide +kernel
theorem dX6_learnOdds_11 : decode cX6_learnOdds 11 = .ok (.aload_n 0, 1) := by decide +kernel
theorem dX6_learnOdds_12 : decode cX6_learnOdds 12 = .ok (.getfield 59, 3) := by decide +kernel
theorem dX6_learnOdds_15 : decode cX6_learnOdds 15 = .ok (.arraylength, 1) := by decide +kernel
theorem dX6_learnOdds_16 : decode cX6_learnOdds 16 = .ok (.if_icmp .ge 16, 3) := by decide +kernel
theorem dX6_learnOdds_19 : decode cX6_learnOdds 19 = .ok (.aload_n 0, 1) := by decide +kernel
theorem dX6_learnOdds_20 : decode cX6_learnOdds 20 = .ok (.getfield 59, 3) := by decide +kernel
theorem dX6_learnOdds_23 : decode cX6_learnOdds 23 = .ok (.iload_n 1, 1) := by decide +kernel
theorem dX6_learnOdds_24 : decode cX6_learnOdds 24 = .ok (.iconst 0, 1) := by decide +kernel
theorem dX6_learnOdds_25 : decode cX6_learnOdds 25 = .ok (.iastore, 1) := by decide +kernel
theorem dX6_learnOdds_26 : decode cX6_learnOdds 26 = .ok (.iinc 1 1, 3) := by decide +kernel
theorem dX6_learnOdds_29 : decode cX6_learnOdds 29 = .ok (.goto (-19), 3) := by decide +kernel
theorem dX6_learnOdds_32 : decode cX6_learnOdds 32 = .ok (.iconst 0, 1) := by decide +kernel
theorem dX6_learnOdds_33 : decode cX6_learnOdds 33 = .ok (.istore_n 1, 1) := by decide +kernel
theorem dX6_learnOdds_34 : decode cX6_learnOdds 34 = .ok (.iload_n 1, 1) := by decide +kernel
theorem dX6_learnOdds_35 : decode cX6_learnOdds 35 = .ok (.aload_n 0, 1) := by decide +kernel
theorem dX6_learnOdds_36 : decode cX6_learnOdds 36 = .ok (.getfield 18, 3) := by decide +kernel
theorem dX6_learnOdds_39 : decode cX6_learnOdds 39 = .ok (.invokevirtual 185, 3) := by decide +kernel
theorem dX6_learnOdds_42 : decode cX6_learnOdds 42 = .ok (.if_icmp .gt 78, 3) := by decide +kernel
theorem dX6_learnOdds_45 : decode cX6_learnOdds 45 = .ok (.aload_n 0, 1) := by decide +kernel
theorem dX6_learnOdds_46 : decode cX6_learnOdds 46 = .ok (.getfield 52, 3) := by decide +kernel
theorem dX6_learnOdds_49 : decode cX6_learnOdds 49 = .ok (.aload_n 0, 1) := by decide +kernel
theorem dX6_learnOdds_50 : decode cX6_learnOdds 50 = .ok (.getfield 38, 3) := by decide +kernel
theorem dX6_learnOdds_53 : decode cX6_learnOdds 53 = .ok (.aload_n 0, 1) := by decide +kernel
theorem dX6_learnOdds_54 : decode cX6_learnOdds 54 = .ok (.getfield 18, 3) := by decide +kernel
theorem dX6_learnOdds_57 : decode cX6_learnOdds 57 = .ok (.iload_n 1, 1) := by decide +kernel
theorem dX6_learnOdds_58 : decode cX6_learnOdds 58 = .ok (.invokevirtual 188, 3) := by decide +kernel
theorem dX6_learnOdds_61 : decode cX6_learnOdds 61 = .ok (.iload_n 1, 1) := by decide +kernel
theorem dX6_learnOdds_62 : decode cX6_learnOdds 62 = .ok (.invokestatic 204, 3) := by decide +kernel
theorem dX6_learnOdds_65 : decode cX6_learnOdds 65 = .ok (.istore_n 2, 1) := by decide +kernel
theorem dX6_learnOdds_66 : decode cX6_learnOdds 66 = .ok (.iconst 0, 1) := by decide +kernel
theorem dX6_learnOdds_67 : decode cX6_learnOdds 67 = .ok (.istore_n 3, 1) := by decide +kernel
theorem dX6_learnOdds_68 : decode cX6_learnOdds 68 = .ok (.iload_n 3, 1) := by decide +kernel
theorem dX6_learnOdds_69 : decode cX6_learnOdds 69 = .ok (.aload_n 0, 1) := by decide +kernel
theorem dX6_learnOdds_70 : decode cX6_learnOdds 70 = .ok (.getfield 38, 3) := by decide +kernel
theorem dX6_learnOdds_73 : decode cX6_learnOdds 73 = .ok (.getfield 100, 3) := by decide +kernel
theorem dX6_learnOdds_76 : decode cX6_learnOdds 76 = .ok (.if_icmp .ge 38, 3) := by decide +kernel
theorem dX6_learnOdds_79 : decode cX6_learnOdds 79 = .ok (.aload_n 0, 1) := by decide +kernel
theorem dX6_learnOdds_80 : decode cX6_learnOdds 80 = .ok (.getfield 52, 3) := by decide +kernel
theorem dX6_learnOdds_83 : decode cX6_learnOdds 83 = .ok (.bipush 23, 2) := by decide +kernel
theorem dX6_learnOdds_85 : decode cX6_learnOdds 85 = .ok (.iload_n 3, 1) := by decide +kernel
theorem dX6_learnOdds_86 : decode cX6_learnOdds 86 = .ok (.invokevirtual 152, 3) := by decide +kernel
theorem dX6_learnOdds_89 : decode cX6_learnOdds 89 = .ok (.iconst 1, 1) := by decide +kernel
theorem dX6_learnOdds_90 : decode cX6_learnOdds 90 = .ok (.if_icmp .ne 18, 3) := by decide +kernel
theorem dX6_learnOdds_93 : decode cX6_learnOdds 93 = .ok (.aload_n 0, 1) := by decide +kernel
theorem dX6_learnOdds_94 : decode cX6_learnOdds 94 = .ok (.getfield 59, 3) := by decide +kernel
theorem dX6_learnOdds_97 : decode cX6_learnOdds 97 = .ok (.iload_n 3, 1) := by decide +kernel
theorem dX6_learnOdds_98 : decode cX6_learnOdds 98 = .ok (.bipush 9, 2) := by decide +kernel
theorem dX6_learnOdds_100 : decode cX6_learnOdds 100 = .ok (.imul, 1) := by decide +kernel
theorem dX6_learnOdds_101 : decode cX6_learnOdds 101 = .ok (.iload_n 2, 1) := by decide +kernel
theorem dX6_learnOdds_102 : decode cX6_learnOdds 102 = .ok (.iadd, 1) := by decide +kernel
theorem dX6_learnOdds_103 : decode cX6_learnOdds 103 = .ok (.dup2, 1) := by decide +kernel
theorem dX6_learnOdds_104 : decode cX6_learnOdds 104 = .ok (.iaload, 1) := by decide +kernel
theorem dX6_learnOdds_105 : decode cX6_learnOdds 105 = .ok (.iconst 1, 1) := by decide +kernel
theorem dX6_learnOdds_106 : decode cX6_learnOdds 106 = .ok (.iadd, 1) := by decide +kernel
theorem dX6_learnOdds_107 : decode cX6_learnOdds 107 = .ok (.iastore, 1) := by decide +kernel
theorem dX6_learnOdds_108 : decode cX6_learnOdds 108 = .ok (.iinc 3 1, 3) := by decide +kernel
theorem dX6_learnOdds_111 : decode cX6_learnOdds 111 = .ok (.goto (-43), 3) := by decide +kernel
theorem dX6_learnOdds_114 : decode cX6_learnOdds 114 = .ok (.iinc 1 1, 3) := by decide +kernel
theorem dX6_learnOdds_117 : decode cX6_learnOdds 117 = .ok (.goto (-83), 3) := by decide +kernel
theorem dX6_learnOdds_120 : decode cX6_learnOdds 120 = .ok (.aload_n 0, 1) := by decide +kernel
theorem dX6_learnOdds_121 : decode cX6_learnOdds 121 = .ok (.iconst 1, 1) := by decide +kernel
theorem dX6_learnOdds_122 : decode cX6_learnOdds 122 = .ok (.putfield 360, 3) := by decide +kernel
theorem dX6_learnOdds_125 : decode cX6_learnOdds 125 = .ok (.return_, 1) := by decide +kernel
theorem dX6_sparedEchoes_0 : decode cX6_sparedEchoes 0 = .ok (.aload_n 0, 1) := by decide +kernel
theorem dX6_sparedEchoes_1 : decode cX6_sparedEchoes 1 = .ok (.iconst 0, 1) := by decide +kernel
theorem dX6_sparedEchoes_2 : decode cX6_sparedEchoes 2 = .ok (.invokevirtual 363, 3) := by decide +kernel
theorem dX6_sparedEchoes_5 : decode cX6_sparedEchoes 5 = .ok (.ifCond .eq 5, 3) := by decide +kernel
theorem dX6_sparedEchoes_8 : decode cX6_sparedEchoes 8 = .ok (.iconst 0, 1) := by decide +kernel
theorem dX6_sparedEchoes_9 : decode cX6_sparedEchoes 9 = .ok (.ireturn, 1) := by decide +kernel
theorem dX6_sparedEchoes_10 : decode cX6_sparedEchoes 10 = .ok (.iconst 0, 1) := by decide +kernel
theorem dX6_sparedEchoes_11 : decode cX6_sparedEchoes 11 = .ok (.istore_n 1, 1) := by decide +kernel
theorem dX6_sparedEchoes_12 : decode cX6_sparedEchoes 12 = .ok (.iload_n 1, 1) := by decide +kernel
theorem dX6_sparedEchoes_13 : decode cX6_sparedEchoes 13 = .ok (.aload_n 0, 1) := by decide +kernel
theorem dX6_sparedEchoes_14 : decode cX6_sparedEchoes 14 = .ok (.getfield 18, 3) := by decide +kernel
theorem dX6_sparedEchoes_17 : decode cX6_sparedEchoes 17 = .ok (.getfield 134, 3) := by decide +kernel
theorem dX6_sparedEchoes_20 : decode cX6_sparedEchoes 20 = .ok (.if_icmp .ge 23, 3) := by decide +kernel
theorem dX6_sparedEchoes_23 : decode cX6_sparedEchoes 23 = .ok (.aload_n 0, 1) := by decide +kernel
theorem dX6_sparedEchoes_24 : decode cX6_sparedEchoes 24 = .ok (.iconst 1, 1) := by decide +kernel
theorem dX6_sparedEchoes_25 : decode cX6_sparedEchoes 25 = .ok (.iload_n 1, 1) := by decide +kernel
theorem dX6_sparedEchoes_26 : decode cX6_sparedEchoes 26 = .ok (.ishl, 1) := by decide +kernel
theorem dX6_sparedEchoes_27 : decode cX6_sparedEchoes 27 = .ok (.invokevirtual 363, 3) := by decide +kernel
theorem dX6_sparedEchoes_30 : decode cX6_sparedEchoes 30 = .ok (.ifCond .eq 7, 3) := by decide +kernel
theorem dX6_sparedEchoes_33 : decode cX6_sparedEchoes 33 = .ok (.iconst 1, 1) := by decide +kernel
theorem dX6_sparedEchoes_34 : decode cX6_sparedEchoes 34 = .ok (.iload_n 1, 1) := by decide +kernel
theorem dX6_sparedEchoes_35 : decode cX6_sparedEchoes 35 = .ok (.ishl, 1) := by decide +kernel
theorem dX6_sparedEchoes_36 : decode cX6_sparedEchoes 36 = .ok (.ireturn, 1) := by decide +kernel
theorem dX6_sparedEchoes_37 : decode cX6_sparedEchoes 37 = .ok (.iinc 1 1, 3) := by decide +kernel
theorem dX6_sparedEchoes_40 : decode cX6_sparedEchoes 40 = .ok (.goto (-28), 3) := by decide +kernel
theorem dX6_sparedEchoes_43 : decode cX6_sparedEchoes 43 = .ok (.iconst 0, 1) := by decide +kernel
theorem dX6_sparedEchoes_44 : decode cX6_sparedEchoes 44 = .ok (.istore_n 1, 1) := by decide +kernel
theorem dX6_sparedEchoes_45 : decode cX6_sparedEchoes 45 = .ok (.iload_n 1, 1) := by decide +kernel
theorem dX6_sparedEchoes_46 : decode cX6_sparedEchoes 46 = .ok (.aload_n 0, 1) := by decide +kernel
theorem dX6_sparedEchoes_47 : decode cX6_sparedEchoes 47 = .ok (.getfield 18, 3) := by decide +kernel
theorem dX6_sparedEchoes_50 : decode cX6_sparedEchoes 50 = .ok (.getfield 134, 3) := by decide +kernel
theorem dX6_sparedEchoes_53 : decode cX6_sparedEchoes 53 = .ok (.if_icmp .ge 52, 3) := by decide +kernel
theorem dX6_sparedEchoes_56 : decode cX6_sparedEchoes 56 = .ok (.iload_n 1, 1) := by decide +kernel
theorem dX6_sparedEchoes_57 : decode cX6_sparedEchoes 57 = .ok (.iconst 1, 1) := by decide +kernel
theorem dX6_sparedEchoes_58 : decode cX6_sparedEchoes 58 = .ok (.iadd, 1) := by decide +kernel
theorem dX6_sparedEchoes_59 : decode cX6_sparedEchoes 59 = .ok (.istore_n 2, 1) := by decide +kernel
theorem dX6_sparedEchoes_60 : decode cX6_sparedEchoes 60 = .ok (.iload_n 2, 1) := by decide +kernel
theorem dX6_sparedEchoes_61 : decode cX6_sparedEchoes 61 = .ok (.aload_n 0, 1) := by decide +kernel
theorem dX6_sparedEchoes_62 : decode cX6_sparedEchoes 62 = .ok (.getfield 18, 3) := by decide +kernel
theorem dX6_sparedEchoes_65 : decode cX6_sparedEchoes 65 = .ok (.getfield 134, 3) := by decide +kernel
theorem dX6_sparedEchoes_68 : decode cX6_sparedEchoes 68 = .ok (.if_icmp .ge 31, 3) := by decide +kernel
theorem dX6_sparedEchoes_71 : decode cX6_sparedEchoes 71 = .ok (.aload_n 0, 1) := by decide +kernel
theorem dX6_sparedEchoes_72 : decode cX6_sparedEchoes 72 = .ok (.iconst 1, 1) := by decide +kernel
theorem dX6_sparedEchoes_73 : decode cX6_sparedEchoes 73 = .ok (.iload_n 1, 1) := by decide +kernel
theorem dX6_sparedEchoes_74 : decode cX6_sparedEchoes 74 = .ok (.ishl, 1) := by decide +kernel
theorem dX6_sparedEchoes_75 : decode cX6_sparedEchoes 75 = .ok (.iconst 1, 1) := by decide +kernel
theorem dX6_sparedEchoes_76 : decode cX6_sparedEchoes 76 = .ok (.iload_n 2, 1) := by decide +kernel
theorem dX6_sparedEchoes_77 : decode cX6_sparedEchoes 77 = .ok (.ishl, 1) := by decide +kernel
theorem dX6_sparedEchoes_78 : decode cX6_sparedEchoes 78 = .ok (.ior, 1) := by decide +kernel
theorem dX6_sparedEchoes_79 : decode cX6_sparedEchoes 79 = .ok (.invokevirtual 363, 3) := by decide +kernel
theorem dX6_sparedEchoes_82 : decode cX6_sparedEchoes 82 = .ok (.ifCond .eq 11, 3) := by decide +kernel
theorem dX6_sparedEchoes_85 : decode cX6_sparedEchoes 85 = .ok (.iconst 1, 1) := by decide +kernel
theorem dX6_sparedEchoes_86 : decode cX6_sparedEchoes 86 = .ok (.iload_n 1, 1) := by decide +kernel
theorem dX6_sparedEchoes_87 : decode cX6_sparedEchoes 87 = .ok (.ishl, 1) := by decide +kernel
theorem dX6_sparedEchoes_88 : decode cX6_sparedEchoes 88 = .ok (.iconst 1, 1) := by decide +kernel
theorem dX6_sparedEchoes_89 : decode cX6_sparedEchoes 89 = .ok (.iload_n 2, 1) := by decide +kernel
theorem dX6_sparedEchoes_90 : decode cX6_sparedEchoes 90 = .ok (.ishl, 1) := by decide +kernel
theorem dX6_sparedEchoes_91 : decode cX6_sparedEchoes 91 = .ok (.ior, 1) := by decide +kernel
theorem dX6_sparedEchoes_92 : decode cX6_sparedEchoes 92 = .ok (.ireturn, 1) := by decide +kernel
theorem dX6_sparedEchoes_93 : decode cX6_sparedEchoes 93 = .ok (.iinc 2 1, 3) := by decide +kernel
theorem dX6_sparedEchoes_96 : decode cX6_sparedEchoes 96 = .ok (.goto (-36), 3) := by decide +kernel
theorem dX6_sparedEchoes_99 : decode cX6_sparedEchoes 99 = .ok (.iinc 1 1, 3) := by decide +kernel
theorem dX6_sparedEchoes_102 : decode cX6_sparedEchoes 102 = .ok (.goto (-57), 3) := by decide +kernel
theorem dX6_sparedEchoes_105 : decode cX6_sparedEchoes 105 = .ok (.iconst (-1), 1) := by decide +kernel
theorem dX6_sparedEchoes_106 : decode cX6_sparedEchoes 106 = .ok (.ireturn, 1) := by decide +kernel
theorem dX6_losesNothingWithout_0 : decode cX6_losesNothingWithout 0 = .ok (.aload_n 0, 1) := by decide +kernel
theorem dX6_losesNothingWithout_1 : decode cX6_losesNothingWithout 1 = .ok (.getfield 52, 3) := by decide +kernel
theorem dX6_losesNothingWithout_4 : decode cX6_losesNothingWithout 4 = .ok (.aload_n 0, 1) := by decide +kernel
theorem dX6_losesNothingWithout_5 : decode cX6_losesNothingWithout 5 = .ok (.getfield 38, 3) := by decide +kernel
theorem dX6_losesNothingWithout_8 : decode cX6_losesNothingWithout 8 = .ok (.aload_n 0, 1) := by decide +kernel
theorem dX6_losesNothingWithout_9 : decode cX6_losesNothingWithout 9 = .ok (.getfield 18, 3) := by decide +kernel
theorem dX6_losesNothingWithout_12 : decode cX6_losesNothingWithout 12 = .ok (.aload_n 0, 1) := by decide +kernel
theorem dX6_losesNothingWithout_13 : decode cX6_losesNothingWithout 13 = .ok (.getfield 18, 3) := by decide +kernel
theorem dX6_losesNothingWithout_16 : decode cX6_losesNothingWithout 16 = .ok (.invokevirtual 185, 3) := by decide +kernel
theorem dX6_losesNothingWithout_19 : decode cX6_losesNothingWithout 19 = .ok (.iload_n 1, 1) := by decide +kernel
theorem dX6_losesNothingWithout_20 : decode cX6_losesNothingWithout 20 = .ok (.iconst (-1), 1) := by decide +kernel
theorem dX6_losesNothingWithout_21 : decode cX6_losesNothingWithout 21 = .ok (.ixor, 1) := by decide +kernel
theorem dX6_losesNothingWithout_22 : decode cX6_losesNothingWithout 22 = .ok (.iand, 1) := by decide +kernel
theorem dX6_losesNothingWithout_23 : decode cX6_losesNothingWithout 23 = .ok (.invokevirtual 188, 3) := by decide +kernel
theorem dX6_losesNothingWithout_26 : decode cX6_losesNothingWithout 26 = .ok (.aload_n 0, 1) := by decide +kernel
theorem dX6_losesNothingWithout_27 : decode cX6_losesNothingWithout 27 = .ok (.getfield 52, 3) := by decide +kernel
theorem dX6_losesNothingWithout_30 : decode cX6_losesNothingWithout 30 = .ok (.iconst 3, 1) := by decide +kernel
theorem dX6_losesNothingWithout_31 : decode cX6_losesNothingWithout 31 = .ok (.invokevirtual 198, 3) := by decide +kernel
theorem dX6_losesNothingWithout_34 : decode cX6_losesNothingWithout 34 = .ok (.ifCond .ne 7, 3) := by decide +kernel
theorem dX6_losesNothingWithout_37 : decode cX6_losesNothingWithout 37 = .ok (.iconst 1, 1) := by decide +kernel
theorem dX6_losesNothingWithout_38 : decode cX6_losesNothingWithout 38 = .ok (.goto 4, 3) := by decide +kernel
theorem dX6_losesNothingWithout_41 : decode cX6_losesNothingWithout 41 = .ok (.iconst 0, 1) := by decide +kernel
theorem dX6_losesNothingWithout_42 : decode cX6_losesNothingWithout 42 = .ok (.ireturn, 1) := by decide +kernel
theorem dX6_sortByWhatIsLeft_0 : decode cX6_sortByWhatIsLeft 0 = .ok (.iconst 0, 1) := by decide +kernel
theorem dX6_sortByWhatIsLeft_1 : decode cX6_sortByWhatIsLeft 1 = .ok (.istore_n 2, 1) := by decide +kernel
theorem dX6_sortByWhatIsLeft_2 : decode cX6_sortByWhatIsLeft 2 = .ok (.iload_n 2, 1) := by decide +kernel
theorem dX6_sortByWhatIsLeft_3 : decode cX6_sortByWhatIsLeft 3 = .ok (.aload_n 0, 1) := by decide +kernel
theorem dX6_sortByWhatIsLeft_4 : decode cX6_sortByWhatIsLeft 4 = .ok (.getfield 55, 3) := by decide +kernel
theorem dX6_sortByWhatIsLeft_7 : decode cX6_sortByWhatIsLeft 7 = .ok (.arraylength, 1) := by decide +kernel
theorem dX6_sortByWhatIsLeft_8 : decode cX6_sortByWhatIsLeft 8 = .ok (.if_icmp .ge 16, 3) := by decide +kernel
theorem dX6_sortByWhatIsLeft_11 : decode cX6_sortByWhatIsLeft 11 = .ok (.aload_n 0, 1) := by decide +kernel
theorem dX6_sortByWhatIsLeft_12 : decode cX6_sortByWhatIsLeft 12 = .ok (.getfield 55, 3) := by decide +kernel
theorem dX6_sortByWhatIsLeft_15 : decode cX6_sortByWhatIsLeft 15 = .ok (.iload_n 2, 1) := by decide +kernel
theorem dX6_sortByWhatIsLeft_16 : decode cX6_sortByWhatIsLeft 16 = .ok (.iconst 0, 1) := by decide +kernel
theorem dX6_sortByWhatIsLeft_17 : decode cX6_sortByWhatIsLeft 17 = .ok (.iastore, 1) := by decide +kernel
theorem dX6_sortByWhatIsLeft_18 : decode cX6_sortByWhatIsLeft 18 = .ok (.iinc 2 1, 3) := by decide +kernel
theorem dX6_sortByWhatIsLeft_21 : decode cX6_sortByWhatIsLeft 21 = .ok (.goto (-19), 3) := by decide +kernel
theorem dX6_sortByWhatIsLeft_24 : decode cX6_sortByWhatIsLeft 24 = .ok (.aload_n 0, 1) := by decide +kernel
theorem dX6_sortByWhatIsLeft_25 : decode cX6_sortByWhatIsLeft 25 = .ok (.getfield 49, 3) := by decide +kernel
theorem dX6_sortByWhatIsLeft_28 : decode cX6_sortByWhatIsLeft 28 = .ok (.aload_n 0, 1) := by decide +kernel
theorem dX6_sortByWhatIsLeft_29 : decode cX6_sortByWhatIsLeft 29 = .ok (.getfield 38, 3) := by decide +kernel
theorem dX6_sortByWhatIsLeft_32 : decode cX6_sortByWhatIsLeft 32 = .ok (.invokevirtual 177, 3) := by decide +kernel
theorem dX6_sortByWhatIsLeft_35 : decode cX6_sortByWhatIsLeft 35 = .ok (.iconst 1, 1) := by decide +kernel
theorem dX6_sortByWhatIsLeft_36 : decode cX6_sortByWhatIsLeft 36 = .ok (.istore_n 2, 1) := by decide +kernel
theorem dX6_sortByWhatIsLeft_37 : decode cX6_sortByWhatIsLeft 37 = .ok (.iload_n 2, 1) := by decide +kernel
theorem dX6_sortByWhatIsLeft_38 : decode cX6_sortByWhatIsLeft 38 = .ok (.bipush 9, 2) := by decide +kernel
theorem dX6_sortByWhatIsLeft_40 : decode cX6_sortByWhatIsLeft 40 = .ok (.if_icmp .gt 106, 3) := by decide +kernel
theorem dX6_sortByWhatIsLeft_43 : decode cX6_sortByWhatIsLeft 43 = .ok (.aload_n 0, 1) := by decide +kernel
theorem dX6_sortByWhatIsLeft_44 : decode cX6_sortByWhatIsLeft 44 = .ok (.getfield 49, 3) := by decide +kernel
theorem dX6_sortByWhatIsLeft_47 : decode cX6_sortByWhatIsLeft 47 = .ok (.getfield 109, 3) := by decide +kernel
theorem dX6_sortByWhatIsLeft_50 : decode cX6_sortByWhatIsLeft 50 = .ok (.iload_n 1, 1) := by decide +kernel
theorem dX6_sortByWhatIsLeft_51 : decode cX6_sortByWhatIsLeft 51 = .ok (.iload_n 2, 1) := by decide +kernel
theorem dX6_sortByWhatIsLeft_52 : decode cX6_sortByWhatIsLeft 52 = .ok (.iastore, 1) := by decide +kernel
theorem dX6_sortByWhatIsLeft_53 : decode cX6_sortByWhatIsLeft 53 = .ok (.aload_n 0, 1) := by decide +kernel
theorem dX6_sortByWhatIsLeft_54 : decode cX6_sortByWhatIsLeft 54 = .ok (.getfield 52, 3) := by decide +kernel
theorem dX6_sortByWhatIsLeft_57 : decode cX6_sortByWhatIsLeft 57 = .ok (.aload_n 0, 1) := by decide +kernel
theorem dX6_sortByWhatIsLeft_58 : decode cX6_sortByWhatIsLeft 58 = .ok (.getfield 49, 3) := by decide +kernel
theorem dX6_sortByWhatIsLeft_61 : decode cX6_sortByWhatIsLeft 61 = .ok (.aload_n 0, 1) := by decide +kernel
theorem dX6_sortByWhatIsLeft_62 : decode cX6_sortByWhatIsLeft 62 = .ok (.getfield 18, 3) := by decide +kernel
theorem dX6_sortByWhatIsLeft_65 : decode cX6_sortByWhatIsLeft 65 = .ok (.aload_n 0, 1) := by decide +kernel
theorem dX6_sortByWhatIsLeft_66 : decode cX6_sortByWhatIsLeft 66 = .ok (.getfield 18, 3) := by decide +kernel
theorem dX6_sortByWhatIsLeft_69 : decode cX6_sortByWhatIsLeft 69 = .ok (.invokevirtual 185, 3) := by decide +kernel
theorem dX6_sortByWhatIsLeft_72 : decode cX6_sortByWhatIsLeft 72 = .ok (.invokevirtual 188, 3) := by decide +kernel
theorem dX6_sortByWhatIsLeft_75 : decode cX6_sortByWhatIsLeft 75 = .ok (.aload_n 0, 1) := by decide +kernel
theorem dX6_sortByWhatIsLeft_76 : decode cX6_sortByWhatIsLeft 76 = .ok (.getfield 25, 3) := by decide +kernel
theorem dX6_sortByWhatIsLeft_79 : decode cX6_sortByWhatIsLeft 79 = .ok (.aload_n 0, 1) := by decide +kernel
theorem dX6_sortByWhatIsLeft_80 : decode cX6_sortByWhatIsLeft 80 = .ok (.getfield 52, 3) := by decide +kernel
theorem dX6_sortByWhatIsLeft_83 : decode cX6_sortByWhatIsLeft 83 = .ok (.invokevirtual 215, 3) := by decide +kernel
theorem dX6_sortByWhatIsLeft_86 : decode cX6_sortByWhatIsLeft 86 = .ok (.ifCond .eq 54, 3) := by decide +kernel
theorem dX6_sortByWhatIsLeft_89 : decode cX6_sortByWhatIsLeft 89 = .ok (.iconst 0, 1) := by decide +kernel
theorem dX6_sortByWhatIsLeft_90 : decode cX6_sortByWhatIsLeft 90 = .ok (.istore_n 3, 1) := by decide +kernel
theorem dX6_sortByWhatIsLeft_91 : decode cX6_sortByWhatIsLeft 91 = .ok (.iload_n 3, 1) := by decide +kernel
theorem dX6_sortByWhatIsLeft_92 : decode cX6_sortByWhatIsLeft 92 = .ok (.bipush 24, 2) := by decide +kernel
theorem dX6_sortByWhatIsLeft_94 : decode cX6_sortByWhatIsLeft 94 = .ok (.if_icmp .ge 46, 3) := by decide +kernel
theorem dX6_sortByWhatIsLeft_97 : decode cX6_sortByWhatIsLeft 97 = .ok (.aload_n 0, 1) := by decide +kernel
theorem dX6_sortByWhatIsLeft_98 : decode cX6_sortByWhatIsLeft 98 = .ok (.getfield 52, 3) := by decide +kernel
theorem dX6_sortByWhatIsLeft_101 : decode cX6_sortByWhatIsLeft 101 = .ok (.iload_n 3, 1) := by decide +kernel
theorem dX6_sortByWhatIsLeft_102 : decode cX6_sortByWhatIsLeft 102 = .ok (.iload_n 1, 1) := by decide +kernel
theorem dX6_sortByWhatIsLeft_103 : decode cX6_sortByWhatIsLeft 103 = .ok (.invokevirtual 156, 3) := by decide +kernel
theorem dX6_sortByWhatIsLeft_106 : decode cX6_sortByWhatIsLeft 106 = .ok (.istore 4, 2) := by decide +kernel
theorem dX6_sortByWhatIsLeft_108 : decode cX6_sortByWhatIsLeft 108 = .ok (.iload 4, 2) := by decide +kernel
theorem dX6_sortByWhatIsLeft_110 : decode cX6_sortByWhatIsLeft 110 = .ok (.bipush 10, 2) := by decide +kernel
theorem dX6_sortByWhatIsLeft_112 : decode cX6_sortByWhatIsLeft 112 = .ok (.invokestatic 66, 3) := by decide +kernel
theorem dX6_sortByWhatIsLeft_115 : decode cX6_sortByWhatIsLeft 115 = .ok (.ifCond .ne 19, 3) := by decide +kernel
theorem dX6_sortByWhatIsLeft_118 : decode cX6_sortByWhatIsLeft 118 = .ok (.aload_n 0, 1) := by decide +kernel
theorem dX6_sortByWhatIsLeft_119 : decode cX6_sortByWhatIsLeft 119 = .ok (.getfield 55, 3) := by decide +kernel
theorem dX6_sortByWhatIsLeft_122 : decode cX6_sortByWhatIsLeft 122 = .ok (.iload_n 3, 1) := by decide +kernel
theorem dX6_sortByWhatIsLeft_123 : decode cX6_sortByWhatIsLeft 123 = .ok (.bipush 10, 2) := by decide +kernel
theorem dX6_sortByWhatIsLeft_125 : decode cX6_sortByWhatIsLeft 125 = .ok (.imul, 1) := by decide +kernel
theorem dX6_sortByWhatIsLeft_126 : decode cX6_sortByWhatIsLeft 126 = .ok (.iload 4, 2) := by decide +kernel
theorem dX6_sortByWhatIsLeft_128 : decode cX6_sortByWhatIsLeft 128 = .ok (.iadd, 1) := by decide +kernel
theorem dX6_sortByWhatIsLeft_129 : decode cX6_sortByWhatIsLeft 129 = .ok (.dup2, 1) := by decide +kernel
theorem dX6_sortByWhatIsLeft_130 : decode cX6_sortByWhatIsLeft 130 = .ok (.iaload, 1) := by decide +kernel
theorem dX6_sortByWhatIsLeft_131 : decode cX6_sortByWhatIsLeft 131 = .ok (.iconst 1, 1) := by decide +kernel
theorem dX6_sortByWhatIsLeft_132 : decode cX6_sortByWhatIsLeft 132 = .ok (.iadd, 1) := by decide +kernel
theorem dX6_sortByWhatIsLeft_133 : decode cX6_sortByWhatIsLeft 133 = .ok (.iastore, 1) := by decide +kernel
theorem dX6_sortByWhatIsLeft_134 : decode cX6_sortByWhatIsLeft 134 = .ok (.iinc 3 1, 3) := by decide +kernel
theorem dX6_sortByWhatIsLeft_137 : decode cX6_sortByWhatIsLeft 137 = .ok (.goto (-46), 3) := by decide +kernel
theorem dX6_sortByWhatIsLeft_140 : decode cX6_sortByWhatIsLeft 140 = .ok (.iinc 2 1, 3) := by decide +kernel
theorem dX6_sortByWhatIsLeft_143 : decode cX6_sortByWhatIsLeft 143 = .ok (.goto (-106), 3) := by decide +kernel
theorem dX6_sortByWhatIsLeft_146 : decode cX6_sortByWhatIsLeft 146 = .ok (.return_, 1) := by decide +kernel
theorem dX6_mostAlike_0 : decode cX6_mostAlike 0 = .ok (.iconst 0, 1) := by decide +kernel
theorem dX6_mostAlike_1 : decode cX6_mostAlike 1 = .ok (.istore_n 2, 1) := by decide +kernel
theorem dX6_mostAlike_2 : decode cX6_mostAlike 2 = .ok (.iconst 0, 1) := by decide +kernel
theorem dX6_mostAlike_3 : decode cX6_mostAlike 3 = .ok (.istore_n 3, 1) := by decide +kernel
theorem dX6_mostAlike_4 : decode cX6_mostAlike 4 = .ok (.iload_n 3, 1) := by decide +kernel
theorem dX6_mostAlike_5 : decode cX6_mostAlike 5 = .ok (.bipush 9, 2) := by decide +kernel
theorem dX6_mostAlike_7 : decode cX6_mostAlike 7 = .ok (.if_icmp .gt 25, 3) := by decide +kernel
theorem dX6_mostAlike_10 : decode cX6_mostAlike 10 = .ok (.iload_n 2, 1) := by decide +kernel
theorem dX6_mostAlike_11 : decode cX6_mostAlike 11 = .ok (.aload_n 0, 1) := by decide +kernel
theorem dX6_mostAlike_12 : decode cX6_mostAlike 12 = .ok (.getfield 55, 3) := by decide +kernel
theorem dX6_mostAlike_15 : decode cX6_mostAlike 15 = .ok (.iload_n 1, 1) := by decide +kernel
theorem dX6_mostAlike_16 : decode cX6_mostAlike 16 = .ok (.bipush 10, 2) := by decide +kernel
theorem dX6_mostAlike_18 : decode cX6_mostAlike 18 = .ok (.imul, 1) := by decide +kernel
theorem dX6_mostAlike_19 : decode cX6_mostAlike 19 = .ok (.iload_n 3, 1) := by decide +kernel
theorem dX6_mostAlike_20 : decode cX6_mostAlike 20 = .ok (.iadd, 1) := by decide +kernel
theorem dX6_mostAlike_21 : decode cX6_mostAlike 21 = .ok (.iaload, 1) := by decide +kernel
theorem dX6_mostAlike_22 : decode cX6_mostAlike 22 = .ok (.invokestatic 367, 3) := by decide +kernel
theorem dX6_mostAlike_25 : decode cX6_mostAlike 25 = .ok (.istore_n 2, 1) := by decide +kernel
theorem dX6_mostAlike_26 : decode cX6_mostAlike 26 = .ok (.iinc 3 1, 3) := by decide +kernel
theorem dX6_mostAlike_29 : decode cX6_mostAlike 29 = .ok (.goto (-25), 3) := by decide +kernel
theorem dX6_mostAlike_32 : decode cX6_mostAlike 32 = .ok (.iload_n 2, 1) := by decide +kernel
theorem dX6_mostAlike_33 : decode cX6_mostAlike 33 = .ok (.ireturn, 1) := by decide +kernel
theorem dX6_finding_0 : decode cX6_finding 0 = .ok (.aload_n 0, 1) := by decide +kernel
theorem dX6_finding_1 : decode cX6_finding 1 = .ok (.iload_n 1, 1) := by decide +kernel
theorem dX6_finding_2 : decode cX6_finding 2 = .ok (.putfield 265, 3) := by decide +kernel
theorem dX6_finding_5 : decode cX6_finding 5 = .ok (.bipush (-10), 2) := by decide +kernel
theorem dX6_finding_7 : decode cX6_finding 7 = .ok (.iload_n 1, 1) := by decide +kernel
theorem dX6_finding_8 : decode cX6_finding 8 = .ok (.isub, 1) := by decide +kernel
theorem dX6_finding_9 : decode cX6_finding 9 = .ok (.ireturn, 1) := by decide +kernel
theorem dX6_whatIsAmiss_0 : decode cX6_whatIsAmiss 0 = .ok (.aload_n 0, 1) := by decide +kernel
theorem dX6_whatIsAmiss_1 : decode cX6_whatIsAmiss 1 = .ok (.invokevirtual 137, 3) := by decide +kernel
theorem dX6_whatIsAmiss_4 : decode cX6_whatIsAmiss 4 = .ok (.ifCond .eq 5, 3) := by decide +kernel
theorem dX6_whatIsAmiss_7 : decode cX6_whatIsAmiss 7 = .ok (.iconst 1, 1) := by decide +kernel
theorem dX6_whatIsAmiss_8 : decode cX6_whatIsAmiss 8 = .ok (.ireturn, 1) := by decide +kernel
theorem dX6_whatIsAmiss_9 : decode cX6_whatIsAmiss 9 = .ok (.aload_n 0, 1) := by decide +kernel
theorem dX6_whatIsAmiss_10 : decode cX6_whatIsAmiss 10 = .ok (.getfield 248, 3) := by decide +kernel
theorem dX6_whatIsAmiss_13 : decode cX6_whatIsAmiss 13 = .ok (.iload_n 1, 1) := by decide +kernel
theorem dX6_whatIsAmiss_14 : decode cX6_whatIsAmiss 14 = .ok (.if_icmp .eq 5, 3) := by decide +kernel
theorem dX6_whatIsAmiss_17 : decode cX6_whatIsAmiss 17 = .ok (.iconst 3, 1) := by decide +kernel
theorem dX6_whatIsAmiss_18 : decode cX6_whatIsAmiss 18 = .ok (.ireturn, 1) := by decide +kernel
theorem dX6_whatIsAmiss_19 : decode cX6_whatIsAmiss 19 = .ok (.iload_n 2, 1) := by decide +kernel
theorem dX6_whatIsAmiss_20 : decode cX6_whatIsAmiss 20 = .ok (.aload_n 0, 1) := by decide +kernel
theorem dX6_whatIsAmiss_21 : decode cX6_whatIsAmiss 21 = .ok (.getfield 144, 3) := by decide +kernel
theorem dX6_whatIsAmiss_24 : decode cX6_whatIsAmiss 24 = .ok (.invokestatic 66, 3) := by decide +kernel
theorem dX6_whatIsAmiss_27 : decode cX6_whatIsAmiss 27 = .ok (.ifCond .eq 7, 3) := by decide +kernel
theorem dX6_whatIsAmiss_30 : decode cX6_whatIsAmiss 30 = .ok (.iconst 2, 1) := by decide +kernel
theorem dX6_whatIsAmiss_31 : decode cX6_whatIsAmiss 31 = .ok (.goto 4, 3) := by decide +kernel
theorem dX6_whatIsAmiss_34 : decode cX6_whatIsAmiss 34 = .ok (.iconst 0, 1) := by decide +kernel
theorem dX6_whatIsAmiss_35 : decode cX6_whatIsAmiss 35 = .ok (.ireturn, 1) := by decide +kernel
theorem dX6_isOutside_0 : decode cX6_isOutside 0 = .ok (.iload_n 0, 1) := by decide +kernel
theorem dX6_isOutside_1 : decode cX6_isOutside 1 = .ok (.ifCond .lt 8, 3) := by decide +kernel
theorem dX6_isOutside_4 : decode cX6_isOutside 4 = .ok (.iload_n 0, 1) := by decide +kernel
theorem dX6_isOutside_5 : decode cX6_isOutside 5 = .ok (.iload_n 1, 1) := by decide +kernel
theorem dX6_isOutside_6 : decode cX6_isOutside 6 = .ok (.if_icmp .lt 7, 3) := by decide +kernel
theorem dX6_isOutside_9 : decode cX6_isOutside 9 = .ok (.iconst 1, 1) := by decide +kernel
theorem dX6_isOutside_10 : decode cX6_isOutside 10 = .ok (.goto 4, 3) := by decide +kernel
theorem dX6_isOutside_13 : decode cX6_isOutside 13 = .ok (.iconst 0, 1) := by decide +kernel
theorem dX6_isOutside_14 : decode cX6_isOutside 14 = .ok (.ireturn, 1) := by decide +kernel
theorem dX6_lowestBit_0 : decode cX6_lowestBit 0 = .ok (.iconst 0, 1) := by decide +kernel
theorem dX6_lowestBit_1 : decode cX6_lowestBit 1 = .ok (.istore_n 1, 1) := by decide +kernel
theorem dX6_lowestBit_2 : decode cX6_lowestBit 2 = .ok (.iload_n 1, 1) := by decide +kernel
theorem dX6_lowestBit_3 : decode cX6_lowestBit 3 = .ok (.bipush 32, 2) := by decide +kernel
theorem dX6_lowestBit_5 : decode cX6_lowestBit 5 = .ok (.if_icmp .ge 19, 3) := by decide +kernel
theorem dX6_lowestBit_8 : decode cX6_lowestBit 8 = .ok (.iload_n 0, 1) := by decide +kernel
theorem dX6_lowestBit_9 : decode cX6_lowestBit 9 = .ok (.iload_n 1, 1) := by decide +kernel
theorem dX6_lowestBit_10 : decode cX6_lowestBit 10 = .ok (.ishr, 1) := by decide +kernel
theorem dX6_lowestBit_11 : decode cX6_lowestBit 11 = .ok (.iconst 1, 1) := by decide +kernel
theorem dX6_lowestBit_12 : decode cX6_lowestBit 12 = .ok (.iand, 1) := by decide +kernel
theorem dX6_lowestBit_13 : decode cX6_lowestBit 13 = .ok (.ifCond .eq 5, 3) := by decide +kernel
theorem dX6_lowestBit_16 : decode cX6_lowestBit 16 = .ok (.iload_n 1, 1) := by decide +kernel
theorem dX6_lowestBit_17 : decode cX6_lowestBit 17 = .ok (.ireturn, 1) := by decide +kernel
theorem dX6_lowestBit_18 : decode cX6_lowestBit 18 = .ok (.iinc 1 1, 3) := by decide +kernel
theorem dX6_lowestBit_21 : decode cX6_lowestBit 21 = .ok (.goto (-19), 3) := by decide +kernel
theorem dX6_lowestBit_24 : decode cX6_lowestBit 24 = .ok (.iconst (-1), 1) := by decide +kernel
theorem dX6_lowestBit_25 : decode cX6_lowestBit 25 = .ok (.ireturn, 1) := by decide +kernel
theorem dX6_power_0 : decode cX6_power 0 = .ok (.lconst 1, 1) := by decide +kernel
theorem dX6_power_1 : decode cX6_power 1 = .ok (.lstore_n 3, 1) := by decide +kernel
theorem dX6_power_2 : decode cX6_power 2 = .ok (.iconst 0, 1) := by decide +kernel
theorem dX6_power_3 : decode cX6_power 3 = .ok (.istore 5, 2) := by decide +kernel
theorem dX6_power_5 : decode cX6_power 5 = .ok (.iload 5, 2) := by decide +kernel
theorem dX6_power_7 : decode cX6_power 7 = .ok (.iload_n 2, 1) := by decide +kernel
theorem dX6_power_8 : decode cX6_power 8 = .ok (.if_icmp .ge 13, 3) := by decide +kernel
theorem dX6_power_11 : decode cX6_power 11 = .ok (.lload_n 3, 1) := by decide +kernel
theorem dX6_power_12 : decode cX6_power 12 = .ok (.lload_n 0, 1) := by decide +kernel
theorem dX6_power_13 : decode cX6_power 13 = .ok (.lmul, 1) := by decide +kernel
theorem dX6_power_14 : decode cX6_power 14 = .ok (.lstore_n 3, 1) := by decide +kernel
theorem dX6_power_15 : decode cX6_power 15 = .ok (.iinc 5 1, 3) := by decide +kernel
theorem dX6_power_18 : decode cX6_power 18 = .ok (.goto (-13), 3) := by decide +kernel
theorem dX6_power_21 : decode cX6_power 21 = .ok (.lload_n 3, 1) := by decide +kernel
theorem dX6_power_22 : decode cX6_power 22 = .ok (.lreturn, 1) := by decide +kernel
