theorem dX0_init_0 : decode cX0_init 0 = .ok (.aload_n 0, 1) := by decide +kernel
theorem dX0_init_1 : decode cX0_init 1 = .ok (.invokespecial 3, 3) := by decide +kernel
theorem dX0_init_4 : decode cX0_init 4 = .ok (.aload_n 0, 1) := by decide +kernel
theorem dX0_init_5 : decode cX0_init 5 = .ok (.bipush 8, 2) := by decide +kernel
theorem dX0_init_7 : decode cX0_init 7 = .ok (.newarray .int, 2) := by decide +kernel
theorem dX0_init_9 : decode cX0_init 9 = .ok (.putfield 9, 3) := by decide +kernel
theorem dX0_init_12 : decode cX0_init 12 = .ok (.aload_n 0, 1) := by decide +kernel
theorem dX0_init_13 : decode cX0_init 13 = .ok (.bipush 8, 2) := by decide +kernel
theorem dX0_init_15 : decode cX0_init 15 = .ok (.newarray .int, 2) := by decide +kernel
theorem dX0_init_17 : decode cX0_init 17 = .ok (.putfield 15, 3) := by decide +kernel
theorem dX0_init_20 : decode cX0_init 20 = .ok (.aload_n 0, 1) := by decide +kernel
theorem dX0_init_21 : decode cX0_init 21 = .ok (.bipush 8, 2) := by decide +kernel
theorem dX0_init_23 : decode cX0_init 23 = .ok (.newarray .int, 2) := by decide +kernel
theorem dX0_init_25 : decode cX0_init 25 = .ok (.putfield 18, 3) := by decide +kernel
theorem dX0_init_28 : decode cX0_init 28 = .ok (.return_, 1) := by decide +kernel
theorem dX0_append_0 : decode cX0_append 0 = .ok (.aload_n 0, 1) := by decide +kernel
theorem dX0_append_1 : decode cX0_append 1 = .ok (.getfield 21, 3) := by decide +kernel
theorem dX0_append_4 : decode cX0_append 4 = .ok (.bipush 8, 2) := by decide +kernel
theorem dX0_append_6 : decode cX0_append 6 = .ok (.if_icmp .ge 43, 3) := by decide +kernel
theorem dX0_append_9 : decode cX0_append 9 = .ok (.aload_n 0, 1) := by decide +kernel
theorem dX0_append_10 : decode cX0_append 10 = .ok (.getfield 9, 3) := by decide +kernel
theorem dX0_append_13 : decode cX0_append 13 = .ok (.aload_n 0, 1) := by decide +kernel
theorem dX0_append_14 : decode cX0_append 14 = .ok (.getfield 21, 3) := by decide +kernel
theorem dX0_append_17 : decode cX0_append 17 = .ok (.iload_n 1, 1) := by decide +kernel
theorem dX0_append_18 : decode cX0_append 18 = .ok (.iastore, 1) := by decide +kernel
theorem dX0_append_19 : decode cX0_append 19 = .ok (.aload_n 0, 1) := by decide +kernel
theorem dX0_append_20 : decode cX0_append 20 = .ok (.getfield 15, 3) := by decide +kernel
theorem dX0_append_23 : decode cX0_append 23 = .ok (.aload_n 0, 1) := by decide +kernel
theorem dX0_append_24 : decode cX0_append 24 = .ok (.getfield 21, 3) := by decide +kernel
theorem dX0_append_27 : decode cX0_append 27 = .ok (.iload_n 2, 1) := by decide +kernel
theorem dX0_append_28 : decode cX0_append 28 = .ok (.iastore, 1) := by decide +kernel
theorem dX0_append_29 : decode cX0_append 29 = .ok (.aload_n 0, 1) := by decide +kernel
theorem dX0_append_30 : decode cX0_append 30 = .ok (.getfield 18, 3) := by decide +kernel
theorem dX0_append_33 : decode cX0_append 33 = .ok (.aload_n 0, 1) := by decide +kernel
theorem dX0_append_34 : decode cX0_append 34 = .ok (.getfield 21, 3) := by decide +kernel
theorem dX0_append_37 : decode cX0_append 37 = .ok (.iload_n 3, 1) := by decide +kernel
theorem dX0_append_38 : decode cX0_append 38 = .ok (.iastore, 1) := by decide +kernel
theorem dX0_append_39 : decode cX0_append 39 = .ok (.aload_n 0, 1) := by decide +kernel
theorem dX0_append_40 : decode cX0_append 40 = .ok (.dup, 1) := by decide +kernel
theorem dX0_append_41 : decode cX0_append 41 = .ok (.getfield 21, 3) := by decide +kernel
theorem dX0_append_44 : decode cX0_append 44 = .ok (.iconst 1, 1) := by decide +kernel
theorem dX0_append_45 : decode cX0_append 45 = .ok (.iadd, 1) := by decide +kernel
theorem dX0_append_46 : decode cX0_append 46 = .ok (.putfield 21, 3) := by decide +kernel
theorem dX0_append_49 : decode cX0_append 49 = .ok (.return_, 1) := by decide +kernel
theorem dX0_comesOut_0 : decode cX0_comesOut 0 = .ok (.iconst 0, 1) := by decide +kernel
theorem dX0_comesOut_1 : decode cX0_comesOut 1 = .ok (.istore_n 2, 1) := by decide +kernel
theorem dX0_comesOut_2 : decode cX0_comesOut 2 = .ok (.iload_n 2, 1) := by decide +kernel
theorem dX0_comesOut_3 : decode cX0_comesOut 3 = .ok (.aload_n 0, 1) := by decide +kernel
theorem dX0_comesOut_4 : decode cX0_comesOut 4 = .ok (.getfield 21, 3) := by decide +kernel
theorem dX0_comesOut_7 : decode cX0_comesOut 7 = .ok (.if_icmp .ge 36, 3) := by decide +kernel
theorem dX0_comesOut_10 : decode cX0_comesOut 10 = .ok (.aload_n 1, 1) := by decide +kernel
theorem dX0_comesOut_11 : decode cX0_comesOut 11 = .ok (.aload_n 0, 1) := by decide +kernel
theorem dX0_comesOut_12 : decode cX0_comesOut 12 = .ok (.getfield 9, 3) := by decide +kernel
theorem dX0_comesOut_15 : decode cX0_comesOut 15 = .ok (.iload_n 2, 1) := by decide +kernel
theorem dX0_comesOut_16 : decode cX0_comesOut 16 = .ok (.iaload, 1) := by decide +kernel
theorem dX0_comesOut_17 : decode cX0_comesOut 17 = .ok (.aload_n 0, 1) := by decide +kernel
theorem dX0_comesOut_18 : decode cX0_comesOut 18 = .ok (.getfield 15, 3) := by decide +kernel
theorem dX0_comesOut_21 : decode cX0_comesOut 21 = .ok (.iload_n 2, 1) := by decide +kernel
theorem dX0_comesOut_22 : decode cX0_comesOut 22 = .ok (.iaload, 1) := by decide +kernel
theorem dX0_comesOut_23 : decode cX0_comesOut 23 = .ok (.invokevirtual 25, 3) := by decide +kernel
theorem dX0_comesOut_26 : decode cX0_comesOut 26 = .ok (.aload_n 0, 1) := by decide +kernel
theorem dX0_comesOut_27 : decode cX0_comesOut 27 = .ok (.getfield 18, 3) := by decide +kernel
theorem dX0_comesOut_30 : decode cX0_comesOut 30 = .ok (.iload_n 2, 1) := by decide +kernel
theorem dX0_comesOut_31 : decode cX0_comesOut 31 = .ok (.iaload, 1) := by decide +kernel
theorem dX0_comesOut_32 : decode cX0_comesOut 32 = .ok (.if_icmp .eq 5, 3) := by decide +kernel
theorem dX0_comesOut_35 : decode cX0_comesOut 35 = .ok (.iconst 0, 1) := by decide +kernel
theorem dX0_comesOut_36 : decode cX0_comesOut 36 = .ok (.ireturn, 1) := by decide +kernel
theorem dX0_comesOut_37 : decode cX0_comesOut 37 = .ok (.iinc 2 1, 3) := by decide +kernel
theorem dX0_comesOut_40 : decode cX0_comesOut 40 = .ok (.goto (-38), 3) := by decide +kernel
theorem dX0_comesOut_43 : decode cX0_comesOut 43 = .ok (.iconst 1, 1) := by decide +kernel
theorem dX0_comesOut_44 : decode cX0_comesOut 44 = .ok (.ireturn, 1) := by decide +kernel
theorem dX1_init_0 : decode cX1_init 0 = .ok (.aload_n 0, 1) := by decide +kernel
theorem dX1_init_1 : decode cX1_init 1 = .ok (.invokespecial 3, 3) := by decide +kernel
theorem dX1_init_4 : decode cX1_init 4 = .ok (.aload_n 0, 1) := by decide +kernel
theorem dX1_init_5 : decode cX1_init 5 = .ok (.bipush 12, 2) := by decide +kernel
theorem dX1_init_7 : decode cX1_init 7 = .ok (.newarray .int, 2) := by decide +kernel
theorem dX1_init_9 : decode cX1_init 9 = .ok (.putfield 9, 3) := by decide +kernel
theorem dX1_init_12 : decode cX1_init 12 = .ok (.aload_n 0, 1) := by decide +kernel
theorem dX1_init_13 : decode cX1_init 13 = .ok (.bipush 12, 2) := by decide +kernel
theorem dX1_init_15 : decode cX1_init 15 = .ok (.newarray .int, 2) := by decide +kernel
theorem dX1_init_17 : decode cX1_init 17 = .ok (.putfield 15, 3) := by decide +kernel
theorem dX1_init_20 : decode cX1_init 20 = .ok (.aload_n 0, 1) := by decide +kernel
theorem dX1_init_21 : decode cX1_init 21 = .ok (.bipush 8, 2) := by decide +kernel
theorem dX1_init_23 : decode cX1_init 23 = .ok (.newarray .int, 2) := by decide +kernel
theorem dX1_init_25 : decode cX1_init 25 = .ok (.putfield 18, 3) := by decide +kernel
theorem dX1_init_28 : decode cX1_init 28 = .ok (.aload_n 0, 1) := by decide +kernel
theorem dX1_init_29 : decode cX1_init 29 = .ok (.bipush 8, 2) := by decide +kernel
theorem dX1_init_31 : decode cX1_init 31 = .ok (.newarray .int, 2) := by decide +kernel
theorem dX1_init_33 : decode cX1_init 33 = .ok (.putfield 21, 3) := by decide +kernel
theorem dX1_init_36 : decode cX1_init 36 = .ok (.aload_n 0, 1) := by decide +kernel
theorem dX1_init_37 : decode cX1_init 37 = .ok (.bipush 24, 2) := by decide +kernel
theorem dX1_init_39 : decode cX1_init 39 = .ok (.newarray .int, 2) := by decide +kernel
theorem dX1_init_41 : decode cX1_init 41 = .ok (.putfield 24, 3) := by decide +kernel
theorem dX1_init_44 : decode cX1_init 44 = .ok (.aload_n 0, 1) := by decide +kernel
theorem dX1_init_45 : decode cX1_init 45 = .ok (.bipush 24, 2) := by decide +kernel
theorem dX1_init_47 : decode cX1_init 47 = .ok (.newarray .int, 2) := by decide +kernel
theorem dX1_init_49 : decode cX1_init 49 = .ok (.putfield 27, 3) := by decide +kernel
theorem dX1_init_52 : decode cX1_init 52 = .ok (.aload_n 0, 1) := by decide +kernel
theorem dX1_init_53 : decode cX1_init 53 = .ok (.bipush 24, 2) := by decide +kernel
theorem dX1_init_55 : decode cX1_init 55 = .ok (.newarray .int, 2) := by decide +kernel
theorem dX1_init_57 : decode cX1_init 57 = .ok (.putfield 30, 3) := by decide +kernel
theorem dX1_init_60 : decode cX1_init 60 = .ok (.aload_n 0, 1) := by decide +kernel
theorem dX1_init_61 : decode cX1_init 61 = .ok (.bipush 13, 2) := by decide +kernel
theorem dX1_init_63 : decode cX1_init 63 = .ok (.newarray .int, 2) := by decide +kernel
theorem dX1_init_65 : decode cX1_init 65 = .ok (.putfield 33, 3) := by decide +kernel
theorem dX1_init_68 : decode cX1_init 68 = .ok (.aload_n 0, 1) := by decide +kernel
theorem dX1_init_69 : decode cX1_init 69 = .ok (.sipush 288, 3) := by decide +kernel
theorem dX1_init_72 : decode cX1_init 72 = .ok (.newarray .int, 2) := by decide +kernel
theorem dX1_init_74 : decode cX1_init 74 = .ok (.putfield 36, 3) := by decide +kernel
theorem dX1_init_77 : decode cX1_init 77 = .ok (.aload_n 0, 1) := by decide +kernel
theorem dX1_init_78 : decode cX1_init 78 = .ok (.sipush 288, 3) := by decide +kernel
theorem dX1_init_81 : decode cX1_init 81 = .ok (.newarray .int, 2) := by decide +kernel
theorem dX1_init_83 : decode cX1_init 83 = .ok (.putfield 39, 3) := by decide +kernel
theorem dX1_init_86 : decode cX1_init 86 = .ok (.aload_n 0, 1) := by decide +kernel
theorem dX1_init_87 : decode cX1_init 87 = .ok (.sipush 192, 3) := by decide +kernel
theorem dX1_init_90 : decode cX1_init 90 = .ok (.newarray .int, 2) := by decide +kernel
theorem dX1_init_92 : decode cX1_init 92 = .ok (.putfield 42, 3) := by decide +kernel
theorem dX1_init_95 : decode cX1_init 95 = .ok (.aload_n 0, 1) := by decide +kernel
theorem dX1_init_96 : decode cX1_init 96 = .ok (.bipush 8, 2) := by decide +kernel
theorem dX1_init_98 : decode cX1_init 98 = .ok (.newarray .int, 2) := by decide +kernel
theorem dX1_init_100 : decode cX1_init 100 = .ok (.putfield 45, 3) := by decide +kernel
theorem dX1_init_103 : decode cX1_init 103 = .ok (.return_, 1) := by decide +kernel
theorem dX1_run_0 : decode cX1_run 0 = .ok (.aload_n 0, 1) := by decide +kernel
theorem dX1_run_1 : decode cX1_run 1 = .ok (.aload_n 1, 1) := by decide +kernel
theorem dX1_run_2 : decode cX1_run 2 = .ok (.invokevirtual 48, 3) := by decide +kernel
theorem dX1_run_5 : decode cX1_run 5 = .ok (.aload_n 0, 1) := by decide +kernel
theorem dX1_run_6 : decode cX1_run 6 = .ok (.aload_n 1, 1) := by decide +kernel
theorem dX1_run_7 : decode cX1_run 7 = .ok (.invokevirtual 52, 3) := by decide +kernel
theorem dX1_run_10 : decode cX1_run 10 = .ok (.aload_n 0, 1) := by decide +kernel
theorem dX1_run_11 : decode cX1_run 11 = .ok (.aload_n 1, 1) := by decide +kernel
theorem dX1_run_12 : decode cX1_run 12 = .ok (.aload_n 2, 1) := by decide +kernel
theorem dX1_run_13 : decode cX1_run 13 = .ok (.iload_n 3, 1) := by decide +kernel
theorem dX1_run_14 : decode cX1_run 14 = .ok (.invokevirtual 55, 3) := by decide +kernel
theorem dX1_run_17 : decode cX1_run 17 = .ok (.iconst 0, 1) := by decide +kernel
theorem dX1_run_18 : decode cX1_run 18 = .ok (.istore 4, 2) := by decide +kernel
theorem dX1_run_20 : decode cX1_run 20 = .ok (.iload 4, 2) := by decide +kernel
theorem dX1_run_22 : decode cX1_run 22 = .ok (.bipush 24, 2) := by decide +kernel
theorem dX1_run_24 : decode cX1_run 24 = .ok (.if_icmp .ge 122, 3) := by decide +kernel
theorem dX1_run_27 : decode cX1_run 27 = .ok (.iload 4, 2) := by decide +kernel
theorem dX1_run_29 : decode cX1_run 29 = .ok (.bipush 6, 2) := by decide +kernel
theorem dX1_run_31 : decode cX1_run 31 = .ok (.if_icmp .eq 17, 3) := by decide +kernel
theorem dX1_run_34 : decode cX1_run 34 = .ok (.iload 4, 2) := by decide +kernel
theorem dX1_run_36 : decode cX1_run 36 = .ok (.bipush 13, 2) := by decide +kernel
theorem dX1_run_38 : decode cX1_run 38 = .ok (.if_icmp .eq 10, 3) := by decide +kernel
theorem dX1_run_41 : decode cX1_run 41 = .ok (.iload 4, 2) := by decide +kernel
theorem dX1_run_43 : decode cX1_run 43 = .ok (.bipush 20, 2) := by decide +kernel
theorem dX1_run_45 : decode cX1_run 45 = .ok (.if_icmp .ne 8, 3) := by decide +kernel
theorem dX1_run_48 : decode cX1_run 48 = .ok (.aload_n 0, 1) := by decide +kernel
theorem dX1_run_49 : decode cX1_run 49 = .ok (.aload_n 1, 1) := by decide +kernel
theorem dX1_run_50 : decode cX1_run 50 = .ok (.invokevirtual 59, 3) := by decide +kernel
theorem dX1_run_53 : decode cX1_run 53 = .ok (.aload_n 0, 1) := by decide +kernel
theorem dX1_run_54 : decode cX1_run 54 = .ok (.aload_n 1, 1) := by decide +kernel
theorem dX1_run_55 : decode cX1_run 55 = .ok (.iload 4, 2) := by decide +kernel
theorem dX1_run_57 : decode cX1_run 57 = .ok (.invokevirtual 62, 3) := by decide +kernel
theorem dX1_run_60 : decode cX1_run 60 = .ok (.aload_n 0, 1) := by decide +kernel
theorem dX1_run_61 : decode cX1_run 61 = .ok (.getfield 27, 3) := by decide +kernel
theorem dX1_run_64 : decode cX1_run 64 = .ok (.iload 4, 2) := by decide +kernel
theorem dX1_run_66 : decode cX1_run 66 = .ok (.iaload, 1) := by decide +kernel
theorem dX1_run_67 : decode cX1_run 67 = .ok (.ifCond .eq 10, 3) := by decide +kernel
theorem dX1_run_70 : decode cX1_run 70 = .ok (.aload_n 0, 1) := by decide +kernel
theorem dX1_run_71 : decode cX1_run 71 = .ok (.aload_n 1, 1) := by decide +kernel
theorem dX1_run_72 : decode cX1_run 72 = .ok (.iload 4, 2) := by decide +kernel
theorem dX1_run_74 : decode cX1_run 74 = .ok (.invokevirtual 66, 3) := by decide +kernel
theorem dX1_run_77 : decode cX1_run 77 = .ok (.aload_n 0, 1) := by decide +kernel
theorem dX1_run_78 : decode cX1_run 78 = .ok (.getfield 9, 3) := by decide +kernel
theorem dX1_run_81 : decode cX1_run 81 = .ok (.iconst 0, 1) := by decide +kernel
theorem dX1_run_82 : decode cX1_run 82 = .ok (.aload_n 0, 1) := by decide +kernel
theorem dX1_run_83 : decode cX1_run 83 = .ok (.getfield 36, 3) := by decide +kernel
theorem dX1_run_86 : decode cX1_run 86 = .ok (.iload 4, 2) := by decide +kernel
theorem dX1_run_88 : decode cX1_run 88 = .ok (.bipush 12, 2) := by decide +kernel
theorem dX1_run_90 : decode cX1_run 90 = .ok (.imul, 1) := by decide +kernel
theorem dX1_run_91 : decode cX1_run 91 = .ok (.aload_n 0, 1) := by decide +kernel
theorem dX1_run_92 : decode cX1_run 92 = .ok (.getfield 69, 3) := by decide +kernel
theorem dX1_run_95 : decode cX1_run 95 = .ok (.invokestatic 73, 3) := by decide +kernel
theorem dX1_run_98 : decode cX1_run 98 = .ok (.aload_n 0, 1) := by decide +kernel
theorem dX1_run_99 : decode cX1_run 99 = .ok (.getfield 15, 3) := by decide +kernel
theorem dX1_run_102 : decode cX1_run 102 = .ok (.iconst 0, 1) := by decide +kernel
theorem dX1_run_103 : decode cX1_run 103 = .ok (.aload_n 0, 1) := by decide +kernel
theorem dX1_run_104 : decode cX1_run 104 = .ok (.getfield 39, 3) := by decide +kernel
theorem dX1_run_107 : decode cX1_run 107 = .ok (.iload 4, 2) := by decide +kernel
theorem dX1_run_109 : decode cX1_run 109 = .ok (.bipush 12, 2) := by decide +kernel
theorem dX1_run_111 : decode cX1_run 111 = .ok (.imul, 1) := by decide +kernel
theorem dX1_run_112 : decode cX1_run 112 = .ok (.aload_n 0, 1) := by decide +kernel
theorem dX1_run_113 : decode cX1_run 113 = .ok (.getfield 69, 3) := by decide +kernel
theorem dX1_run_116 : decode cX1_run 116 = .ok (.invokestatic 73, 3) := by decide +kernel
theorem dX1_run_119 : decode cX1_run 119 = .ok (.aload_n 0, 1) := by decide +kernel
theorem dX1_run_120 : decode cX1_run 120 = .ok (.getfield 18, 3) := by decide +kernel
theorem dX1_run_123 : decode cX1_run 123 = .ok (.iconst 0, 1) := by decide +kernel
theorem dX1_run_124 : decode cX1_run 124 = .ok (.aload_n 0, 1) := by decide +kernel
theorem dX1_run_125 : decode cX1_run 125 = .ok (.getfield 42, 3) := by decide +kernel
theorem dX1_run_128 : decode cX1_run 128 = .ok (.iload 4, 2) := by decide +kernel
theorem dX1_run_130 : decode cX1_run 130 = .ok (.bipush 8, 2) := by decide +kernel
theorem dX1_run_132 : decode cX1_run 132 = .ok (.imul, 1) := by decide +kernel
theorem dX1_run_133 : decode cX1_run 133 = .ok (.aload_n 1, 1) := by decide +kernel
theorem dX1_run_134 : decode cX1_run 134 = .ok (.getfield 79, 3) := by decide +kernel
theorem dX1_run_137 : decode cX1_run 137 = .ok (.invokestatic 73, 3) := by decide +kernel
theorem dX1_run_140 : decode cX1_run 140 = .ok (.iinc 4 1, 3) := by decide +kernel
theorem dX1_run_143 : decode cX1_run 143 = .ok (.goto (-123), 3) := by decide +kernel
theorem dX1_run_146 : decode cX1_run 146 = .ok (.return_, 1) := by decide +kernel
theorem dX1_beginWords_0 : decode cX1_beginWords 0 = .ok (.aload_n 0, 1) := by decide +kernel
theorem dX1_beginWords_1 : decode cX1_beginWords 1 = .ok (.aload_n 1, 1) := by decide +kernel
theorem dX1_beginWords_2 : decode cX1_beginWords 2 = .ok (.getfield 84, 3) := by decide +kernel
theorem dX1_beginWords_5 : decode cX1_beginWords 5 = .ok (.putfield 69, 3) := by decide +kernel
theorem dX1_beginWords_8 : decode cX1_beginWords 8 = .ok (.iconst 0, 1) := by decide +kernel
theorem dX1_beginWords_9 : decode cX1_beginWords 9 = .ok (.istore_n 2, 1) := by decide +kernel
theorem dX1_beginWords_10 : decode cX1_beginWords 10 = .ok (.iload_n 2, 1) := by decide +kernel
theorem dX1_beginWords_11 : decode cX1_beginWords 11 = .ok (.aload_n 0, 1) := by decide +kernel
theorem dX1_beginWords_12 : decode cX1_beginWords 12 = .ok (.getfield 69, 3) := by decide +kernel
theorem dX1_beginWords_15 : decode cX1_beginWords 15 = .ok (.if_icmp .ge 51, 3) := by decide +kernel
theorem dX1_beginWords_18 : decode cX1_beginWords 18 = .ok (.aload_n 0, 1) := by decide +kernel
theorem dX1_beginWords_19 : decode cX1_beginWords 19 = .ok (.getfield 9, 3) := by decide +kernel
theorem dX1_beginWords_22 : decode cX1_beginWords 22 = .ok (.iload_n 2, 1) := by decide +kernel
theorem dX1_beginWords_23 : decode cX1_beginWords 23 = .ok (.aload_n 1, 1) := by decide +kernel
theorem dX1_beginWords_24 : decode cX1_beginWords 24 = .ok (.aload_n 1, 1) := by decide +kernel
theorem dX1_beginWords_25 : decode cX1_beginWords 25 = .ok (.getfield 85, 3) := by decide +kernel
theorem dX1_beginWords_28 : decode cX1_beginWords 28 = .ok (.iload_n 2, 1) := by decide +kernel
theorem dX1_beginWords_29 : decode cX1_beginWords 29 = .ok (.iaload, 1) := by decide +kernel
theorem dX1_beginWords_30 : decode cX1_beginWords 30 = .ok (.aload_n 1, 1) := by decide +kernel
theorem dX1_beginWords_31 : decode cX1_beginWords 31 = .ok (.getfield 88, 3) := by decide +kernel
theorem dX1_beginWords_34 : decode cX1_beginWords 34 = .ok (.iload_n 2, 1) := by decide +kernel
theorem dX1_beginWords_35 : decode cX1_beginWords 35 = .ok (.iaload, 1) := by decide +kernel
theorem dX1_beginWords_36 : decode cX1_beginWords 36 = .ok (.invokevirtual 91, 3) := by decide +kernel
theorem dX1_beginWords_39 : decode cX1_beginWords 39 = .ok (.ifCond .eq 7, 3) := by decide +kernel
theorem dX1_beginWords_42 : decode cX1_beginWords 42 = .ok (.iconst 0, 1) := by decide +kernel
theorem dX1_beginWords_43 : decode cX1_beginWords 43 = .ok (.goto 4, 3) := by decide +kernel
theorem dX1_beginWords_46 : decode cX1_beginWords 46 = .ok (.iconst 4, 1) := by decide +kernel
theorem dX1_beginWords_47 : decode cX1_beginWords 47 = .ok (.iastore, 1) := by decide +kernel
theorem dX1_beginWords_48 : decode cX1_beginWords 48 = .ok (.aload_n 0, 1) := by decide +kernel
theorem dX1_beginWords_49 : decode cX1_beginWords 49 = .ok (.getfield 15, 3) := by decide +kernel
theorem dX1_beginWords_52 : decode cX1_beginWords 52 = .ok (.iload_n 2, 1) := by decide +kernel
theorem dX1_beginWords_53 : decode cX1_beginWords 53 = .ok (.aload_n 1, 1) := by decide +kernel
theorem dX1_beginWords_54 : decode cX1_beginWords 54 = .ok (.getfield 95, 3) := by decide +kernel
theorem dX1_beginWords_57 : decode cX1_beginWords 57 = .ok (.iload_n 2, 1) := by decide +kernel
theorem dX1_beginWords_58 : decode cX1_beginWords 58 = .ok (.iaload, 1) := by decide +kernel
theorem dX1_beginWords_59 : decode cX1_beginWords 59 = .ok (.iastore, 1) := by decide +kernel
theorem dX1_beginWords_60 : decode cX1_beginWords 60 = .ok (.iinc 2 1, 3) := by decide +kernel
theorem dX1_beginWords_63 : decode cX1_beginWords 63 = .ok (.goto (-53), 3) := by decide +kernel
theorem dX1_beginWords_66 : decode cX1_beginWords 66 = .ok (.return_, 1) := by decide +kernel
theorem dX1_beginPeople_0 : decode cX1_beginPeople 0 = .ok (.aload_n 0, 1) := by decide +kernel
theorem dX1_beginPeople_1 : decode cX1_beginPeople 1 = .ok (.iconst 0, 1) := by decide +kernel
theorem dX1_beginPeople_2 : decode cX1_beginPeople 2 = .ok (.putfield 98, 3) := by decide +kernel
theorem dX1_beginPeople_5 : decode cX1_beginPeople 5 = .ok (.iconst 0, 1) := by decide +kernel
theorem dX1_beginPeople_6 : decode cX1_beginPeople 6 = .ok (.istore_n 2, 1) := by decide +kernel
theorem dX1_beginPeople_7 : decode cX1_beginPeople 7 = .ok (.iload_n 2, 1) := by decide +kernel
theorem dX1_beginPeople_8 : decode cX1_beginPeople 8 = .ok (.aload_n 1, 1) := by decide +kernel
theorem dX1_beginPeople_9 : decode cX1_beginPeople 9 = .ok (.getfield 79, 3) := by decide +kernel
theorem dX1_beginPeople_12 : decode cX1_beginPeople 12 = .ok (.if_icmp .ge 23, 3) := by decide +kernel
theorem dX1_beginPeople_15 : decode cX1_beginPeople 15 = .ok (.aload_n 0, 1) := by decide +kernel
theorem dX1_beginPeople_16 : decode cX1_beginPeople 16 = .ok (.getfield 18, 3) := by decide +kernel
theorem dX1_beginPeople_19 : decode cX1_beginPeople 19 = .ok (.iload_n 2, 1) := by decide +kernel
theorem dX1_beginPeople_20 : decode cX1_beginPeople 20 = .ok (.iconst 0, 1) := by decide +kernel
theorem dX1_beginPeople_21 : decode cX1_beginPeople 21 = .ok (.iastore, 1) := by decide +kernel
theorem dX1_beginPeople_22 : decode cX1_beginPeople 22 = .ok (.aload_n 0, 1) := by decide +kernel
theorem dX1_beginPeople_23 : decode cX1_beginPeople 23 = .ok (.getfield 21, 3) := by decide +kernel
theorem dX1_beginPeople_26 : decode cX1_beginPeople 26 = .ok (.iload_n 2, 1) := by decide +kernel
theorem dX1_beginPeople_27 : decode cX1_beginPeople 27 = .ok (.iconst 0, 1) := by decide +kernel
theorem dX1_beginPeople_28 : decode cX1_beginPeople 28 = .ok (.iastore, 1) := by decide +kernel
theorem dX1_beginPeople_29 : decode cX1_beginPeople 29 = .ok (.iinc 2 1, 3) := by decide +kernel
theorem dX1_beginPeople_32 : decode cX1_beginPeople 32 = .ok (.goto (-25), 3) := by decide +kernel
theorem dX1_beginPeople_35 : decode cX1_beginPeople 35 = .ok (.return_, 1) := by decide +kernel
theorem dX1_beginDays_0 : decode cX1_beginDays 0 = .ok (.iconst 0, 1) := by decide +kernel
theorem dX1_beginDays_1 : decode cX1_beginDays 1 = .ok (.istore 4, 2) := by decide +kernel
theorem dX1_beginDays_3 : decode cX1_beginDays 3 = .ok (.iload 4, 2) := by decide +kernel
theorem dX1_beginDays_5 : decode cX1_beginDays 5 = .ok (.bipush 24, 2) := by decide +kernel
theorem dX1_beginDays_7 : decode cX1_beginDays 7 = .ok (.if_icmp .ge 33, 3) := by decide +kernel
theorem dX1_beginDays_10 : decode cX1_beginDays 10 = .ok (.aload_n 0, 1) := by decide +kernel
theorem dX1_beginDays_11 : decode cX1_beginDays 11 = .ok (.getfield 24, 3) := by decide +kernel
theorem dX1_beginDays_14 : decode cX1_beginDays 14 = .ok (.iload 4, 2) := by decide +kernel
theorem dX1_beginDays_16 : decode cX1_beginDays 16 = .ok (.iconst 0, 1) := by decide +kernel
theorem dX1_beginDays_17 : decode cX1_beginDays 17 = .ok (.iastore, 1) := by decide +kernel
theorem dX1_beginDays_18 : decode cX1_beginDays 18 = .ok (.aload_n 0, 1) := by decide +kernel
theorem dX1_beginDays_19 : decode cX1_beginDays 19 = .ok (.getfield 27, 3) := by decide +kernel
theorem dX1_beginDays_22 : decode cX1_beginDays 22 = .ok (.iload 4, 2) := by decide +kernel
theorem dX1_beginDays_24 : decode cX1_beginDays 24 = .ok (.iconst 0, 1) := by decide +kernel
theorem dX1_beginDays_25 : decode cX1_beginDays 25 = .ok (.iastore, 1) := by decide +kernel
theorem dX1_beginDays_26 : decode cX1_beginDays 26 = .ok (.aload_n 0, 1) := by decide +kernel
theorem dX1_beginDays_27 : decode cX1_beginDays 27 = .ok (.getfield 30, 3) := by decide +kernel
theorem dX1_beginDays_30 : decode cX1_beginDays 30 = .ok (.iload 4, 2) := by decide +kernel
theorem dX1_beginDays_32 : decode cX1_beginDays 32 = .ok (.iconst (-1), 1) := by decide +kernel
theorem dX1_beginDays_33 : decode cX1_beginDays 33 = .ok (.iastore, 1) := by decide +kernel
theorem dX1_beginDays_34 : decode cX1_beginDays 34 = .ok (.iinc 4 1, 3) := by decide +kernel
theorem dX1_beginDays_37 : decode cX1_beginDays 37 = .ok (.goto (-34), 3) := by decide +kernel
theorem dX1_beginDays_40 : decode cX1_beginDays 40 = .ok (.iconst 0, 1) := by decide +kernel
theorem dX1_beginDays_41 : decode cX1_beginDays 41 = .ok (.istore 4, 2) := by decide +kernel
theorem dX1_beginDays_43 : decode cX1_beginDays 43 = .ok (.iload 4, 2) := by decide +kernel
theorem dX1_beginDays_45 : decode cX1_beginDays 45 = .ok (.aload_n 2, 1) := by decide +kernel
theorem dX1_beginDays_46 : decode cX1_beginDays 46 = .ok (.getfield 101, 3) := by decide +kernel
theorem dX1_beginDays_49 : decode cX1_beginDays 49 = .ok (.if_icmp .ge 42, 3) := by decide +kernel
theorem dX1_beginDays_52 : decode cX1_beginDays 52 = .ok (.iload_n 3, 1) := by decide +kernel
theorem dX1_beginDays_53 : decode cX1_beginDays 53 = .ok (.iload 4, 2) := by decide +kernel
theorem dX1_beginDays_55 : decode cX1_beginDays 55 = .ok (.ishr, 1) := by decide +kernel
theorem dX1_beginDays_56 : decode cX1_beginDays 56 = .ok (.iconst 1, 1) := by decide +kernel
theorem dX1_beginDays_57 : decode cX1_beginDays 57 = .ok (.iand, 1) := by decide +kernel
theorem dX1_beginDays_58 : decode cX1_beginDays 58 = .ok (.ifCond .eq 27, 3) := by decide +kernel
theorem dX1_beginDays_61 : decode cX1_beginDays 61 = .ok (.aload_n 0, 1) := by decide +kernel
theorem dX1_beginDays_62 : decode cX1_beginDays 62 = .ok (.getfield 24, 3) := by decide +kernel
theorem dX1_beginDays_65 : decode cX1_beginDays 65 = .ok (.aload_n 2, 1) := by decide +kernel
theorem dX1_beginDays_66 : decode cX1_beginDays 66 = .ok (.getfield 106, 3) := by decide +kernel
theorem dX1_beginDays_69 : decode cX1_beginDays 69 = .ok (.iload 4, 2) := by decide +kernel
theorem dX1_beginDays_71 : decode cX1_beginDays 71 = .ok (.iaload, 1) := by decide +kernel
theorem dX1_beginDays_72 : decode cX1_beginDays 72 = .ok (.dup2, 1) := by decide +kernel
theorem dX1_beginDays_73 : decode cX1_beginDays 73 = .ok (.iaload, 1) := by decide +kernel
theorem dX1_beginDays_74 : decode cX1_beginDays 74 = .ok (.iconst 1, 1) := by decide +kernel
theorem dX1_beginDays_75 : decode cX1_beginDays 75 = .ok (.aload_n 2, 1) := by decide +kernel
theorem dX1_beginDays_76 : decode cX1_beginDays 76 = .ok (.getfield 109, 3) := by decide +kernel
theorem dX1_beginDays_79 : decode cX1_beginDays 79 = .ok (.iload 4, 2) := by decide +kernel
theorem dX1_beginDays_81 : decode cX1_beginDays 81 = .ok (.iaload, 1) := by decide +kernel
theorem dX1_beginDays_82 : decode cX1_beginDays 82 = .ok (.ishl, 1) := by decide +kernel
theorem dX1_beginDays_83 : decode cX1_beginDays 83 = .ok (.ior, 1) := by decide +kernel
theorem dX1_beginDays_84 : decode cX1_beginDays 84 = .ok (.iastore, 1) := by decide +kernel
theorem dX1_beginDays_85 : decode cX1_beginDays 85 = .ok (.iinc 4 1, 3) := by decide +kernel
theorem dX1_beginDays_88 : decode cX1_beginDays 88 = .ok (.goto (-45), 3) := by decide +kernel
theorem dX1_beginDays_91 : decode cX1_beginDays 91 = .ok (.iconst 0, 1) := by decide +kernel
theorem dX1_beginDays_92 : decode cX1_beginDays 92 = .ok (.istore 4, 2) := by decide +kernel
theorem dX1_beginDays_94 : decode cX1_beginDays 94 = .ok (.iload 4, 2) := by decide +kernel
theorem dX1_beginDays_96 : decode cX1_beginDays 96 = .ok (.aload_n 1, 1) := by decide +kernel
theorem dX1_beginDays_97 : decode cX1_beginDays 97 = .ok (.getfield 79, 3) := by decide +kernel
theorem dX1_beginDays_100 : decode cX1_beginDays 100 = .ok (.if_icmp .ge 28, 3) := by decide +kernel
theorem dX1_beginDays_103 : decode cX1_beginDays 103 = .ok (.aload_n 0, 1) := by decide +kernel
theorem dX1_beginDays_104 : decode cX1_beginDays 104 = .ok (.getfield 27, 3) := by decide +kernel
theorem dX1_beginDays_107 : decode cX1_beginDays 107 = .ok (.aload_n 1, 1) := by decide +kernel
theorem dX1_beginDays_108 : decode cX1_beginDays 108 = .ok (.getfield 112, 3) := by decide +kernel
theorem dX1_beginDays_111 : decode cX1_beginDays 111 = .ok (.iload 4, 2) := by decide +kernel
theorem dX1_beginDays_113 : decode cX1_beginDays 113 = .ok (.iaload, 1) := by decide +kernel
theorem dX1_beginDays_114 : decode cX1_beginDays 114 = .ok (.dup2, 1) := by decide +kernel
theorem dX1_beginDays_115 : decode cX1_beginDays 115 = .ok (.iaload, 1) := by decide +kernel
theorem dX1_beginDays_116 : decode cX1_beginDays 116 = .ok (.iconst 1, 1) := by decide +kernel
theorem dX1_beginDays_117 : decode cX1_beginDays 117 = .ok (.iload 4, 2) := by decide +kernel
theorem dX1_beginDays_119 : decode cX1_beginDays 119 = .ok (.ishl, 1) := by decide +kernel
theorem dX1_beginDays_120 : decode cX1_beginDays 120 = .ok (.ior, 1) := by decide +kernel
theorem dX1_beginDays_121 : decode cX1_beginDays 121 = .ok (.iastore, 1) := by decide +kernel
theorem dX1_beginDays_122 : decode cX1_beginDays 122 = .ok (.iinc 4 1, 3) := by decide +kernel
theorem dX1_beginDays_125 : decode cX1_beginDays 125 = .ok (.goto (-31), 3) := by decide +kernel
theorem dX1_beginDays_128 : decode cX1_beginDays 128 = .ok (.aload_n 1, 1) := by decide +kernel
theorem dX1_beginDays_129 : decode cX1_beginDays 129 = .ok (.getfield 115, 3) := by decide +kernel
theorem dX1_beginDays_132 : decode cX1_beginDays 132 = .ok (.iconst 1, 1) := by decide +kernel
theorem dX1_beginDays_133 : decode cX1_beginDays 133 = .ok (.isub, 1) := by decide +kernel
theorem dX1_beginDays_134 : decode cX1_beginDays 134 = .ok (.istore 4, 2) := by decide +kernel
theorem dX1_beginDays_136 : decode cX1_beginDays 136 = .ok (.iload 4, 2) := by decide +kernel
theorem dX1_beginDays_138 : decode cX1_beginDays 138 = .ok (.ifCond .lt 42, 3) := by decide +kernel
theorem dX1_beginDays_141 : decode cX1_beginDays 141 = .ok (.aload_n 0, 1) := by decide +kernel
theorem dX1_beginDays_142 : decode cX1_beginDays 142 = .ok (.getfield 33, 3) := by decide +kernel
theorem dX1_beginDays_145 : decode cX1_beginDays 145 = .ok (.iload 4, 2) := by decide +kernel
theorem dX1_beginDays_147 : decode cX1_beginDays 147 = .ok (.aload_n 0, 1) := by decide +kernel
theorem dX1_beginDays_148 : decode cX1_beginDays 148 = .ok (.getfield 30, 3) := by decide +kernel
theorem dX1_beginDays_151 : decode cX1_beginDays 151 = .ok (.aload_n 1, 1) := by decide +kernel
theorem dX1_beginDays_152 : decode cX1_beginDays 152 = .ok (.getfield 118, 3) := by decide +kernel
theorem dX1_beginDays_155 : decode cX1_beginDays 155 = .ok (.iload 4, 2) := by decide +kernel
theorem dX1_beginDays_157 : decode cX1_beginDays 157 = .ok (.iaload, 1) := by decide +kernel
theorem dX1_beginDays_158 : decode cX1_beginDays 158 = .ok (.iaload, 1) := by decide +kernel
theorem dX1_beginDays_159 : decode cX1_beginDays 159 = .ok (.iastore, 1) := by decide +kernel
theorem dX1_beginDays_160 : decode cX1_beginDays 160 = .ok (.aload_n 0, 1) := by decide +kernel
theorem dX1_beginDays_161 : decode cX1_beginDays 161 = .ok (.getfield 30, 3) := by decide +kernel
theorem dX1_beginDays_164 : decode cX1_beginDays 164 = .ok (.aload_n 1, 1) := by decide +kernel
theorem dX1_beginDays_165 : decode cX1_beginDays 165 = .ok (.getfield 118, 3) := by decide +kernel
theorem dX1_beginDays_168 : decode cX1_beginDays 168 = .ok (.iload 4, 2) := by decide +kernel
theorem dX1_beginDays_170 : decode cX1_beginDays 170 = .ok (.iaload, 1) := by decide +kernel
theorem dX1_beginDays_171 : decode cX1_beginDays 171 = .ok (.iload 4, 2) := by decide +kernel
theorem dX1_beginDays_173 : decode cX1_beginDays 173 = .ok (.iastore, 1) := by decide +kernel
theorem dX1_beginDays_174 : decode cX1_beginDays 174 = .ok (.iinc 4 (-1), 3) := by decide +kernel
theorem dX1_beginDays_177 : decode cX1_beginDays 177 = .ok (.goto (-41), 3) := by decide +kernel
theorem dX1_beginDays_180 : decode cX1_beginDays 180 = .ok (.return_, 1) := by decide +kernel
theorem dX1_growDebts_0 : decode cX1_growDebts 0 = .ok (.iconst 0, 1) := by decide +kernel
theorem dX1_growDebts_1 : decode cX1_growDebts 1 = .ok (.istore_n 2, 1) := by decide +kernel
theorem dX1_growDebts_2 : decode cX1_growDebts 2 = .ok (.iload_n 2, 1) := by decide +kernel
theorem dX1_growDebts_3 : decode cX1_growDebts 3 = .ok (.aload_n 0, 1) := by decide +kernel
theorem dX1_growDebts_4 : decode cX1_growDebts 4 = .ok (.getfield 69, 3) := by decide +kernel
theorem dX1_growDebts_7 : decode cX1_growDebts 7 = .ok (.if_icmp .ge 58, 3) := by decide +kernel
theorem dX1_growDebts_10 : decode cX1_growDebts 10 = .ok (.aload_n 0, 1) := by decide +kernel
theorem dX1_growDebts_11 : decode cX1_growDebts 11 = .ok (.getfield 9, 3) := by decide +kernel
theorem dX1_growDebts_14 : decode cX1_growDebts 14 = .ok (.iload_n 2, 1) := by decide +kernel
theorem dX1_growDebts_15 : decode cX1_growDebts 15 = .ok (.iaload, 1) := by decide +kernel
theorem dX1_growDebts_16 : decode cX1_growDebts 16 = .ok (.ifCond .ne 43, 3) := by decide +kernel
theorem dX1_growDebts_19 : decode cX1_growDebts 19 = .ok (.aload_n 1, 1) := by decide +kernel
theorem dX1_growDebts_20 : decode cX1_growDebts 20 = .ok (.getfield 119, 3) := by decide +kernel
theorem dX1_growDebts_23 : decode cX1_growDebts 23 = .ok (.aload_n 1, 1) := by decide +kernel
theorem dX1_growDebts_24 : decode cX1_growDebts 24 = .ok (.getfield 85, 3) := by decide +kernel
theorem dX1_growDebts_27 : decode cX1_growDebts 27 = .ok (.iload_n 2, 1) := by decide +kernel
theorem dX1_growDebts_28 : decode cX1_growDebts 28 = .ok (.iaload, 1) := by decide +kernel
theorem dX1_growDebts_29 : decode cX1_growDebts 29 = .ok (.iaload, 1) := by decide +kernel
theorem dX1_growDebts_30 : decode cX1_growDebts 30 = .ok (.iconst 3, 1) := by decide +kernel
theorem dX1_growDebts_31 : decode cX1_growDebts 31 = .ok (.if_icmp .ne 7, 3) := by decide +kernel
theorem dX1_growDebts_34 : decode cX1_growDebts 34 = .ok (.iconst 2, 1) := by decide +kernel
theorem dX1_growDebts_35 : decode cX1_growDebts 35 = .ok (.goto 4, 3) := by decide +kernel
theorem dX1_growDebts_38 : decode cX1_growDebts 38 = .ok (.iconst 1, 1) := by decide +kernel
theorem dX1_growDebts_39 : decode cX1_growDebts 39 = .ok (.istore_n 3, 1) := by decide +kernel
theorem dX1_growDebts_40 : decode cX1_growDebts 40 = .ok (.aload_n 0, 1) := by decide +kernel
theorem dX1_growDebts_41 : decode cX1_growDebts 41 = .ok (.getfield 15, 3) := by decide +kernel
theorem dX1_growDebts_44 : decode cX1_growDebts 44 = .ok (.iload_n 2, 1) := by decide +kernel
theorem dX1_growDebts_45 : decode cX1_growDebts 45 = .ok (.aload_n 0, 1) := by decide +kernel
theorem dX1_growDebts_46 : decode cX1_growDebts 46 = .ok (.getfield 15, 3) := by decide +kernel
theorem dX1_growDebts_49 : decode cX1_growDebts 49 = .ok (.iload_n 2, 1) := by decide +kernel
theorem dX1_growDebts_50 : decode cX1_growDebts 50 = .ok (.iaload, 1) := by decide +kernel
theorem dX1_growDebts_51 : decode cX1_growDebts 51 = .ok (.iload_n 3, 1) := by decide +kernel
theorem dX1_growDebts_52 : decode cX1_growDebts 52 = .ok (.iadd, 1) := by decide +kernel
theorem dX1_growDebts_53 : decode cX1_growDebts 53 = .ok (.bipush 9, 2) := by decide +kernel
theorem dX1_growDebts_55 : decode cX1_growDebts 55 = .ok (.invokestatic 122, 3) := by decide +kernel
theorem dX1_growDebts_58 : decode cX1_growDebts 58 = .ok (.iastore, 1) := by decide +kernel
theorem dX1_growDebts_59 : decode cX1_growDebts 59 = .ok (.iinc 2 1, 3) := by decide +kernel
theorem dX1_growDebts_62 : decode cX1_growDebts 62 = .ok (.goto (-60), 3) := by decide +kernel
theorem dX1_growDebts_65 : decode cX1_growDebts 65 = .ok (.return_, 1) := by decide +kernel
theorem dX1_holdMeetings_0 : decode cX1_holdMeetings 0 = .ok (.aload_n 0, 1) := by decide +kernel
theorem dX1_holdMeetings_1 : decode cX1_holdMeetings 1 = .ok (.getfield 30, 3) := by decide +kernel
theorem dX1_holdMeetings_4 : decode cX1_holdMeetings 4 = .ok (.iload_n 2, 1) := by decide +kernel
theorem dX1_holdMeetings_5 : decode cX1_holdMeetings 5 = .ok (.iaload, 1) := by decide +kernel
theorem dX1_holdMeetings_6 : decode cX1_holdMeetings 6 = .ok (.istore_n 3, 1) := by decide +kernel
theorem dX1_holdMeetings_7 : decode cX1_holdMeetings 7 = .ok (.iconst 0, 1) := by decide +kernel
theorem dX1_holdMeetings_8 : decode cX1_holdMeetings 8 = .ok (.istore 4, 2) := by decide +kernel
theorem dX1_holdMeetings_10 : decode cX1_holdMeetings 10 = .ok (.iload 4, 2) := by decide +kernel
theorem dX1_holdMeetings_12 : decode cX1_holdMeetings 12 = .ok (.aload_n 1, 1) := by decide +kernel
theorem dX1_holdMeetings_13 : decode cX1_holdMeetings 13 = .ok (.getfield 115, 3) := by decide +kernel
theorem dX1_holdMeetings_16 : decode cX1_holdMeetings 16 = .ok (.if_icmp .ge 118, 3) := by decide +kernel
theorem dX1_holdMeetings_19 : decode cX1_holdMeetings 19 = .ok (.iload_n 3, 1) := by decide +kernel
theorem dX1_holdMeetings_20 : decode cX1_holdMeetings 20 = .ok (.iconst (-1), 1) := by decide +kernel
theorem dX1_holdMeetings_21 : decode cX1_holdMeetings 21 = .ok (.if_icmp .eq 113, 3) := by decide +kernel
theorem dX1_holdMeetings_24 : decode cX1_holdMeetings 24 = .ok (.aload_n 1, 1) := by decide +kernel
theorem dX1_holdMeetings_25 : decode cX1_holdMeetings 25 = .ok (.getfield 128, 3) := by decide +kernel
theorem dX1_holdMeetings_28 : decode cX1_holdMeetings 28 = .ok (.iload_n 3, 1) := by decide +kernel
theorem dX1_holdMeetings_29 : decode cX1_holdMeetings 29 = .ok (.iaload, 1) := by decide +kernel
theorem dX1_holdMeetings_30 : decode cX1_holdMeetings 30 = .ok (.istore 5, 2) := by decide +kernel
theorem dX1_holdMeetings_32 : decode cX1_holdMeetings 32 = .ok (.aload_n 1, 1) := by decide +kernel
theorem dX1_holdMeetings_33 : decode cX1_holdMeetings 33 = .ok (.getfield 131, 3) := by decide +kernel
theorem dX1_holdMeetings_36 : decode cX1_holdMeetings 36 = .ok (.iload_n 3, 1) := by decide +kernel
theorem dX1_holdMeetings_37 : decode cX1_holdMeetings 37 = .ok (.iaload, 1) := by decide +kernel
theorem dX1_holdMeetings_38 : decode cX1_holdMeetings 38 = .ok (.istore 6, 2) := by decide +kernel
theorem dX1_holdMeetings_40 : decode cX1_holdMeetings 40 = .ok (.aload_n 1, 1) := by decide +kernel
theorem dX1_holdMeetings_41 : decode cX1_holdMeetings 41 = .ok (.iload 5, 2) := by decide +kernel
theorem dX1_holdMeetings_43 : decode cX1_holdMeetings 43 = .ok (.iload 6, 2) := by decide +kernel
theorem dX1_holdMeetings_45 : decode cX1_holdMeetings 45 = .ok (.invokevirtual 91, 3) := by decide +kernel
theorem dX1_holdMeetings_48 : decode cX1_holdMeetings 48 = .ok (.ifCond .eq 73, 3) := by decide +kernel
theorem dX1_holdMeetings_51 : decode cX1_holdMeetings 51 = .ok (.aload_n 0, 1) := by decide +kernel
theorem dX1_holdMeetings_52 : decode cX1_holdMeetings 52 = .ok (.getfield 98, 3) := by decide +kernel
theorem dX1_holdMeetings_55 : decode cX1_holdMeetings 55 = .ok (.iload 5, 2) := by decide +kernel
theorem dX1_holdMeetings_57 : decode cX1_holdMeetings 57 = .ok (.ishr, 1) := by decide +kernel
theorem dX1_holdMeetings_58 : decode cX1_holdMeetings 58 = .ok (.iconst 1, 1) := by decide +kernel
theorem dX1_holdMeetings_59 : decode cX1_holdMeetings 59 = .ok (.iand, 1) := by decide +kernel
theorem dX1_holdMeetings_60 : decode cX1_holdMeetings 60 = .ok (.ifCond .ne 61, 3) := by decide +kernel
theorem dX1_holdMeetings_63 : decode cX1_holdMeetings 63 = .ok (.aload_n 0, 1) := by decide +kernel
theorem dX1_holdMeetings_64 : decode cX1_holdMeetings 64 = .ok (.getfield 98, 3) := by decide +kernel
theorem dX1_holdMeetings_67 : decode cX1_holdMeetings 67 = .ok (.iload 6, 2) := by decide +kernel
theorem dX1_holdMeetings_69 : decode cX1_holdMeetings 69 = .ok (.ishr, 1) := by decide +kernel
theorem dX1_holdMeetings_70 : decode cX1_holdMeetings 70 = .ok (.iconst 1, 1) := by decide +kernel
theorem dX1_holdMeetings_71 : decode cX1_holdMeetings 71 = .ok (.iand, 1) := by decide +kernel
theorem dX1_holdMeetings_72 : decode cX1_holdMeetings 72 = .ok (.ifCond .ne 49, 3) := by decide +kernel
theorem dX1_holdMeetings_75 : decode cX1_holdMeetings 75 = .ok (.aload_n 0, 1) := by decide +kernel
theorem dX1_holdMeetings_76 : decode cX1_holdMeetings 76 = .ok (.aload_n 1, 1) := by decide +kernel
theorem dX1_holdMeetings_77 : decode cX1_holdMeetings 77 = .ok (.getfield 119, 3) := by decide +kernel
theorem dX1_holdMeetings_80 : decode cX1_holdMeetings 80 = .ok (.iload 5, 2) := by decide +kernel
theorem dX1_holdMeetings_82 : decode cX1_holdMeetings 82 = .ok (.iaload, 1) := by decide +kernel
theorem dX1_holdMeetings_83 : decode cX1_holdMeetings 83 = .ok (.iload_n 2, 1) := by decide +kernel
theorem dX1_holdMeetings_84 : decode cX1_holdMeetings 84 = .ok (.iload 5, 2) := by decide +kernel
theorem dX1_holdMeetings_86 : decode cX1_holdMeetings 86 = .ok (.aload_n 0, 1) := by decide +kernel
theorem dX1_holdMeetings_87 : decode cX1_holdMeetings 87 = .ok (.aload_n 1, 1) := by decide +kernel
theorem dX1_holdMeetings_88 : decode cX1_holdMeetings 88 = .ok (.iload 6, 2) := by decide +kernel
theorem dX1_holdMeetings_90 : decode cX1_holdMeetings 90 = .ok (.iload 5, 2) := by decide +kernel
theorem dX1_holdMeetings_92 : decode cX1_holdMeetings 92 = .ok (.invokevirtual 134, 3) := by decide +kernel
theorem dX1_holdMeetings_95 : decode cX1_holdMeetings 95 = .ok (.invokevirtual 138, 3) := by decide +kernel
theorem dX1_holdMeetings_98 : decode cX1_holdMeetings 98 = .ok (.aload_n 0, 1) := by decide +kernel
theorem dX1_holdMeetings_99 : decode cX1_holdMeetings 99 = .ok (.aload_n 1, 1) := by decide +kernel
theorem dX1_holdMeetings_100 : decode cX1_holdMeetings 100 = .ok (.getfield 119, 3) := by decide +kernel
theorem dX1_holdMeetings_103 : decode cX1_holdMeetings 103 = .ok (.iload 6, 2) := by decide +kernel
theorem dX1_holdMeetings_105 : decode cX1_holdMeetings 105 = .ok (.iaload, 1) := by decide +kernel
theorem dX1_holdMeetings_106 : decode cX1_holdMeetings 106 = .ok (.iload_n 2, 1) := by decide +kernel
theorem dX1_holdMeetings_107 : decode cX1_holdMeetings 107 = .ok (.iload 6, 2) := by decide +kernel
theorem dX1_holdMeetings_109 : decode cX1_holdMeetings 109 = .ok (.aload_n 0, 1) := by decide +kernel
theorem dX1_holdMeetings_110 : decode cX1_holdMeetings 110 = .ok (.aload_n 1, 1) := by decide +kernel
theorem dX1_holdMeetings_111 : decode cX1_holdMeetings 111 = .ok (.iload 5, 2) := by decide +kernel
theorem dX1_holdMeetings_113 : decode cX1_holdMeetings 113 = .ok (.iload 6, 2) := by decide +kernel
theorem dX1_holdMeetings_115 : decode cX1_holdMeetings 115 = .ok (.invokevirtual 134, 3) := by decide +kernel
theorem dX1_holdMeetings_118 : decode cX1_holdMeetings 118 = .ok (.invokevirtual 138, 3) := by decide +kernel
theorem dX1_holdMeetings_121 : decode cX1_holdMeetings 121 = .ok (.aload_n 0, 1) := by decide +kernel
theorem dX1_holdMeetings_122 : decode cX1_holdMeetings 122 = .ok (.getfield 33, 3) := by decide +kernel
theorem dX1_holdMeetings_125 : decode cX1_holdMeetings 125 = .ok (.iload_n 3, 1) := by decide +kernel
theorem dX1_holdMeetings_126 : decode cX1_holdMeetings 126 = .ok (.iaload, 1) := by decide +kernel
theorem dX1_holdMeetings_127 : decode cX1_holdMeetings 127 = .ok (.istore_n 3, 1) := by decide +kernel
theorem dX1_holdMeetings_128 : decode cX1_holdMeetings 128 = .ok (.iinc 4 1, 3) := by decide +kernel
theorem dX1_holdMeetings_131 : decode cX1_holdMeetings 131 = .ok (.goto (-121), 3) := by decide +kernel
theorem dX1_holdMeetings_134 : decode cX1_holdMeetings 134 = .ok (.return_, 1) := by decide +kernel
theorem dX1_speak_0 : decode cX1_speak 0 = .ok (.iload 4, 2) := by decide +kernel
theorem dX1_speak_2 : decode cX1_speak 2 = .ok (.iconst (-1), 1) := by decide +kernel
theorem dX1_speak_3 : decode cX1_speak 3 = .ok (.if_icmp .eq 8, 3) := by decide +kernel
theorem dX1_speak_6 : decode cX1_speak 6 = .ok (.iload_n 1, 1) := by decide +kernel
theorem dX1_speak_7 : decode cX1_speak 7 = .ok (.iconst 2, 1) := by decide +kernel
theorem dX1_speak_8 : decode cX1_speak 8 = .ok (.if_icmp .ne 4, 3) := by decide +kernel
theorem dX1_speak_11 : decode cX1_speak 11 = .ok (.return_, 1) := by decide +kernel
theorem dX1_speak_12 : decode cX1_speak 12 = .ok (.aload_n 0, 1) := by decide +kernel
theorem dX1_speak_13 : decode cX1_speak 13 = .ok (.getfield 21, 3) := by decide +kernel
theorem dX1_speak_16 : decode cX1_speak 16 = .ok (.iload_n 3, 1) := by decide +kernel
theorem dX1_speak_17 : decode cX1_speak 17 = .ok (.dup2, 1) := by decide +kernel
theorem dX1_speak_18 : decode cX1_speak 18 = .ok (.iaload, 1) := by decide +kernel
theorem dX1_speak_19 : decode cX1_speak 19 = .ok (.iconst 1, 1) := by decide +kernel
theorem dX1_speak_20 : decode cX1_speak 20 = .ok (.iadd, 1) := by decide +kernel
theorem dX1_speak_21 : decode cX1_speak 21 = .ok (.iastore, 1) := by decide +kernel
theorem dX1_speak_22 : decode cX1_speak 22 = .ok (.iload_n 1, 1) := by decide +kernel
theorem dX1_speak_23 : decode cX1_speak 23 = .ok (.iconst 1, 1) := by decide +kernel
theorem dX1_speak_24 : decode cX1_speak 24 = .ok (.if_icmp .ne 15, 3) := by decide +kernel
theorem dX1_speak_27 : decode cX1_speak 27 = .ok (.aload_n 0, 1) := by decide +kernel
theorem dX1_speak_28 : decode cX1_speak 28 = .ok (.getfield 21, 3) := by decide +kernel
theorem dX1_speak_31 : decode cX1_speak 31 = .ok (.iload_n 3, 1) := by decide +kernel
theorem dX1_speak_32 : decode cX1_speak 32 = .ok (.iaload, 1) := by decide +kernel
theorem dX1_speak_33 : decode cX1_speak 33 = .ok (.iconst 2, 1) := by decide +kernel
theorem dX1_speak_34 : decode cX1_speak 34 = .ok (.irem, 1) := by decide +kernel
theorem dX1_speak_35 : decode cX1_speak 35 = .ok (.ifCond .eq 4, 3) := by decide +kernel
theorem dX1_speak_38 : decode cX1_speak 38 = .ok (.return_, 1) := by decide +kernel
theorem dX1_speak_39 : decode cX1_speak 39 = .ok (.aload_n 0, 1) := by decide +kernel
theorem dX1_speak_40 : decode cX1_speak 40 = .ok (.getfield 18, 3) := by decide +kernel
theorem dX1_speak_43 : decode cX1_speak 43 = .ok (.iload_n 3, 1) := by decide +kernel
theorem dX1_speak_44 : decode cX1_speak 44 = .ok (.dup2, 1) := by decide +kernel
theorem dX1_speak_45 : decode cX1_speak 45 = .ok (.iaload, 1) := by decide +kernel
theorem dX1_speak_46 : decode cX1_speak 46 = .ok (.iconst 1, 1) := by decide +kernel
theorem dX1_speak_47 : decode cX1_speak 47 = .ok (.iadd, 1) := by decide +kernel
theorem dX1_speak_48 : decode cX1_speak 48 = .ok (.iastore, 1) := by decide +kernel
theorem dX1_speak_49 : decode cX1_speak 49 = .ok (.aload_n 0, 1) := by decide +kernel
theorem dX1_speak_50 : decode cX1_speak 50 = .ok (.getfield 24, 3) := by decide +kernel
theorem dX1_speak_53 : decode cX1_speak 53 = .ok (.iload_n 2, 1) := by decide +kernel
theorem dX1_speak_54 : decode cX1_speak 54 = .ok (.iaload, 1) := by decide +kernel
theorem dX1_speak_55 : decode cX1_speak 55 = .ok (.iload_n 3, 1) := by decide +kernel
theorem dX1_speak_56 : decode cX1_speak 56 = .ok (.ishr, 1) := by decide +kernel
theorem dX1_speak_57 : decode cX1_speak 57 = .ok (.iconst 1, 1) := by decide +kernel
theorem dX1_speak_58 : decode cX1_speak 58 = .ok (.iand, 1) := by decide +kernel
theorem dX1_speak_59 : decode cX1_speak 59 = .ok (.ifCond .eq 4, 3) := by decide +kernel
theorem dX1_speak_62 : decode cX1_speak 62 = .ok (.return_, 1) := by decide +kernel
theorem dX1_speak_63 : decode cX1_speak 63 = .ok (.aload_n 0, 1) := by decide +kernel
theorem dX1_speak_64 : decode cX1_speak 64 = .ok (.getfield 15, 3) := by decide +kernel
theorem dX1_speak_67 : decode cX1_speak 67 = .ok (.iload 4, 2) := by decide +kernel
theorem dX1_speak_69 : decode cX1_speak 69 = .ok (.dup2, 1) := by decide +kernel
theorem dX1_speak_70 : decode cX1_speak 70 = .ok (.iaload, 1) := by decide +kernel
theorem dX1_speak_71 : decode cX1_speak 71 = .ok (.iload_n 1, 1) := by decide +kernel
theorem dX1_speak_72 : decode cX1_speak 72 = .ok (.iconst 3, 1) := by decide +kernel
theorem dX1_speak_73 : decode cX1_speak 73 = .ok (.if_icmp .ne 7, 3) := by decide +kernel
theorem dX1_speak_76 : decode cX1_speak 76 = .ok (.iconst 2, 1) := by decide +kernel
theorem dX1_speak_77 : decode cX1_speak 77 = .ok (.goto 4, 3) := by decide +kernel
theorem dX1_speak_80 : decode cX1_speak 80 = .ok (.iconst 1, 1) := by decide +kernel
theorem dX1_speak_81 : decode cX1_speak 81 = .ok (.isub, 1) := by decide +kernel
theorem dX1_speak_82 : decode cX1_speak 82 = .ok (.iastore, 1) := by decide +kernel
theorem dX1_speak_83 : decode cX1_speak 83 = .ok (.aload_n 0, 1) := by decide +kernel
theorem dX1_speak_84 : decode cX1_speak 84 = .ok (.getfield 15, 3) := by decide +kernel
theorem dX1_speak_87 : decode cX1_speak 87 = .ok (.iload 4, 2) := by decide +kernel
theorem dX1_speak_89 : decode cX1_speak 89 = .ok (.iaload, 1) := by decide +kernel
theorem dX1_speak_90 : decode cX1_speak 90 = .ok (.ifCond .gt 19, 3) := by decide +kernel
theorem dX1_speak_93 : decode cX1_speak 93 = .ok (.aload_n 0, 1) := by decide +kernel
theorem dX1_speak_94 : decode cX1_speak 94 = .ok (.getfield 15, 3) := by decide +kernel
theorem dX1_speak_97 : decode cX1_speak 97 = .ok (.iload 4, 2) := by decide +kernel
theorem dX1_speak_99 : decode cX1_speak 99 = .ok (.iconst 0, 1) := by decide +kernel
theorem dX1_speak_100 : decode cX1_speak 100 = .ok (.iastore, 1) := by decide +kernel
theorem dX1_speak_101 : decode cX1_speak 101 = .ok (.aload_n 0, 1) := by decide +kernel
theorem dX1_speak_102 : decode cX1_speak 102 = .ok (.getfield 9, 3) := by decide +kernel
theorem dX1_speak_105 : decode cX1_speak 105 = .ok (.iload 4, 2) := by decide +kernel
theorem dX1_speak_107 : decode cX1_speak 107 = .ok (.iconst 1, 1) := by decide +kernel
theorem dX1_speak_108 : decode cX1_speak 108 = .ok (.iastore, 1) := by decide +kernel
theorem dX1_speak_109 : decode cX1_speak 109 = .ok (.return_, 1) := by decide +kernel
theorem dX1_leastOpen_0 : decode cX1_leastOpen 0 = .ok (.iconst 0, 1) := by decide +kernel
theorem dX1_leastOpen_1 : decode cX1_leastOpen 1 = .ok (.istore 4, 2) := by decide +kernel
theorem dX1_leastOpen_3 : decode cX1_leastOpen 3 = .ok (.iload 4, 2) := by decide +kernel
theorem dX1_leastOpen_5 : decode cX1_leastOpen 5 = .ok (.aload_n 0, 1) := by decide +kernel
theorem dX1_leastOpen_6 : decode cX1_leastOpen 6 = .ok (.getfield 69, 3) := by decide +kernel
theorem dX1_leastOpen_9 : decode cX1_leastOpen 9 = .ok (.if_icmp .ge 44, 3) := by decide +kernel
theorem dX1_leastOpen_12 : decode cX1_leastOpen 12 = .ok (.aload_n 0, 1) := by decide +kernel
theorem dX1_leastOpen_13 : decode cX1_leastOpen 13 = .ok (.getfield 9, 3) := by decide +kernel
theorem dX1_leastOpen_16 : decode cX1_leastOpen 16 = .ok (.iload 4, 2) := by decide +kernel
theorem dX1_leastOpen_18 : decode cX1_leastOpen 18 = .ok (.iaload, 1) := by decide +kernel
theorem dX1_leastOpen_19 : decode cX1_leastOpen 19 = .ok (.ifCond .ne 28, 3) := by decide +kernel
theorem dX1_leastOpen_22 : decode cX1_leastOpen 22 = .ok (.aload_n 1, 1) := by decide +kernel
theorem dX1_leastOpen_23 : decode cX1_leastOpen 23 = .ok (.getfield 85, 3) := by decide +kernel
theorem dX1_leastOpen_26 : decode cX1_leastOpen 26 = .ok (.iload 4, 2) := by decide +kernel
theorem dX1_leastOpen_28 : decode cX1_leastOpen 28 = .ok (.iaload, 1) := by decide +kernel
theorem dX1_leastOpen_29 : decode cX1_leastOpen 29 = .ok (.iload_n 2, 1) := by decide +kernel
theorem dX1_leastOpen_30 : decode cX1_leastOpen 30 = .ok (.if_icmp .ne 17, 3) := by decide +kernel
theorem dX1_leastOpen_33 : decode cX1_leastOpen 33 = .ok (.aload_n 1, 1) := by decide +kernel
theorem dX1_leastOpen_34 : decode cX1_leastOpen 34 = .ok (.getfield 88, 3) := by decide +kernel
theorem dX1_leastOpen_37 : decode cX1_leastOpen 37 = .ok (.iload 4, 2) := by decide +kernel
theorem dX1_leastOpen_39 : decode cX1_leastOpen 39 = .ok (.iaload, 1) := by decide +kernel
theorem dX1_leastOpen_40 : decode cX1_leastOpen 40 = .ok (.iload_n 3, 1) := by decide +kernel
theorem dX1_leastOpen_41 : decode cX1_leastOpen 41 = .ok (.if_icmp .ne 6, 3) := by decide +kernel
theorem dX1_leastOpen_44 : decode cX1_leastOpen 44 = .ok (.iload 4, 2) := by decide +kernel
theorem dX1_leastOpen_46 : decode cX1_leastOpen 46 = .ok (.ireturn, 1) := by decide +kernel
theorem dX1_leastOpen_47 : decode cX1_leastOpen 47 = .ok (.iinc 4 1, 3) := by decide +kernel
theorem dX1_leastOpen_50 : decode cX1_leastOpen 50 = .ok (.goto (-47), 3) := by decide +kernel
theorem dX1_leastOpen_53 : decode cX1_leastOpen 53 = .ok (.iconst (-1), 1) := by decide +kernel
theorem dX1_leastOpen_54 : decode cX1_leastOpen 54 = .ok (.ireturn, 1) := by decide +kernel
theorem dX1_bury_0 : decode cX1_bury 0 = .ok (.iconst 0, 1) := by decide +kernel
theorem dX1_bury_1 : decode cX1_bury 1 = .ok (.istore_n 3, 1) := by decide +kernel
theorem dX1_bury_2 : decode cX1_bury 2 = .ok (.iload_n 3, 1) := by decide +kernel
theorem dX1_bury_3 : decode cX1_bury 3 = .ok (.aload_n 0, 1) := by decide +kernel
theorem dX1_bury_4 : decode cX1_bury 4 = .ok (.getfield 69, 3) := by decide +kernel
theorem dX1_bury_7 : decode cX1_bury 7 = .ok (.if_icmp .ge 74, 3) := by decide +kernel
theorem dX1_bury_10 : decode cX1_bury 10 = .ok (.aload_n 0, 1) := by decide +kernel
theorem dX1_bury_11 : decode cX1_bury 11 = .ok (.getfield 9, 3) := by decide +kernel
theorem dX1_bury_14 : decode cX1_bury 14 = .ok (.iload_n 3, 1) := by decide +kernel
theorem dX1_bury_15 : decode cX1_bury 15 = .ok (.iaload, 1) := by decide +kernel
theorem dX1_bury_16 : decode cX1_bury 16 = .ok (.ifCond .eq 6, 3) := by decide +kernel
theorem dX1_bury_19 : decode cX1_bury 19 = .ok (.goto 56, 3) := by decide +kernel
theorem dX1_bury_22 : decode cX1_bury 22 = .ok (.aload_n 0, 1) := by decide +kernel
theorem dX1_bury_23 : decode cX1_bury 23 = .ok (.getfield 27, 3) := by decide +kernel
theorem dX1_bury_26 : decode cX1_bury 26 = .ok (.iload_n 2, 1) := by decide +kernel
theorem dX1_bury_27 : decode cX1_bury 27 = .ok (.iaload, 1) := by decide +kernel
theorem dX1_bury_28 : decode cX1_bury 28 = .ok (.aload_n 1, 1) := by decide +kernel
theorem dX1_bury_29 : decode cX1_bury 29 = .ok (.getfield 88, 3) := by decide +kernel
theorem dX1_bury_32 : decode cX1_bury 32 = .ok (.iload_n 3, 1) := by decide +kernel
theorem dX1_bury_33 : decode cX1_bury 33 = .ok (.iaload, 1) := by decide +kernel
theorem dX1_bury_34 : decode cX1_bury 34 = .ok (.ishr, 1) := by decide +kernel
theorem dX1_bury_35 : decode cX1_bury 35 = .ok (.iconst 1, 1) := by decide +kernel
theorem dX1_bury_36 : decode cX1_bury 36 = .ok (.iand, 1) := by decide +kernel
theorem dX1_bury_37 : decode cX1_bury 37 = .ok (.ifCond .eq 13, 3) := by decide +kernel
theorem dX1_bury_40 : decode cX1_bury 40 = .ok (.aload_n 0, 1) := by decide +kernel
theorem dX1_bury_41 : decode cX1_bury 41 = .ok (.getfield 9, 3) := by decide +kernel
theorem dX1_bury_44 : decode cX1_bury 44 = .ok (.iload_n 3, 1) := by decide +kernel
theorem dX1_bury_45 : decode cX1_bury 45 = .ok (.iconst 3, 1) := by decide +kernel
theorem dX1_bury_46 : decode cX1_bury 46 = .ok (.iastore, 1) := by decide +kernel
theorem dX1_bury_47 : decode cX1_bury 47 = .ok (.goto 28, 3) := by decide +kernel
theorem dX1_bury_50 : decode cX1_bury 50 = .ok (.aload_n 0, 1) := by decide +kernel
theorem dX1_bury_51 : decode cX1_bury 51 = .ok (.getfield 27, 3) := by decide +kernel
theorem dX1_bury_54 : decode cX1_bury 54 = .ok (.iload_n 2, 1) := by decide +kernel
theorem dX1_bury_55 : decode cX1_bury 55 = .ok (.iaload, 1) := by decide +kernel
theorem dX1_bury_56 : decode cX1_bury 56 = .ok (.aload_n 1, 1) := by decide +kernel
theorem dX1_bury_57 : decode cX1_bury 57 = .ok (.getfield 85, 3) := by decide +kernel
theorem dX1_bury_60 : decode cX1_bury 60 = .ok (.iload_n 3, 1) := by decide +kernel
theorem dX1_bury_61 : decode cX1_bury 61 = .ok (.iaload, 1) := by decide +kernel
theorem dX1_bury_62 : decode cX1_bury 62 = .ok (.ishr, 1) := by decide +kernel
theorem dX1_bury_63 : decode cX1_bury 63 = .ok (.iconst 1, 1) := by decide +kernel
theorem dX1_bury_64 : decode cX1_bury 64 = .ok (.iand, 1) := by decide +kernel
theorem dX1_bury_65 : decode cX1_bury 65 = .ok (.ifCond .eq 10, 3) := by decide +kernel
theorem dX1_bury_68 : decode cX1_bury 68 = .ok (.aload_n 0, 1) := by decide +kernel
theorem dX1_bury_69 : decode cX1_bury 69 = .ok (.getfield 9, 3) := by decide +kernel
theorem dX1_bury_72 : decode cX1_bury 72 = .ok (.iload_n 3, 1) := by decide +kernel
theorem dX1_bury_73 : decode cX1_bury 73 = .ok (.iconst 2, 1) := by decide +kernel
theorem dX1_bury_74 : decode cX1_bury 74 = .ok (.iastore, 1) := by decide +kernel
theorem dX1_bury_75 : decode cX1_bury 75 = .ok (.iinc 3 1, 3) := by decide +kernel
theorem dX1_bury_78 : decode cX1_bury 78 = .ok (.goto (-76), 3) := by decide +kernel
theorem dX1_bury_81 : decode cX1_bury 81 = .ok (.aload_n 0, 1) := by decide +kernel
theorem dX1_bury_82 : decode cX1_bury 82 = .ok (.dup, 1) := by decide +kernel
theorem dX1_bury_83 : decode cX1_bury 83 = .ok (.getfield 98, 3) := by decide +kernel
theorem dX1_bury_86 : decode cX1_bury 86 = .ok (.aload_n 0, 1) := by decide +kernel
theorem dX1_bury_87 : decode cX1_bury 87 = .ok (.getfield 27, 3) := by decide +kernel
theorem dX1_bury_90 : decode cX1_bury 90 = .ok (.iload_n 2, 1) := by decide +kernel
theorem dX1_bury_91 : decode cX1_bury 91 = .ok (.iaload, 1) := by decide +kernel
theorem dX1_bury_92 : decode cX1_bury 92 = .ok (.ior, 1) := by decide +kernel
theorem dX1_bury_93 : decode cX1_bury 93 = .ok (.putfield 98, 3) := by decide +kernel
theorem dX1_bury_96 : decode cX1_bury 96 = .ok (.return_, 1) := by decide +kernel
theorem dX1_stateBehind_0 : decode cX1_stateBehind 0 = .ok (.iload_n 1, 1) := by decide +kernel
theorem dX1_stateBehind_1 : decode cX1_stateBehind 1 = .ok (.bipush 24, 2) := by decide +kernel
theorem dX1_stateBehind_3 : decode cX1_stateBehind 3 = .ok (.invokestatic 142, 3) := by decide +kernel
theorem dX1_stateBehind_6 : decode cX1_stateBehind 6 = .ok (.ifCond .ne 14, 3) := by decide +kernel
theorem dX1_stateBehind_9 : decode cX1_stateBehind 9 = .ok (.iload_n 2, 1) := by decide +kernel
theorem dX1_stateBehind_10 : decode cX1_stateBehind 10 = .ok (.aload_n 0, 1) := by decide +kernel
theorem dX1_stateBehind_11 : decode cX1_stateBehind 11 = .ok (.getfield 69, 3) := by decide +kernel
theorem dX1_stateBehind_14 : decode cX1_stateBehind 14 = .ok (.invokestatic 142, 3) := by decide +kernel
theorem dX1_stateBehind_17 : decode cX1_stateBehind 17 = .ok (.ifCond .eq 7, 3) := by decide +kernel
theorem dX1_stateBehind_20 : decode cX1_stateBehind 20 = .ok (.iconst (-1), 1) := by decide +kernel
theorem dX1_stateBehind_21 : decode cX1_stateBehind 21 = .ok (.goto 14, 3) := by decide +kernel
theorem dX1_stateBehind_24 : decode cX1_stateBehind 24 = .ok (.aload_n 0, 1) := by decide +kernel
theorem dX1_stateBehind_25 : decode cX1_stateBehind 25 = .ok (.getfield 36, 3) := by decide +kernel
theorem dX1_stateBehind_28 : decode cX1_stateBehind 28 = .ok (.iload_n 1, 1) := by decide +kernel
theorem dX1_stateBehind_29 : decode cX1_stateBehind 29 = .ok (.bipush 12, 2) := by decide +kernel
theorem dX1_stateBehind_31 : decode cX1_stateBehind 31 = .ok (.imul, 1) := by decide +kernel
theorem dX1_stateBehind_32 : decode cX1_stateBehind 32 = .ok (.iload_n 2, 1) := by decide +kernel
theorem dX1_stateBehind_33 : decode cX1_stateBehind 33 = .ok (.iadd, 1) := by decide +kernel
theorem dX1_stateBehind_34 : decode cX1_stateBehind 34 = .ok (.iaload, 1) := by decide +kernel
theorem dX1_stateBehind_35 : decode cX1_stateBehind 35 = .ok (.ireturn, 1) := by decide +kernel
theorem dX1_leftBehind_0 : decode cX1_leftBehind 0 = .ok (.iload_n 1, 1) := by decide +kernel
theorem dX1_leftBehind_1 : decode cX1_leftBehind 1 = .ok (.bipush 24, 2) := by decide +kernel
theorem dX1_leftBehind_3 : decode cX1_leftBehind 3 = .ok (.invokestatic 142, 3) := by decide +kernel
theorem dX1_leftBehind_6 : decode cX1_leftBehind 6 = .ok (.ifCond .ne 14, 3) := by decide +kernel
theorem dX1_leftBehind_9 : decode cX1_leftBehind 9 = .ok (.iload_n 2, 1) := by decide +kernel
theorem dX1_leftBehind_10 : decode cX1_leftBehind 10 = .ok (.aload_n 0, 1) := by decide +kernel
theorem dX1_leftBehind_11 : decode cX1_leftBehind 11 = .ok (.getfield 69, 3) := by decide +kernel
theorem dX1_leftBehind_14 : decode cX1_leftBehind 14 = .ok (.invokestatic 142, 3) := by decide +kernel
theorem dX1_leftBehind_17 : decode cX1_leftBehind 17 = .ok (.ifCond .eq 7, 3) := by decide +kernel
theorem dX1_leftBehind_20 : decode cX1_leftBehind 20 = .ok (.iconst (-1), 1) := by decide +kernel
theorem dX1_leftBehind_21 : decode cX1_leftBehind 21 = .ok (.goto 14, 3) := by decide +kernel
theorem dX1_leftBehind_24 : decode cX1_leftBehind 24 = .ok (.aload_n 0, 1) := by decide +kernel
theorem dX1_leftBehind_25 : decode cX1_leftBehind 25 = .ok (.getfield 39, 3) := by decide +kernel
theorem dX1_leftBehind_28 : decode cX1_leftBehind 28 = .ok (.iload_n 1, 1) := by decide +kernel
theorem dX1_leftBehind_29 : decode cX1_leftBehind 29 = .ok (.bipush 12, 2) := by decide +kernel
theorem dX1_leftBehind_31 : decode cX1_leftBehind 31 = .ok (.imul, 1) := by decide +kernel
theorem dX1_leftBehind_32 : decode cX1_leftBehind 32 = .ok (.iload_n 2, 1) := by decide +kernel
theorem dX1_leftBehind_33 : decode cX1_leftBehind 33 = .ok (.iadd, 1) := by decide +kernel
theorem dX1_leftBehind_34 : decode cX1_leftBehind 34 = .ok (.iaload, 1) := by decide +kernel
theorem dX1_leftBehind_35 : decode cX1_leftBehind 35 = .ok (.ireturn, 1) := by decide +kernel
theorem dX1_saidBehind_0 : decode cX1_saidBehind 0 = .ok (.iload_n 1, 1) := by decide +kernel
theorem dX1_saidBehind_1 : decode cX1_saidBehind 1 = .ok (.bipush 24, 2) := by decide +kernel
theorem dX1_saidBehind_3 : decode cX1_saidBehind 3 = .ok (.invokestatic 142, 3) := by decide +kernel
theorem dX1_saidBehind_6 : decode cX1_saidBehind 6 = .ok (.ifCond .ne 12, 3) := by decide +kernel
theorem dX1_saidBehind_9 : decode cX1_saidBehind 9 = .ok (.iload_n 2, 1) := by decide +kernel
theorem dX1_saidBehind_10 : decode cX1_saidBehind 10 = .ok (.bipush 8, 2) := by decide +kernel
theorem dX1_saidBehind_12 : decode cX1_saidBehind 12 = .ok (.invokestatic 142, 3) := by decide +kernel
theorem dX1_saidBehind_15 : decode cX1_saidBehind 15 = .ok (.ifCond .eq 7, 3) := by decide +kernel
theorem dX1_saidBehind_18 : decode cX1_saidBehind 18 = .ok (.iconst (-1), 1) := by decide +kernel
theorem dX1_saidBehind_19 : decode cX1_saidBehind 19 = .ok (.goto 14, 3) := by decide +kernel
theorem dX1_saidBehind_22 : decode cX1_saidBehind 22 = .ok (.aload_n 0, 1) := by decide +kernel
theorem dX1_saidBehind_23 : decode cX1_saidBehind 23 = .ok (.getfield 42, 3) := by decide +kernel
theorem dX1_saidBehind_26 : decode cX1_saidBehind 26 = .ok (.iload_n 1, 1) := by decide +kernel
theorem dX1_saidBehind_27 : decode cX1_saidBehind 27 = .ok (.bipush 8, 2) := by decide +kernel
theorem dX1_saidBehind_29 : decode cX1_saidBehind 29 = .ok (.imul, 1) := by decide +kernel
theorem dX1_saidBehind_30 : decode cX1_saidBehind 30 = .ok (.iload_n 2, 1) := by decide +kernel
theorem dX1_saidBehind_31 : decode cX1_saidBehind 31 = .ok (.iadd, 1) := by decide +kernel
theorem dX1_saidBehind_32 : decode cX1_saidBehind 32 = .ok (.iaload, 1) := by decide +kernel
theorem dX1_saidBehind_33 : decode cX1_saidBehind 33 = .ok (.ireturn, 1) := by decide +kernel
theorem dX1_openUses_0 : decode cX1_openUses 0 = .ok (.iconst 0, 1) := by decide +kernel
theorem dX1_openUses_1 : decode cX1_openUses 1 = .ok (.istore 4, 2) := by decide +kernel
theorem dX1_openUses_3 : decode cX1_openUses 3 = .ok (.iconst 0, 1) := by decide +kernel
theorem dX1_openUses_4 : decode cX1_openUses 4 = .ok (.istore 5, 2) := by decide +kernel
theorem dX1_openUses_6 : decode cX1_openUses 6 = .ok (.iload 5, 2) := by decide +kernel
theorem dX1_openUses_8 : decode cX1_openUses 8 = .ok (.aload_n 0, 1) := by decide +kernel
theorem dX1_openUses_9 : decode cX1_openUses 9 = .ok (.getfield 69, 3) := by decide +kernel
theorem dX1_openUses_12 : decode cX1_openUses 12 = .ok (.if_icmp .ge 39, 3) := by decide +kernel
theorem dX1_openUses_15 : decode cX1_openUses 15 = .ok (.aload_n 2, 1) := by decide +kernel
theorem dX1_openUses_16 : decode cX1_openUses 16 = .ok (.iload 5, 2) := by decide +kernel
theorem dX1_openUses_18 : decode cX1_openUses 18 = .ok (.iaload, 1) := by decide +kernel
theorem dX1_openUses_19 : decode cX1_openUses 19 = .ok (.iload_n 3, 1) := by decide +kernel
theorem dX1_openUses_20 : decode cX1_openUses 20 = .ok (.if_icmp .ne 25, 3) := by decide +kernel
theorem dX1_openUses_23 : decode cX1_openUses 23 = .ok (.aload_n 0, 1) := by decide +kernel
theorem dX1_openUses_24 : decode cX1_openUses 24 = .ok (.iload_n 1, 1) := by decide +kernel
theorem dX1_openUses_25 : decode cX1_openUses 25 = .ok (.iload 5, 2) := by decide +kernel
theorem dX1_openUses_27 : decode cX1_openUses 27 = .ok (.invokevirtual 145, 3) := by decide +kernel
theorem dX1_openUses_30 : decode cX1_openUses 30 = .ok (.ifCond .ne 15, 3) := by decide +kernel
theorem dX1_openUses_33 : decode cX1_openUses 33 = .ok (.iload 4, 2) := by decide +kernel
theorem dX1_openUses_35 : decode cX1_openUses 35 = .ok (.aload_n 0, 1) := by decide +kernel
theorem dX1_openUses_36 : decode cX1_openUses 36 = .ok (.iload_n 1, 1) := by decide +kernel
theorem dX1_openUses_37 : decode cX1_openUses 37 = .ok (.iload 5, 2) := by decide +kernel
theorem dX1_openUses_39 : decode cX1_openUses 39 = .ok (.invokevirtual 148, 3) := by decide +kernel
theorem dX1_openUses_42 : decode cX1_openUses 42 = .ok (.iadd, 1) := by decide +kernel
theorem dX1_openUses_43 : decode cX1_openUses 43 = .ok (.istore 4, 2) := by decide +kernel
theorem dX1_openUses_45 : decode cX1_openUses 45 = .ok (.iinc 5 1, 3) := by decide +kernel
theorem dX1_openUses_48 : decode cX1_openUses 48 = .ok (.goto (-42), 3) := by decide +kernel
theorem dX1_openUses_51 : decode cX1_openUses 51 = .ok (.iload 4, 2) := by decide +kernel
theorem dX1_openUses_53 : decode cX1_openUses 53 = .ok (.ireturn, 1) := by decide +kernel
theorem dX1_hasLost_0 : decode cX1_hasLost 0 = .ok (.iconst 0, 1) := by decide +kernel
theorem dX1_hasLost_1 : decode cX1_hasLost 1 = .ok (.istore 4, 2) := by decide +kernel
theorem dX1_hasLost_3 : decode cX1_hasLost 3 = .ok (.iload 4, 2) := by decide +kernel
theorem dX1_hasLost_5 : decode cX1_hasLost 5 = .ok (.aload_n 0, 1) := by decide +kernel
theorem dX1_hasLost_6 : decode cX1_hasLost 6 = .ok (.getfield 69, 3) := by decide +kernel
theorem dX1_hasLost_9 : decode cX1_hasLost 9 = .ok (.if_icmp .ge 33, 3) := by decide +kernel
theorem dX1_hasLost_12 : decode cX1_hasLost 12 = .ok (.aload_n 1, 1) := by decide +kernel
theorem dX1_hasLost_13 : decode cX1_hasLost 13 = .ok (.getfield 88, 3) := by decide +kernel
theorem dX1_hasLost_16 : decode cX1_hasLost 16 = .ok (.iload 4, 2) := by decide +kernel
theorem dX1_hasLost_18 : decode cX1_hasLost 18 = .ok (.iaload, 1) := by decide +kernel
theorem dX1_hasLost_19 : decode cX1_hasLost 19 = .ok (.iload_n 3, 1) := by decide +kernel
theorem dX1_hasLost_20 : decode cX1_hasLost 20 = .ok (.if_icmp .ne 16, 3) := by decide +kernel
theorem dX1_hasLost_23 : decode cX1_hasLost 23 = .ok (.aload_n 0, 1) := by decide +kernel
theorem dX1_hasLost_24 : decode cX1_hasLost 24 = .ok (.iload_n 2, 1) := by decide +kernel
theorem dX1_hasLost_25 : decode cX1_hasLost 25 = .ok (.iload 4, 2) := by decide +kernel
theorem dX1_hasLost_27 : decode cX1_hasLost 27 = .ok (.invokevirtual 145, 3) := by decide +kernel
theorem dX1_hasLost_30 : decode cX1_hasLost 30 = .ok (.iconst 3, 1) := by decide +kernel
theorem dX1_hasLost_31 : decode cX1_hasLost 31 = .ok (.if_icmp .ne 5, 3) := by decide +kernel
theorem dX1_hasLost_34 : decode cX1_hasLost 34 = .ok (.iconst 1, 1) := by decide +kernel
theorem dX1_hasLost_35 : decode cX1_hasLost 35 = .ok (.ireturn, 1) := by decide +kernel
theorem dX1_hasLost_36 : decode cX1_hasLost 36 = .ok (.iinc 4 1, 3) := by decide +kernel
theorem dX1_hasLost_39 : decode cX1_hasLost 39 = .ok (.goto (-36), 3) := by decide +kernel
theorem dX1_hasLost_42 : decode cX1_hasLost 42 = .ok (.iconst 0, 1) := by decide +kernel
theorem dX1_hasLost_43 : decode cX1_hasLost 43 = .ok (.ireturn, 1) := by decide +kernel
theorem dX1_owesNothing_0 : decode cX1_owesNothing 0 = .ok (.aload_n 0, 1) := by decide +kernel
theorem dX1_owesNothing_1 : decode cX1_owesNothing 1 = .ok (.iload_n 2, 1) := by decide +kernel
theorem dX1_owesNothing_2 : decode cX1_owesNothing 2 = .ok (.aload_n 1, 1) := by decide +kernel
theorem dX1_owesNothing_3 : decode cX1_owesNothing 3 = .ok (.getfield 88, 3) := by decide +kernel
theorem dX1_owesNothing_6 : decode cX1_owesNothing 6 = .ok (.iload_n 3, 1) := by decide +kernel
theorem dX1_owesNothing_7 : decode cX1_owesNothing 7 = .ok (.invokevirtual 151, 3) := by decide +kernel
theorem dX1_owesNothing_10 : decode cX1_owesNothing 10 = .ok (.ifCond .ne 17, 3) := by decide +kernel
theorem dX1_owesNothing_13 : decode cX1_owesNothing 13 = .ok (.aload_n 0, 1) := by decide +kernel
theorem dX1_owesNothing_14 : decode cX1_owesNothing 14 = .ok (.aload_n 1, 1) := by decide +kernel
theorem dX1_owesNothing_15 : decode cX1_owesNothing 15 = .ok (.iload_n 2, 1) := by decide +kernel
theorem dX1_owesNothing_16 : decode cX1_owesNothing 16 = .ok (.iload_n 3, 1) := by decide +kernel
theorem dX1_owesNothing_17 : decode cX1_owesNothing 17 = .ok (.invokevirtual 155, 3) := by decide +kernel
theorem dX1_owesNothing_20 : decode cX1_owesNothing 20 = .ok (.ifCond .ne 7, 3) := by decide +kernel
theorem dX1_owesNothing_23 : decode cX1_owesNothing 23 = .ok (.iconst 1, 1) := by decide +kernel
theorem dX1_owesNothing_24 : decode cX1_owesNothing 24 = .ok (.goto 4, 3) := by decide +kernel
theorem dX1_owesNothing_27 : decode cX1_owesNothing 27 = .ok (.iconst 0, 1) := by decide +kernel
theorem dX1_owesNothing_28 : decode cX1_owesNothing 28 = .ok (.ireturn, 1) := by decide +kernel
theorem dX1_openOrLostUses_0 : decode cX1_openOrLostUses 0 = .ok (.iconst 0, 1) := by decide +kernel
theorem dX1_openOrLostUses_1 : decode cX1_openOrLostUses 1 = .ok (.istore_n 1, 1) := by decide +kernel
theorem dX1_openOrLostUses_2 : decode cX1_openOrLostUses 2 = .ok (.iconst 0, 1) := by decide +kernel
theorem dX1_openOrLostUses_3 : decode cX1_openOrLostUses 3 = .ok (.istore_n 2, 1) := by decide +kernel
theorem dX1_openOrLostUses_4 : decode cX1_openOrLostUses 4 = .ok (.iload_n 2, 1) := by decide +kernel
theorem dX1_openOrLostUses_5 : decode cX1_openOrLostUses 5 = .ok (.aload_n 0, 1) := by decide +kernel
theorem dX1_openOrLostUses_6 : decode cX1_openOrLostUses 6 = .ok (.getfield 69, 3) := by decide +kernel
theorem dX1_openOrLostUses_9 : decode cX1_openOrLostUses 9 = .ok (.if_icmp .ge 36, 3) := by decide +kernel
theorem dX1_openOrLostUses_12 : decode cX1_openOrLostUses 12 = .ok (.aload_n 0, 1) := by decide +kernel
theorem dX1_openOrLostUses_13 : decode cX1_openOrLostUses 13 = .ok (.bipush 23, 2) := by decide +kernel
theorem dX1_openOrLostUses_15 : decode cX1_openOrLostUses 15 = .ok (.iload_n 2, 1) := by decide +kernel
theorem dX1_openOrLostUses_16 : decode cX1_openOrLostUses 16 = .ok (.invokevirtual 145, 3) := by decide +kernel
theorem dX1_openOrLostUses_19 : decode cX1_openOrLostUses 19 = .ok (.istore_n 3, 1) := by decide +kernel
theorem dX1_openOrLostUses_20 : decode cX1_openOrLostUses 20 = .ok (.iload_n 3, 1) := by decide +kernel
theorem dX1_openOrLostUses_21 : decode cX1_openOrLostUses 21 = .ok (.ifCond .eq 8, 3) := by decide +kernel
theorem dX1_openOrLostUses_24 : decode cX1_openOrLostUses 24 = .ok (.iload_n 3, 1) := by decide +kernel
theorem dX1_openOrLostUses_25 : decode cX1_openOrLostUses 25 = .ok (.iconst 3, 1) := by decide +kernel
theorem dX1_openOrLostUses_26 : decode cX1_openOrLostUses 26 = .ok (.if_icmp .ne 13, 3) := by decide +kernel
theorem dX1_openOrLostUses_29 : decode cX1_openOrLostUses 29 = .ok (.iload_n 1, 1) := by decide +kernel
theorem dX1_openOrLostUses_30 : decode cX1_openOrLostUses 30 = .ok (.aload_n 0, 1) := by decide +kernel
theorem dX1_openOrLostUses_31 : decode cX1_openOrLostUses 31 = .ok (.bipush 23, 2) := by decide +kernel
theorem dX1_openOrLostUses_33 : decode cX1_openOrLostUses 33 = .ok (.iload_n 2, 1) := by decide +kernel
theorem dX1_openOrLostUses_34 : decode cX1_openOrLostUses 34 = .ok (.invokevirtual 148, 3) := by decide +kernel
theorem dX1_openOrLostUses_37 : decode cX1_openOrLostUses 37 = .ok (.iadd, 1) := by decide +kernel
theorem dX1_openOrLostUses_38 : decode cX1_openOrLostUses 38 = .ok (.istore_n 1, 1) := by decide +kernel
theorem dX1_openOrLostUses_39 : decode cX1_openOrLostUses 39 = .ok (.iinc 2 1, 3) := by decide +kernel
theorem dX1_openOrLostUses_42 : decode cX1_openOrLostUses 42 = .ok (.goto (-38), 3) := by decide +kernel
theorem dX1_openOrLostUses_45 : decode cX1_openOrLostUses 45 = .ok (.iload_n 1, 1) := by decide +kernel
theorem dX1_openOrLostUses_46 : decode cX1_openOrLostUses 46 = .ok (.ireturn, 1) := by decide +kernel
theorem dX1_wordsThatAre_0 : decode cX1_wordsThatAre 0 = .ok (.iconst 0, 1) := by decide +kernel
theorem dX1_wordsThatAre_1 : decode cX1_wordsThatAre 1 = .ok (.istore_n 2, 1) := by decide +kernel
theorem dX1_wordsThatAre_2 : decode cX1_wordsThatAre 2 = .ok (.iconst 0, 1) := by decide +kernel
theorem dX1_wordsThatAre_3 : decode cX1_wordsThatAre 3 = .ok (.istore_n 3, 1) := by decide +kernel
theorem dX1_wordsThatAre_4 : decode cX1_wordsThatAre 4 = .ok (.iload_n 3, 1) := by decide +kernel
theorem dX1_wordsThatAre_5 : decode cX1_wordsThatAre 5 = .ok (.aload_n 0, 1) := by decide +kernel
theorem dX1_wordsThatAre_6 : decode cX1_wordsThatAre 6 = .ok (.getfield 69, 3) := by decide +kernel
theorem dX1_wordsThatAre_9 : decode cX1_wordsThatAre 9 = .ok (.if_icmp .ge 23, 3) := by decide +kernel
theorem dX1_wordsThatAre_12 : decode cX1_wordsThatAre 12 = .ok (.aload_n 0, 1) := by decide +kernel
theorem dX1_wordsThatAre_13 : decode cX1_wordsThatAre 13 = .ok (.bipush 23, 2) := by decide +kernel
theorem dX1_wordsThatAre_15 : decode cX1_wordsThatAre 15 = .ok (.iload_n 3, 1) := by decide +kernel
theorem dX1_wordsThatAre_16 : decode cX1_wordsThatAre 16 = .ok (.invokevirtual 145, 3) := by decide +kernel
theorem dX1_wordsThatAre_19 : decode cX1_wordsThatAre 19 = .ok (.iload_n 1, 1) := by decide +kernel
theorem dX1_wordsThatAre_20 : decode cX1_wordsThatAre 20 = .ok (.if_icmp .ne 6, 3) := by decide +kernel
theorem dX1_wordsThatAre_23 : decode cX1_wordsThatAre 23 = .ok (.iinc 2 1, 3) := by decide +kernel
theorem dX1_wordsThatAre_26 : decode cX1_wordsThatAre 26 = .ok (.iinc 3 1, 3) := by decide +kernel
theorem dX1_wordsThatAre_29 : decode cX1_wordsThatAre 29 = .ok (.goto (-25), 3) := by decide +kernel
theorem dX1_wordsThatAre_32 : decode cX1_wordsThatAre 32 = .ok (.iload_n 2, 1) := by decide +kernel
theorem dX1_wordsThatAre_33 : decode cX1_wordsThatAre 33 = .ok (.ireturn, 1) := by decide +kernel
theorem dX1_followDebts_0 : decode cX1_followDebts 0 = .ok (.iconst 0, 1) := by decide +kernel
theorem dX1_followDebts_1 : decode cX1_followDebts 1 = .ok (.istore_n 3, 1) := by decide +kernel
theorem dX1_followDebts_2 : decode cX1_followDebts 2 = .ok (.iload_n 3, 1) := by decide +kernel
theorem dX1_followDebts_3 : decode cX1_followDebts 3 = .ok (.bipush 8, 2) := by decide +kernel
theorem dX1_followDebts_5 : decode cX1_followDebts 5 = .ok (.if_icmp .ge 16, 3) := by decide +kernel
theorem dX1_followDebts_8 : decode cX1_followDebts 8 = .ok (.aload_n 0, 1) := by decide +kernel
theorem dX1_followDebts_9 : decode cX1_followDebts 9 = .ok (.getfield 45, 3) := by decide +kernel
theorem dX1_followDebts_12 : decode cX1_followDebts 12 = .ok (.iload_n 3, 1) := by decide +kernel
theorem dX1_followDebts_13 : decode cX1_followDebts 13 = .ok (.iconst 0, 1) := by decide +kernel
theorem dX1_followDebts_14 : decode cX1_followDebts 14 = .ok (.iastore, 1) := by decide +kernel
theorem dX1_followDebts_15 : decode cX1_followDebts 15 = .ok (.iinc 3 1, 3) := by decide +kernel
theorem dX1_followDebts_18 : decode cX1_followDebts 18 = .ok (.goto (-16), 3) := by decide +kernel
theorem dX1_followDebts_21 : decode cX1_followDebts 21 = .ok (.iconst 0, 1) := by decide +kernel
theorem dX1_followDebts_22 : decode cX1_followDebts 22 = .ok (.istore_n 3, 1) := by decide +kernel
theorem dX1_followDebts_23 : decode cX1_followDebts 23 = .ok (.iload_n 3, 1) := by decide +kernel
theorem dX1_followDebts_24 : decode cX1_followDebts 24 = .ok (.aload_n 0, 1) := by decide +kernel
theorem dX1_followDebts_25 : decode cX1_followDebts 25 = .ok (.getfield 69, 3) := by decide +kernel
theorem dX1_followDebts_28 : decode cX1_followDebts 28 = .ok (.if_icmp .ge 40, 3) := by decide +kernel
theorem dX1_followDebts_31 : decode cX1_followDebts 31 = .ok (.aload_n 0, 1) := by decide +kernel
theorem dX1_followDebts_32 : decode cX1_followDebts 32 = .ok (.iload_n 2, 1) := by decide +kernel
theorem dX1_followDebts_33 : decode cX1_followDebts 33 = .ok (.iload_n 3, 1) := by decide +kernel
theorem dX1_followDebts_34 : decode cX1_followDebts 34 = .ok (.invokevirtual 145, 3) := by decide +kernel
theorem dX1_followDebts_37 : decode cX1_followDebts 37 = .ok (.ifCond .ne 25, 3) := by decide +kernel
theorem dX1_followDebts_40 : decode cX1_followDebts 40 = .ok (.aload_n 0, 1) := by decide +kernel
theorem dX1_followDebts_41 : decode cX1_followDebts 41 = .ok (.getfield 45, 3) := by decide +kernel
theorem dX1_followDebts_44 : decode cX1_followDebts 44 = .ok (.aload_n 1, 1) := by decide +kernel
theorem dX1_followDebts_45 : decode cX1_followDebts 45 = .ok (.getfield 88, 3) := by decide +kernel
theorem dX1_followDebts_48 : decode cX1_followDebts 48 = .ok (.iload_n 3, 1) := by decide +kernel
theorem dX1_followDebts_49 : decode cX1_followDebts 49 = .ok (.iaload, 1) := by decide +kernel
theorem dX1_followDebts_50 : decode cX1_followDebts 50 = .ok (.dup2, 1) := by decide +kernel
theorem dX1_followDebts_51 : decode cX1_followDebts 51 = .ok (.iaload, 1) := by decide +kernel
theorem dX1_followDebts_52 : decode cX1_followDebts 52 = .ok (.iconst 1, 1) := by decide +kernel
theorem dX1_followDebts_53 : decode cX1_followDebts 53 = .ok (.aload_n 1, 1) := by decide +kernel
theorem dX1_followDebts_54 : decode cX1_followDebts 54 = .ok (.getfield 85, 3) := by decide +kernel
theorem dX1_followDebts_57 : decode cX1_followDebts 57 = .ok (.iload_n 3, 1) := by decide +kernel
theorem dX1_followDebts_58 : decode cX1_followDebts 58 = .ok (.iaload, 1) := by decide +kernel
theorem dX1_followDebts_59 : decode cX1_followDebts 59 = .ok (.ishl, 1) := by decide +kernel
theorem dX1_followDebts_60 : decode cX1_followDebts 60 = .ok (.ior, 1) := by decide +kernel
theorem dX1_followDebts_61 : decode cX1_followDebts 61 = .ok (.iastore, 1) := by decide +kernel
theorem dX1_followDebts_62 : decode cX1_followDebts 62 = .ok (.iinc 3 1, 3) := by decide +kernel
theorem dX1_followDebts_65 : decode cX1_followDebts 65 = .ok (.goto (-42), 3) := by decide +kernel
theorem dX1_followDebts_68 : decode cX1_followDebts 68 = .ok (.return_, 1) := by decide +kernel
theorem dX1_stepsAround_0 : decode cX1_stepsAround 0 = .ok (.iconst 1, 1) := by decide +kernel
theorem dX1_stepsAround_1 : decode cX1_stepsAround 1 = .ok (.iload_n 1, 1) := by decide +kernel
theorem dX1_stepsAround_2 : decode cX1_stepsAround 2 = .ok (.ishl, 1) := by decide +kernel
theorem dX1_stepsAround_3 : decode cX1_stepsAround 3 = .ok (.istore_n 2, 1) := by decide +kernel
theorem dX1_stepsAround_4 : decode cX1_stepsAround 4 = .ok (.iconst 1, 1) := by decide +kernel
theorem dX1_stepsAround_5 : decode cX1_stepsAround 5 = .ok (.istore_n 3, 1) := by decide +kernel
theorem dX1_stepsAround_6 : decode cX1_stepsAround 6 = .ok (.iload_n 3, 1) := by decide +kernel
theorem dX1_stepsAround_7 : decode cX1_stepsAround 7 = .ok (.bipush 8, 2) := by decide +kernel
theorem dX1_stepsAround_9 : decode cX1_stepsAround 9 = .ok (.if_icmp .gt 25, 3) := by decide +kernel
theorem dX1_stepsAround_12 : decode cX1_stepsAround 12 = .ok (.aload_n 0, 1) := by decide +kernel
theorem dX1_stepsAround_13 : decode cX1_stepsAround 13 = .ok (.iload_n 2, 1) := by decide +kernel
theorem dX1_stepsAround_14 : decode cX1_stepsAround 14 = .ok (.invokevirtual 159, 3) := by decide +kernel
theorem dX1_stepsAround_17 : decode cX1_stepsAround 17 = .ok (.istore_n 2, 1) := by decide +kernel
theorem dX1_stepsAround_18 : decode cX1_stepsAround 18 = .ok (.iload_n 2, 1) := by decide +kernel
theorem dX1_stepsAround_19 : decode cX1_stepsAround 19 = .ok (.iload_n 1, 1) := by decide +kernel
theorem dX1_stepsAround_20 : decode cX1_stepsAround 20 = .ok (.ishr, 1) := by decide +kernel
theorem dX1_stepsAround_21 : decode cX1_stepsAround 21 = .ok (.iconst 1, 1) := by decide +kernel
theorem dX1_stepsAround_22 : decode cX1_stepsAround 22 = .ok (.iand, 1) := by decide +kernel
theorem dX1_stepsAround_23 : decode cX1_stepsAround 23 = .ok (.ifCond .eq 5, 3) := by decide +kernel
theorem dX1_stepsAround_26 : decode cX1_stepsAround 26 = .ok (.iload_n 3, 1) := by decide +kernel
theorem dX1_stepsAround_27 : decode cX1_stepsAround 27 = .ok (.ireturn, 1) := by decide +kernel
theorem dX1_stepsAround_28 : decode cX1_stepsAround 28 = .ok (.iinc 3 1, 3) := by decide +kernel
theorem dX1_stepsAround_31 : decode cX1_stepsAround 31 = .ok (.goto (-25), 3) := by decide +kernel
theorem dX1_stepsAround_34 : decode cX1_stepsAround 34 = .ok (.iconst (-1), 1) := by decide +kernel
theorem dX1_stepsAround_35 : decode cX1_stepsAround 35 = .ok (.ireturn, 1) := by decide +kernel
theorem dX1_oneDebtOn_0 : decode cX1_oneDebtOn 0 = .ok (.iconst 0, 1) := by decide +kernel
theorem dX1_oneDebtOn_1 : decode cX1_oneDebtOn 1 = .ok (.istore_n 2, 1) := by decide +kernel
theorem dX1_oneDebtOn_2 : decode cX1_oneDebtOn 2 = .ok (.iconst 0, 1) := by decide +kernel
theorem dX1_oneDebtOn_3 : decode cX1_oneDebtOn 3 = .ok (.istore_n 3, 1) := by decide +kernel
theorem dX1_oneDebtOn_4 : decode cX1_oneDebtOn 4 = .ok (.iload_n 3, 1) := by decide +kernel
theorem dX1_oneDebtOn_5 : decode cX1_oneDebtOn 5 = .ok (.bipush 8, 2) := by decide +kernel
theorem dX1_oneDebtOn_7 : decode cX1_oneDebtOn 7 = .ok (.if_icmp .ge 26, 3) := by decide +kernel
theorem dX1_oneDebtOn_10 : decode cX1_oneDebtOn 10 = .ok (.iload_n 1, 1) := by decide +kernel
theorem dX1_oneDebtOn_11 : decode cX1_oneDebtOn 11 = .ok (.iload_n 3, 1) := by decide +kernel
theorem dX1_oneDebtOn_12 : decode cX1_oneDebtOn 12 = .ok (.ishr, 1) := by decide +kernel
theorem dX1_oneDebtOn_13 : decode cX1_oneDebtOn 13 = .ok (.iconst 1, 1) := by decide +kernel
theorem dX1_oneDebtOn_14 : decode cX1_oneDebtOn 14 = .ok (.iand, 1) := by decide +kernel
theorem dX1_oneDebtOn_15 : decode cX1_oneDebtOn 15 = .ok (.ifCond .eq 12, 3) := by decide +kernel
theorem dX1_oneDebtOn_18 : decode cX1_oneDebtOn 18 = .ok (.iload_n 2, 1) := by decide +kernel
theorem dX1_oneDebtOn_19 : decode cX1_oneDebtOn 19 = .ok (.aload_n 0, 1) := by decide +kernel
theorem dX1_oneDebtOn_20 : decode cX1_oneDebtOn 20 = .ok (.getfield 45, 3) := by decide +kernel
theorem dX1_oneDebtOn_23 : decode cX1_oneDebtOn 23 = .ok (.iload_n 3, 1) := by decide +kernel
theorem dX1_oneDebtOn_24 : decode cX1_oneDebtOn 24 = .ok (.iaload, 1) := by decide +kernel
theorem dX1_oneDebtOn_25 : decode cX1_oneDebtOn 25 = .ok (.ior, 1) := by decide +kernel
theorem dX1_oneDebtOn_26 : decode cX1_oneDebtOn 26 = .ok (.istore_n 2, 1) := by decide +kernel
theorem dX1_oneDebtOn_27 : decode cX1_oneDebtOn 27 = .ok (.iinc 3 1, 3) := by decide +kernel
theorem dX1_oneDebtOn_30 : decode cX1_oneDebtOn 30 = .ok (.goto (-26), 3) := by decide +kernel
theorem dX1_oneDebtOn_33 : decode cX1_oneDebtOn 33 = .ok (.iload_n 2, 1) := by decide +kernel
theorem dX1_oneDebtOn_34 : decode cX1_oneDebtOn 34 = .ok (.ireturn, 1) := by decide +kernel
theorem dX2_init_0 : decode cX2_init 0 = .ok (.aload_n 0, 1) := by decide +kernel
theorem dX2_init_1 : decode cX2_init 1 = .ok (.invokespecial 3, 3) := by decide +kernel
theorem dX2_init_4 : decode cX2_init 4 = .ok (.aload_n 0, 1) := by decide +kernel
theorem dX2_init_5 : decode cX2_init 5 = .ok (.bipush 8, 2) := by decide +kernel
theorem dX2_init_7 : decode cX2_init 7 = .ok (.newarray .int, 2) := by decide +kernel
theorem dX2_init_9 : decode cX2_init 9 = .ok (.putfield 9, 3) := by decide +kernel
theorem dX2_init_12 : decode cX2_init 12 = .ok (.aload_n 0, 1) := by decide +kernel
theorem dX2_init_13 : decode cX2_init 13 = .ok (.bipush 8, 2) := by decide +kernel
theorem dX2_init_15 : decode cX2_init 15 = .ok (.newarray .int, 2) := by decide +kernel
theorem dX2_init_17 : decode cX2_init 17 = .ok (.putfield 15, 3) := by decide +kernel
theorem dX2_init_20 : decode cX2_init 20 = .ok (.return_, 1) := by decide +kernel
theorem dX2_mayBe_0 : decode cX2_mayBe 0 = .ok (.iload_n 0, 1) := by decide +kernel
theorem dX2_mayBe_1 : decode cX2_mayBe 1 = .ok (.bipush 24, 2) := by decide +kernel
theorem dX2_mayBe_3 : decode cX2_mayBe 3 = .ok (.invokestatic 18, 3) := by decide +kernel
theorem dX2_mayBe_6 : decode cX2_mayBe 6 = .ok (.ifCond .ne 16, 3) := by decide +kernel
theorem dX2_mayBe_9 : decode cX2_mayBe 9 = .ok (.iload_n 1, 1) := by decide +kernel
theorem dX2_mayBe_10 : decode cX2_mayBe 10 = .ok (.bipush 8, 2) := by decide +kernel
theorem dX2_mayBe_12 : decode cX2_mayBe 12 = .ok (.invokestatic 18, 3) := by decide +kernel
theorem dX2_mayBe_15 : decode cX2_mayBe 15 = .ok (.ifCond .ne 7, 3) := by decide +kernel
theorem dX2_mayBe_18 : decode cX2_mayBe 18 = .ok (.iconst 1, 1) := by decide +kernel
theorem dX2_mayBe_19 : decode cX2_mayBe 19 = .ok (.goto 4, 3) := by decide +kernel
theorem dX2_mayBe_22 : decode cX2_mayBe 22 = .ok (.iconst 0, 1) := by decide +kernel
theorem dX2_mayBe_23 : decode cX2_mayBe 23 = .ok (.ireturn, 1) := by decide +kernel
theorem dX2_isFull_0 : decode cX2_isFull 0 = .ok (.aload_n 0, 1) := by decide +kernel
theorem dX2_isFull_1 : decode cX2_isFull 1 = .ok (.getfield 22, 3) := by decide +kernel
theorem dX2_isFull_4 : decode cX2_isFull 4 = .ok (.bipush 8, 2) := by decide +kernel
theorem dX2_isFull_6 : decode cX2_isFull 6 = .ok (.if_icmp .lt 7, 3) := by decide +kernel
theorem dX2_isFull_9 : decode cX2_isFull 9 = .ok (.iconst 1, 1) := by decide +kernel
theorem dX2_isFull_10 : decode cX2_isFull 10 = .ok (.goto 4, 3) := by decide +kernel
theorem dX2_isFull_13 : decode cX2_isFull 13 = .ok (.iconst 0, 1) := by decide +kernel
theorem dX2_isFull_14 : decode cX2_isFull 14 = .ok (.ireturn, 1) := by decide +kernel
theorem dX2_append_0 : decode cX2_append 0 = .ok (.aload_n 0, 1) := by decide +kernel
theorem dX2_append_1 : decode cX2_append 1 = .ok (.invokevirtual 26, 3) := by decide +kernel
theorem dX2_append_4 : decode cX2_append 4 = .ok (.ifCond .ne 33, 3) := by decide +kernel
theorem dX2_append_7 : decode cX2_append 7 = .ok (.aload_n 0, 1) := by decide +kernel
theorem dX2_append_8 : decode cX2_append 8 = .ok (.getfield 9, 3) := by decide +kernel
theorem dX2_append_11 : decode cX2_append 11 = .ok (.aload_n 0, 1) := by decide +kernel
theorem dX2_append_12 : decode cX2_append 12 = .ok (.getfield 22, 3) := by decide +kernel
theorem dX2_append_15 : decode cX2_append 15 = .ok (.iload_n 1, 1) := by decide +kernel
theorem dX2_append_16 : decode cX2_append 16 = .ok (.iastore, 1) := by decide +kernel
theorem dX2_append_17 : decode cX2_append 17 = .ok (.aload_n 0, 1) := by decide +kernel
theorem dX2_append_18 : decode cX2_append 18 = .ok (.getfield 15, 3) := by decide +kernel
theorem dX2_append_21 : decode cX2_append 21 = .ok (.aload_n 0, 1) := by decide +kernel
theorem dX2_append_22 : decode cX2_append 22 = .ok (.getfield 22, 3) := by decide +kernel
theorem dX2_append_25 : decode cX2_append 25 = .ok (.iload_n 2, 1) := by decide +kernel
theorem dX2_append_26 : decode cX2_append 26 = .ok (.iastore, 1) := by decide +kernel
theorem dX2_append_27 : decode cX2_append 27 = .ok (.aload_n 0, 1) := by decide +kernel
theorem dX2_append_28 : decode cX2_append 28 = .ok (.dup, 1) := by decide +kernel
theorem dX2_append_29 : decode cX2_append 29 = .ok (.getfield 22, 3) := by decide +kernel
theorem dX2_append_32 : decode cX2_append 32 = .ok (.iconst 1, 1) := by decide +kernel
theorem dX2_append_33 : decode cX2_append 33 = .ok (.iadd, 1) := by decide +kernel
theorem dX2_append_34 : decode cX2_append 34 = .ok (.putfield 22, 3) := by decide +kernel
theorem dX2_append_37 : decode cX2_append 37 = .ok (.return_, 1) := by decide +kernel
theorem dX2_all_0 : decode cX2_all 0 = .ok (.iconst 1, 1) := by decide +kernel
theorem dX2_all_1 : decode cX2_all 1 = .ok (.aload_n 0, 1) := by decide +kernel
theorem dX2_all_2 : decode cX2_all 2 = .ok (.getfield 22, 3) := by decide +kernel
theorem dX2_all_5 : decode cX2_all 5 = .ok (.ishl, 1) := by decide +kernel
theorem dX2_all_6 : decode cX2_all 6 = .ok (.iconst 1, 1) := by decide +kernel
theorem dX2_all_7 : decode cX2_all 7 = .ok (.isub, 1) := by decide +kernel
theorem dX2_all_8 : decode cX2_all 8 = .ok (.ireturn, 1) := by decide +kernel
theorem dX3_init_0 : decode cX3_init 0 = .ok (.aload_n 0, 1) := by decide +kernel
theorem dX3_init_1 : decode cX3_init 1 = .ok (.invokespecial 3, 3) := by decide +kernel
theorem dX3_init_4 : decode cX3_init 4 = .ok (.aload_n 0, 1) := by decide +kernel
theorem dX3_init_5 : decode cX3_init 5 = .ok (.bipush 60, 2) := by decide +kernel
theorem dX3_init_7 : decode cX3_init 7 = .ok (.newarray .int, 2) := by decide +kernel
theorem dX3_init_9 : decode cX3_init 9 = .ok (.putfield 9, 3) := by decide +kernel
theorem dX3_init_12 : decode cX3_init 12 = .ok (.aload_n 0, 1) := by decide +kernel
theorem dX3_init_13 : decode cX3_init 13 = .ok (.iconst (-1), 1) := by decide +kernel
theorem dX3_init_14 : decode cX3_init 14 = .ok (.putfield 15, 3) := by decide +kernel
theorem dX3_init_17 : decode cX3_init 17 = .ok (.return_, 1) := by decide +kernel
theorem dX3_isLost_0 : decode cX3_isLost 0 = .ok (.aload_n 0, 1) := by decide +kernel
theorem dX3_isLost_1 : decode cX3_isLost 1 = .ok (.getfield 15, 3) := by decide +kernel
theorem dX3_isLost_4 : decode cX3_isLost 4 = .ok (.iconst (-1), 1) := by decide +kernel
theorem dX3_isLost_5 : decode cX3_isLost 5 = .ok (.if_icmp .ne 7, 3) := by decide +kernel
theorem dX3_isLost_8 : decode cX3_isLost 8 = .ok (.iconst 1, 1) := by decide +kernel
theorem dX3_isLost_9 : decode cX3_isLost 9 = .ok (.goto 4, 3) := by decide +kernel
theorem dX3_isLost_12 : decode cX3_isLost 12 = .ok (.iconst 0, 1) := by decide +kernel
theorem dX3_isLost_13 : decode cX3_isLost 13 = .ok (.ireturn, 1) := by decide +kernel
theorem dX3_begin_0 : decode cX3_begin 0 = .ok (.aload_n 0, 1) := by decide +kernel
theorem dX3_begin_1 : decode cX3_begin 1 = .ok (.iload_n 1, 1) := by decide +kernel
theorem dX3_begin_2 : decode cX3_begin 2 = .ok (.putfield 15, 3) := by decide +kernel
theorem dX3_begin_5 : decode cX3_begin 5 = .ok (.aload_n 0, 1) := by decide +kernel
theorem dX3_begin_6 : decode cX3_begin 6 = .ok (.iload_n 2, 1) := by decide +kernel
theorem dX3_begin_7 : decode cX3_begin 7 = .ok (.putfield 19, 3) := by decide +kernel
theorem dX3_begin_10 : decode cX3_begin 10 = .ok (.iconst 0, 1) := by decide +kernel
theorem dX3_begin_11 : decode cX3_begin 11 = .ok (.istore_n 3, 1) := by decide +kernel
theorem dX3_begin_12 : decode cX3_begin 12 = .ok (.iload_n 3, 1) := by decide +kernel
theorem dX3_begin_13 : decode cX3_begin 13 = .ok (.bipush 60, 2) := by decide +kernel
theorem dX3_begin_15 : decode cX3_begin 15 = .ok (.if_icmp .ge 16, 3) := by decide +kernel
theorem dX3_begin_18 : decode cX3_begin 18 = .ok (.aload_n 0, 1) := by decide +kernel
theorem dX3_begin_19 : decode cX3_begin 19 = .ok (.getfield 9, 3) := by decide +kernel
theorem dX3_begin_22 : decode cX3_begin 22 = .ok (.iload_n 3, 1) := by decide +kernel
theorem dX3_begin_23 : decode cX3_begin 23 = .ok (.iconst 0, 1) := by decide +kernel
theorem dX3_begin_24 : decode cX3_begin 24 = .ok (.iastore, 1) := by decide +kernel
theorem dX3_begin_25 : decode cX3_begin 25 = .ok (.iinc 3 1, 3) := by decide +kernel
theorem dX3_begin_28 : decode cX3_begin 28 = .ok (.goto (-16), 3) := by decide +kernel
theorem dX3_begin_31 : decode cX3_begin 31 = .ok (.return_, 1) := by decide +kernel
theorem dX3_put_0 : decode cX3_put 0 = .ok (.iload_n 1, 1) := by decide +kernel
theorem dX3_put_1 : decode cX3_put 1 = .ok (.aload_n 0, 1) := by decide +kernel
theorem dX3_put_2 : decode cX3_put 2 = .ok (.getfield 19, 3) := by decide +kernel
theorem dX3_put_5 : decode cX3_put 5 = .ok (.invokestatic 22, 3) := by decide +kernel
theorem dX3_put_8 : decode cX3_put 8 = .ok (.ifCond .eq 4, 3) := by decide +kernel
theorem dX3_put_11 : decode cX3_put 11 = .ok (.return_, 1) := by decide +kernel
theorem dX3_put_12 : decode cX3_put 12 = .ok (.aload_n 0, 1) := by decide +kernel
theorem dX3_put_13 : decode cX3_put 13 = .ok (.getfield 15, 3) := by decide +kernel
theorem dX3_put_16 : decode cX3_put 16 = .ok (.ifCond .ne 14, 3) := by decide +kernel
theorem dX3_put_19 : decode cX3_put 19 = .ok (.aload_n 0, 1) := by decide +kernel
theorem dX3_put_20 : decode cX3_put 20 = .ok (.getfield 9, 3) := by decide +kernel
theorem dX3_put_23 : decode cX3_put 23 = .ok (.iload_n 1, 1) := by decide +kernel
theorem dX3_put_24 : decode cX3_put 24 = .ok (.iload_n 2, 1) := by decide +kernel
theorem dX3_put_25 : decode cX3_put 25 = .ok (.i2b, 1) := by decide +kernel
theorem dX3_put_26 : decode cX3_put 26 = .ok (.iastore, 1) := by decide +kernel
theorem dX3_put_27 : decode cX3_put 27 = .ok (.goto 29, 3) := by decide +kernel
theorem dX3_put_30 : decode cX3_put 30 = .ok (.aload_n 0, 1) := by decide +kernel
theorem dX3_put_31 : decode cX3_put 31 = .ok (.getfield 15, 3) := by decide +kernel
theorem dX3_put_34 : decode cX3_put 34 = .ok (.iconst 1, 1) := by decide +kernel
theorem dX3_put_35 : decode cX3_put 35 = .ok (.if_icmp .ne 14, 3) := by decide +kernel
theorem dX3_put_38 : decode cX3_put 38 = .ok (.aload_n 0, 1) := by decide +kernel
theorem dX3_put_39 : decode cX3_put 39 = .ok (.getfield 9, 3) := by decide +kernel
theorem dX3_put_42 : decode cX3_put 42 = .ok (.iload_n 1, 1) := by decide +kernel
theorem dX3_put_43 : decode cX3_put 43 = .ok (.iload_n 2, 1) := by decide +kernel
theorem dX3_put_44 : decode cX3_put 44 = .ok (.i2s, 1) := by decide +kernel
theorem dX3_put_45 : decode cX3_put 45 = .ok (.iastore, 1) := by decide +kernel
theorem dX3_put_46 : decode cX3_put 46 = .ok (.goto 10, 3) := by decide +kernel
theorem dX3_put_49 : decode cX3_put 49 = .ok (.aload_n 0, 1) := by decide +kernel
theorem dX3_put_50 : decode cX3_put 50 = .ok (.getfield 9, 3) := by decide +kernel
theorem dX3_put_53 : decode cX3_put 53 = .ok (.iload_n 1, 1) := by decide +kernel
theorem dX3_put_54 : decode cX3_put 54 = .ok (.iload_n 2, 1) := by decide +kernel
theorem dX3_put_55 : decode cX3_put 55 = .ok (.iastore, 1) := by decide +kernel
theorem dX3_put_56 : decode cX3_put 56 = .ok (.return_, 1) := by decide +kernel
theorem dX3_hasItems_0 : decode cX3_hasItems 0 = .ok (.iload_n 1, 1) := by decide +kernel
theorem dX3_hasItems_1 : decode cX3_hasItems 1 = .ok (.ifCond .lt 29, 3) := by decide +kernel
theorem dX3_hasItems_4 : decode cX3_hasItems 4 = .ok (.iload_n 2, 1) := by decide +kernel
theorem dX3_hasItems_5 : decode cX3_hasItems 5 = .ok (.ifCond .lt 25, 3) := by decide +kernel
theorem dX3_hasItems_8 : decode cX3_hasItems 8 = .ok (.iload_n 1, 1) := by decide +kernel
theorem dX3_hasItems_9 : decode cX3_hasItems 9 = .ok (.aload_n 0, 1) := by decide +kernel
theorem dX3_hasItems_10 : decode cX3_hasItems 10 = .ok (.getfield 19, 3) := by decide +kernel
theorem dX3_hasItems_13 : decode cX3_hasItems 13 = .ok (.if_icmp .gt 17, 3) := by decide +kernel
theorem dX3_hasItems_16 : decode cX3_hasItems 16 = .ok (.iload_n 2, 1) := by decide +kernel
theorem dX3_hasItems_17 : decode cX3_hasItems 17 = .ok (.aload_n 0, 1) := by decide +kernel
theorem dX3_hasItems_18 : decode cX3_hasItems 18 = .ok (.getfield 19, 3) := by decide +kernel
theorem dX3_hasItems_21 : decode cX3_hasItems 21 = .ok (.iload_n 1, 1) := by decide +kernel
theorem dX3_hasItems_22 : decode cX3_hasItems 22 = .ok (.isub, 1) := by decide +kernel
theorem dX3_hasItems_23 : decode cX3_hasItems 23 = .ok (.if_icmp .gt 7, 3) := by decide +kernel
theorem dX3_hasItems_26 : decode cX3_hasItems 26 = .ok (.iconst 1, 1) := by decide +kernel
theorem dX3_hasItems_27 : decode cX3_hasItems 27 = .ok (.goto 4, 3) := by decide +kernel
theorem dX3_hasItems_30 : decode cX3_hasItems 30 = .ok (.iconst 0, 1) := by decide +kernel
theorem dX3_hasItems_31 : decode cX3_hasItems 31 = .ok (.ireturn, 1) := by decide +kernel
theorem dX4_init_0 : decode cX4_init 0 = .ok (.aload_n 0, 1) := by decide +kernel
theorem dX4_init_1 : decode cX4_init 1 = .ok (.invokespecial 3, 3) := by decide +kernel
theorem dX4_init_4 : decode cX4_init 4 = .ok (.aload_n 0, 1) := by decide +kernel
theorem dX4_init_5 : decode cX4_init 5 = .ok (.iconst (-1), 1) := by decide +kernel
theorem dX4_init_6 : decode cX4_init 6 = .ok (.putfield 9, 3) := by decide +kernel
theorem dX4_init_9 : decode cX4_init 9 = .ok (.aload_n 0, 1) := by decide +kernel
theorem dX4_init_10 : decode cX4_init 10 = .ok (.iload_n 1, 1) := by decide +kernel
theorem dX4_init_11 : decode cX4_init 11 = .ok (.putfield 15, 3) := by decide +kernel
theorem dX4_init_14 : decode cX4_init 14 = .ok (.aload_n 0, 1) := by decide +kernel
theorem dX4_init_15 : decode cX4_init 15 = .ok (.iload_n 1, 1) := by decide +kernel
theorem dX4_init_16 : decode cX4_init 16 = .ok (.ifCond .ne 7, 3) := by decide +kernel
theorem dX4_init_19 : decode cX4_init 19 = .ok (.iconst 3, 1) := by decide +kernel
theorem dX4_init_20 : decode cX4_init 20 = .ok (.goto 4, 3) := by decide +kernel
theorem dX4_init_23 : decode cX4_init 23 = .ok (.iconst 4, 1) := by decide +kernel
theorem dX4_init_24 : decode cX4_init 24 = .ok (.putfield 18, 3) := by decide +kernel
theorem dX4_init_27 : decode cX4_init 27 = .ok (.aload_n 0, 1) := by decide +kernel
theorem dX4_init_28 : decode cX4_init 28 = .ok (.iload_n 1, 1) := by decide +kernel
theorem dX4_init_29 : decode cX4_init 29 = .ok (.ifCond .ne 8, 3) := by decide +kernel
theorem dX4_init_32 : decode cX4_init 32 = .ok (.bipush 23, 2) := by decide +kernel
theorem dX4_init_34 : decode cX4_init 34 = .ok (.goto 5, 3) := by decide +kernel
theorem dX4_init_37 : decode cX4_init 37 = .ok (.bipush 47, 2) := by decide +kernel
theorem dX4_init_39 : decode cX4_init 39 = .ok (.newarray .int, 2) := by decide +kernel
theorem dX4_init_41 : decode cX4_init 41 = .ok (.putfield 21, 3) := by decide +kernel
theorem dX4_init_44 : decode cX4_init 44 = .ok (.return_, 1) := by decide +kernel
theorem dX4_size_0 : decode cX4_size 0 = .ok (.aload_n 0, 1) := by decide +kernel
theorem dX4_size_1 : decode cX4_size 1 = .ok (.getfield 25, 3) := by decide +kernel
theorem dX4_size_4 : decode cX4_size 4 = .ok (.ireturn, 1) := by decide +kernel
theorem dX4_isFull_0 : decode cX4_isFull 0 = .ok (.aload_n 0, 1) := by decide +kernel
theorem dX4_isFull_1 : decode cX4_isFull 1 = .ok (.getfield 25, 3) := by decide +kernel
theorem dX4_isFull_4 : decode cX4_isFull 4 = .ok (.aload_n 0, 1) := by decide +kernel
theorem dX4_isFull_5 : decode cX4_isFull 5 = .ok (.getfield 21, 3) := by decide +kernel
theorem dX4_isFull_8 : decode cX4_isFull 8 = .ok (.arraylength, 1) := by decide +kernel
theorem dX4_isFull_9 : decode cX4_isFull 9 = .ok (.if_icmp .lt 7, 3) := by decide +kernel
theorem dX4_isFull_12 : decode cX4_isFull 12 = .ok (.iconst 1, 1) := by decide +kernel
theorem dX4_isFull_13 : decode cX4_isFull 13 = .ok (.goto 4, 3) := by decide +kernel
theorem dX4_isFull_16 : decode cX4_isFull 16 = .ok (.iconst 0, 1) := by decide +kernel
theorem dX4_isFull_17 : decode cX4_isFull 17 = .ok (.ireturn, 1) := by decide +kernel
theorem dX4_append_0 : decode cX4_append 0 = .ok (.aload_n 0, 1) := by decide +kernel
theorem dX4_append_1 : decode cX4_append 1 = .ok (.invokevirtual 28, 3) := by decide +kernel
theorem dX4_append_4 : decode cX4_append 4 = .ok (.ifCond .eq 4, 3) := by decide +kernel
theorem dX4_append_7 : decode cX4_append 7 = .ok (.return_, 1) := by decide +kernel
theorem dX4_append_8 : decode cX4_append 8 = .ok (.aload_n 0, 1) := by decide +kernel
theorem dX4_append_9 : decode cX4_append 9 = .ok (.getfield 21, 3) := by decide +kernel
theorem dX4_append_12 : decode cX4_append 12 = .ok (.aload_n 0, 1) := by decide +kernel
theorem dX4_append_13 : decode cX4_append 13 = .ok (.getfield 25, 3) := by decide +kernel
theorem dX4_append_16 : decode cX4_append 16 = .ok (.aload_n 0, 1) := by decide +kernel
theorem dX4_append_17 : decode cX4_append 17 = .ok (.aload_n 0, 1) := by decide +kernel
theorem dX4_append_18 : decode cX4_append 18 = .ok (.getfield 25, 3) := by decide +kernel
theorem dX4_append_21 : decode cX4_append 21 = .ok (.aload_n 0, 1) := by decide +kernel
theorem dX4_append_22 : decode cX4_append 22 = .ok (.getfield 18, 3) := by decide +kernel
theorem dX4_append_25 : decode cX4_append 25 = .ok (.irem, 1) := by decide +kernel
theorem dX4_append_26 : decode cX4_append 26 = .ok (.iload_n 1, 1) := by decide +kernel
theorem dX4_append_27 : decode cX4_append 27 = .ok (.invokevirtual 32, 3) := by decide +kernel
theorem dX4_append_30 : decode cX4_append 30 = .ok (.iastore, 1) := by decide +kernel
theorem dX4_append_31 : decode cX4_append 31 = .ok (.aload_n 0, 1) := by decide +kernel
theorem dX4_append_32 : decode cX4_append 32 = .ok (.getfield 9, 3) := by decide +kernel
theorem dX4_append_35 : decode cX4_append 35 = .ok (.iconst (-1), 1) := by decide +kernel
theorem dX4_append_36 : decode cX4_append 36 = .ok (.if_icmp .ne 24, 3) := by decide +kernel
theorem dX4_append_39 : decode cX4_append 39 = .ok (.aload_n 0, 1) := by decide +kernel
theorem dX4_append_40 : decode cX4_append 40 = .ok (.getfield 21, 3) := by decide +kernel
theorem dX4_append_43 : decode cX4_append 43 = .ok (.aload_n 0, 1) := by decide +kernel
theorem dX4_append_44 : decode cX4_append 44 = .ok (.getfield 25, 3) := by decide +kernel
theorem dX4_append_47 : decode cX4_append 47 = .ok (.iaload, 1) := by decide +kernel
theorem dX4_append_48 : decode cX4_append 48 = .ok (.iconst (-1), 1) := by decide +kernel
theorem dX4_append_49 : decode cX4_append 49 = .ok (.if_icmp .ne 11, 3) := by decide +kernel
theorem dX4_append_52 : decode cX4_append 52 = .ok (.aload_n 0, 1) := by decide +kernel
theorem dX4_append_53 : decode cX4_append 53 = .ok (.aload_n 0, 1) := by decide +kernel
theorem dX4_append_54 : decode cX4_append 54 = .ok (.getfield 25, 3) := by decide +kernel
theorem dX4_append_57 : decode cX4_append 57 = .ok (.putfield 9, 3) := by decide +kernel
theorem dX4_append_60 : decode cX4_append 60 = .ok (.aload_n 0, 1) := by decide +kernel
theorem dX4_append_61 : decode cX4_append 61 = .ok (.dup, 1) := by decide +kernel
theorem dX4_append_62 : decode cX4_append 62 = .ok (.getfield 25, 3) := by decide +kernel
theorem dX4_append_65 : decode cX4_append 65 = .ok (.iconst 1, 1) := by decide +kernel
theorem dX4_append_66 : decode cX4_append 66 = .ok (.iadd, 1) := by decide +kernel
theorem dX4_append_67 : decode cX4_append 67 = .ok (.putfield 25, 3) := by decide +kernel
theorem dX4_append_70 : decode cX4_append 70 = .ok (.return_, 1) := by decide +kernel
theorem dX4_cutTo_0 : decode cX4_cutTo 0 = .ok (.iload_n 1, 1) := by decide +kernel
theorem dX4_cutTo_1 : decode cX4_cutTo 1 = .ok (.ifCond .lt 11, 3) := by decide +kernel
theorem dX4_cutTo_4 : decode cX4_cutTo 4 = .ok (.iload_n 1, 1) := by decide +kernel
theorem dX4_cutTo_5 : decode cX4_cutTo 5 = .ok (.aload_n 0, 1) := by decide +kernel
theorem dX4_cutTo_6 : decode cX4_cutTo 6 = .ok (.getfield 25, 3) := by decide +kernel
theorem dX4_cutTo_9 : decode cX4_cutTo 9 = .ok (.if_icmp .le 4, 3) := by decide +kernel
theorem dX4_cutTo_12 : decode cX4_cutTo 12 = .ok (.return_, 1) := by decide +kernel
theorem dX4_cutTo_13 : decode cX4_cutTo 13 = .ok (.aload_n 0, 1) := by decide +kernel
theorem dX4_cutTo_14 : decode cX4_cutTo 14 = .ok (.iload_n 1, 1) := by decide +kernel
theorem dX4_cutTo_15 : decode cX4_cutTo 15 = .ok (.putfield 25, 3) := by decide +kernel
theorem dX4_cutTo_18 : decode cX4_cutTo 18 = .ok (.aload_n 0, 1) := by decide +kernel
theorem dX4_cutTo_19 : decode cX4_cutTo 19 = .ok (.getfield 9, 3) := by decide +kernel
theorem dX4_cutTo_22 : decode cX4_cutTo 22 = .ok (.aload_n 0, 1) := by decide +kernel
theorem dX4_cutTo_23 : decode cX4_cutTo 23 = .ok (.getfield 25, 3) := by decide +kernel
theorem dX4_cutTo_26 : decode cX4_cutTo 26 = .ok (.if_icmp .lt 8, 3) := by decide +kernel
theorem dX4_cutTo_29 : decode cX4_cutTo 29 = .ok (.aload_n 0, 1) := by decide +kernel
theorem dX4_cutTo_30 : decode cX4_cutTo 30 = .ok (.iconst (-1), 1) := by decide +kernel
theorem dX4_cutTo_31 : decode cX4_cutTo 31 = .ok (.putfield 9, 3) := by decide +kernel
theorem dX4_cutTo_34 : decode cX4_cutTo 34 = .ok (.return_, 1) := by decide +kernel
theorem dX4_faultPlace_0 : decode cX4_faultPlace 0 = .ok (.aload_n 0, 1) := by decide +kernel
theorem dX4_faultPlace_1 : decode cX4_faultPlace 1 = .ok (.getfield 9, 3) := by decide +kernel
theorem dX4_faultPlace_4 : decode cX4_faultPlace 4 = .ok (.iconst (-1), 1) := by decide +kernel
theorem dX4_faultPlace_5 : decode cX4_faultPlace 5 = .ok (.if_icmp .eq 8, 3) := by decide +kernel
theorem dX4_faultPlace_8 : decode cX4_faultPlace 8 = .ok (.aload_n 0, 1) := by decide +kernel
theorem dX4_faultPlace_9 : decode cX4_faultPlace 9 = .ok (.getfield 9, 3) := by decide +kernel
theorem dX4_faultPlace_12 : decode cX4_faultPlace 12 = .ok (.ireturn, 1) := by decide +kernel
theorem dX4_faultPlace_13 : decode cX4_faultPlace 13 = .ok (.aload_n 0, 1) := by decide +kernel
theorem dX4_faultPlace_14 : decode cX4_faultPlace 14 = .ok (.getfield 25, 3) := by decide +kernel
theorem dX4_faultPlace_17 : decode cX4_faultPlace 17 = .ok (.ifCond .eq 21, 3) := by decide +kernel
theorem dX4_faultPlace_20 : decode cX4_faultPlace 20 = .ok (.aload_n 0, 1) := by decide +kernel
theorem dX4_faultPlace_21 : decode cX4_faultPlace 21 = .ok (.getfield 25, 3) := by decide +kernel
theorem dX4_faultPlace_24 : decode cX4_faultPlace 24 = .ok (.aload_n 0, 1) := by decide +kernel
theorem dX4_faultPlace_25 : decode cX4_faultPlace 25 = .ok (.getfield 18, 3) := by decide +kernel
theorem dX4_faultPlace_28 : decode cX4_faultPlace 28 = .ok (.irem, 1) := by decide +kernel
theorem dX4_faultPlace_29 : decode cX4_faultPlace 29 = .ok (.aload_n 0, 1) := by decide +kernel
theorem dX4_faultPlace_30 : decode cX4_faultPlace 30 = .ok (.getfield 18, 3) := by decide +kernel
theorem dX4_faultPlace_33 : decode cX4_faultPlace 33 = .ok (.iconst 1, 1) := by decide +kernel
theorem dX4_faultPlace_34 : decode cX4_faultPlace 34 = .ok (.isub, 1) := by decide +kernel
theorem dX4_faultPlace_35 : decode cX4_faultPlace 35 = .ok (.if_icmp .ne 7, 3) := by decide +kernel
theorem dX4_faultPlace_38 : decode cX4_faultPlace 38 = .ok (.iconst (-1), 1) := by decide +kernel
theorem dX4_faultPlace_39 : decode cX4_faultPlace 39 = .ok (.goto 7, 3) := by decide +kernel
theorem dX4_faultPlace_42 : decode cX4_faultPlace 42 = .ok (.aload_n 0, 1) := by decide +kernel
theorem dX4_faultPlace_43 : decode cX4_faultPlace 43 = .ok (.getfield 25, 3) := by decide +kernel
theorem dX4_faultPlace_46 : decode cX4_faultPlace 46 = .ok (.ireturn, 1) := by decide +kernel
theorem dX4_things_0 : decode cX4_things 0 = .ok (.aload_n 0, 1) := by decide +kernel
theorem dX4_things_1 : decode cX4_things 1 = .ok (.invokevirtual 36, 3) := by decide +kernel
theorem dX4_things_4 : decode cX4_things 4 = .ok (.iconst (-1), 1) := by decide +kernel
theorem dX4_things_5 : decode cX4_things 5 = .ok (.if_icmp .ne 17, 3) := by decide +kernel
theorem dX4_things_8 : decode cX4_things 8 = .ok (.aload_n 0, 1) := by decide +kernel
theorem dX4_things_9 : decode cX4_things 9 = .ok (.getfield 25, 3) := by decide +kernel
theorem dX4_things_12 : decode cX4_things 12 = .ok (.iconst 1, 1) := by decide +kernel
theorem dX4_things_13 : decode cX4_things 13 = .ok (.iadd, 1) := by decide +kernel
theorem dX4_things_14 : decode cX4_things 14 = .ok (.aload_n 0, 1) := by decide +kernel
theorem dX4_things_15 : decode cX4_things 15 = .ok (.getfield 18, 3) := by decide +kernel
theorem dX4_things_18 : decode cX4_things 18 = .ok (.idiv, 1) := by decide +kernel
theorem dX4_things_19 : decode cX4_things 19 = .ok (.goto 4, 3) := by decide +kernel
theorem dX4_things_22 : decode cX4_things 22 = .ok (.iconst 0, 1) := by decide +kernel
theorem dX4_things_23 : decode cX4_things 23 = .ok (.ireturn, 1) := by decide +kernel
theorem dX4_valueOf_0 : decode cX4_valueOf 0 = .ok (.iload_n 1, 1) := by decide +kernel
theorem dX4_valueOf_1 : decode cX4_valueOf 1 = .ok (.aload_n 0, 1) := by decide +kernel
theorem dX4_valueOf_2 : decode cX4_valueOf 2 = .ok (.getfield 18, 3) := by decide +kernel
theorem dX4_valueOf_5 : decode cX4_valueOf 5 = .ok (.imul, 1) := by decide +kernel
theorem dX4_valueOf_6 : decode cX4_valueOf 6 = .ok (.iload_n 2, 1) := by decide +kernel
theorem dX4_valueOf_7 : decode cX4_valueOf 7 = .ok (.iadd, 1) := by decide +kernel
theorem dX4_valueOf_8 : decode cX4_valueOf 8 = .ok (.istore_n 3, 1) := by decide +kernel
theorem dX4_valueOf_9 : decode cX4_valueOf 9 = .ok (.iload_n 3, 1) := by decide +kernel
theorem dX4_valueOf_10 : decode cX4_valueOf 10 = .ok (.aload_n 0, 1) := by decide +kernel
theorem dX4_valueOf_11 : decode cX4_valueOf 11 = .ok (.getfield 25, 3) := by decide +kernel
theorem dX4_valueOf_14 : decode cX4_valueOf 14 = .ok (.invokestatic 40, 3) := by decide +kernel
theorem dX4_valueOf_17 : decode cX4_valueOf 17 = .ok (.ifCond .eq 7, 3) := by decide +kernel
theorem dX4_valueOf_20 : decode cX4_valueOf 20 = .ok (.iconst (-1), 1) := by decide +kernel
theorem dX4_valueOf_21 : decode cX4_valueOf 21 = .ok (.goto 9, 3) := by decide +kernel
theorem dX4_valueOf_24 : decode cX4_valueOf 24 = .ok (.aload_n 0, 1) := by decide +kernel
theorem dX4_valueOf_25 : decode cX4_valueOf 25 = .ok (.getfield 21, 3) := by decide +kernel
theorem dX4_valueOf_28 : decode cX4_valueOf 28 = .ok (.iload_n 3, 1) := by decide +kernel
theorem dX4_valueOf_29 : decode cX4_valueOf 29 = .ok (.iaload, 1) := by decide +kernel
theorem dX4_valueOf_30 : decode cX4_valueOf 30 = .ok (.ireturn, 1) := by decide +kernel
theorem dX4_meaning_0 : decode cX4_meaning 0 = .ok (.iload_n 1, 1) := by decide +kernel
theorem dX4_meaning_1 : decode cX4_meaning 1 = .ok (.aload_n 0, 1) := by decide +kernel
theorem dX4_meaning_2 : decode cX4_meaning 2 = .ok (.getfield 18, 3) := by decide +kernel
theorem dX4_meaning_5 : decode cX4_meaning 5 = .ok (.iconst 1, 1) := by decide +kernel
theorem dX4_meaning_6 : decode cX4_meaning 6 = .ok (.isub, 1) := by decide +kernel
theorem dX4_meaning_7 : decode cX4_meaning 7 = .ok (.if_icmp .ne 15, 3) := by decide +kernel
theorem dX4_meaning_10 : decode cX4_meaning 10 = .ok (.iload_n 2, 1) := by decide +kernel
theorem dX4_meaning_11 : decode cX4_meaning 11 = .ok (.bipush 59, 2) := by decide +kernel
theorem dX4_meaning_13 : decode cX4_meaning 13 = .ok (.if_icmp .ne 7, 3) := by decide +kernel
theorem dX4_meaning_16 : decode cX4_meaning 16 = .ok (.iconst 0, 1) := by decide +kernel
theorem dX4_meaning_17 : decode cX4_meaning 17 = .ok (.goto 4, 3) := by decide +kernel
theorem dX4_meaning_20 : decode cX4_meaning 20 = .ok (.iconst (-1), 1) := by decide +kernel
theorem dX4_meaning_21 : decode cX4_meaning 21 = .ok (.ireturn, 1) := by decide +kernel
theorem dX4_meaning_22 : decode cX4_meaning 22 = .ok (.aload_n 0, 1) := by decide +kernel
theorem dX4_meaning_23 : decode cX4_meaning 23 = .ok (.getfield 15, 3) := by decide +kernel
theorem dX4_meaning_26 : decode cX4_meaning 26 = .ok (.ifCond .ne 25, 3) := by decide +kernel
theorem dX4_meaning_29 : decode cX4_meaning 29 = .ok (.iload_n 1, 1) := by decide +kernel
theorem dX4_meaning_30 : decode cX4_meaning 30 = .ok (.ifCond .ne 10, 3) := by decide +kernel
theorem dX4_meaning_33 : decode cX4_meaning 33 = .ok (.iload_n 2, 1) := by decide +kernel
theorem dX4_meaning_34 : decode cX4_meaning 34 = .ok (.invokestatic 44, 3) := by decide +kernel
theorem dX4_meaning_37 : decode cX4_meaning 37 = .ok (.goto 13, 3) := by decide +kernel
theorem dX4_meaning_40 : decode cX4_meaning 40 = .ok (.iload_n 2, 1) := by decide +kernel
theorem dX4_meaning_41 : decode cX4_meaning 41 = .ok (.bipush 97, 2) := by decide +kernel
theorem dX4_meaning_43 : decode cX4_meaning 43 = .ok (.bipush 120, 2) := by decide +kernel
theorem dX4_meaning_45 : decode cX4_meaning 45 = .ok (.bipush 97, 2) := by decide +kernel
theorem dX4_meaning_47 : decode cX4_meaning 47 = .ok (.invokestatic 48, 3) := by decide +kernel
theorem dX4_meaning_50 : decode cX4_meaning 50 = .ok (.ireturn, 1) := by decide +kernel
theorem dX4_meaning_51 : decode cX4_meaning 51 = .ok (.aload_n 0, 1) := by decide +kernel
theorem dX4_meaning_52 : decode cX4_meaning 52 = .ok (.getfield 15, 3) := by decide +kernel
theorem dX4_meaning_55 : decode cX4_meaning 55 = .ok (.iconst 1, 1) := by decide +kernel
theorem dX4_meaning_56 : decode cX4_meaning 56 = .ok (.if_icmp .ne 34, 3) := by decide +kernel
theorem dX4_meaning_59 : decode cX4_meaning 59 = .ok (.iload_n 2, 1) := by decide +kernel
theorem dX4_meaning_60 : decode cX4_meaning 60 = .ok (.iload_n 1, 1) := by decide +kernel
theorem dX4_meaning_61 : decode cX4_meaning 61 = .ok (.iconst 2, 1) := by decide +kernel
theorem dX4_meaning_62 : decode cX4_meaning 62 = .ok (.if_icmp .ne 8, 3) := by decide +kernel
theorem dX4_meaning_65 : decode cX4_meaning 65 = .ok (.bipush 49, 2) := by decide +kernel
theorem dX4_meaning_67 : decode cX4_meaning 67 = .ok (.goto 5, 3) := by decide +kernel
theorem dX4_meaning_70 : decode cX4_meaning 70 = .ok (.bipush 48, 2) := by decide +kernel
theorem dX4_meaning_72 : decode cX4_meaning 72 = .ok (.iload_n 1, 1) := by decide +kernel
theorem dX4_meaning_73 : decode cX4_meaning 73 = .ok (.iconst 2, 1) := by decide +kernel
theorem dX4_meaning_74 : decode cX4_meaning 74 = .ok (.if_icmp .ne 8, 3) := by decide +kernel
theorem dX4_meaning_77 : decode cX4_meaning 77 = .ok (.bipush 57, 2) := by decide +kernel
theorem dX4_meaning_79 : decode cX4_meaning 79 = .ok (.goto 5, 3) := by decide +kernel
theorem dX4_meaning_82 : decode cX4_meaning 82 = .ok (.bipush 55, 2) := by decide +kernel
theorem dX4_meaning_84 : decode cX4_meaning 84 = .ok (.bipush 48, 2) := by decide +kernel
theorem dX4_meaning_86 : decode cX4_meaning 86 = .ok (.invokestatic 48, 3) := by decide +kernel
theorem dX4_meaning_89 : decode cX4_meaning 89 = .ok (.ireturn, 1) := by decide +kernel
theorem dX4_meaning_90 : decode cX4_meaning 90 = .ok (.iload_n 1, 1) := by decide +kernel
theorem dX4_meaning_91 : decode cX4_meaning 91 = .ok (.ifCond .ne 16, 3) := by decide +kernel
theorem dX4_meaning_94 : decode cX4_meaning 94 = .ok (.iload_n 2, 1) := by decide +kernel
theorem dX4_meaning_95 : decode cX4_meaning 95 = .ok (.bipush 97, 2) := by decide +kernel
theorem dX4_meaning_97 : decode cX4_meaning 97 = .ok (.bipush 120, 2) := by decide +kernel
theorem dX4_meaning_99 : decode cX4_meaning 99 = .ok (.bipush 97, 2) := by decide +kernel
theorem dX4_meaning_101 : decode cX4_meaning 101 = .ok (.invokestatic 48, 3) := by decide +kernel
theorem dX4_meaning_104 : decode cX4_meaning 104 = .ok (.goto 13, 3) := by decide +kernel
theorem dX4_meaning_107 : decode cX4_meaning 107 = .ok (.iload_n 2, 1) := by decide +kernel
theorem dX4_meaning_108 : decode cX4_meaning 108 = .ok (.bipush 48, 2) := by decide +kernel
theorem dX4_meaning_110 : decode cX4_meaning 110 = .ok (.bipush 55, 2) := by decide +kernel
theorem dX4_meaning_112 : decode cX4_meaning 112 = .ok (.bipush 48, 2) := by decide +kernel
theorem dX4_meaning_114 : decode cX4_meaning 114 = .ok (.invokestatic 48, 3) := by decide +kernel
theorem dX4_meaning_117 : decode cX4_meaning 117 = .ok (.ireturn, 1) := by decide +kernel
theorem dX4_sortOf_0 : decode cX4_sortOf 0 = .ok (.iload_n 0, 1) := by decide +kernel
theorem dX4_sortOf_1 : decode cX4_sortOf 1 = .ok (.lookupswitch 51 #[(98, 49), (109, 47), (111, 45), (112, 43)], 43) := by decide +kernel
theorem dX4_sortOf_44 : decode cX4_sortOf 44 = .ok (.iconst 0, 1) := by decide +kernel
theorem dX4_sortOf_45 : decode cX4_sortOf 45 = .ok (.ireturn, 1) := by decide +kernel
theorem dX4_sortOf_46 : decode cX4_sortOf 46 = .ok (.iconst 1, 1) := by decide +kernel
theorem dX4_sortOf_47 : decode cX4_sortOf 47 = .ok (.ireturn, 1) := by decide +kernel
theorem dX4_sortOf_48 : decode cX4_sortOf 48 = .ok (.iconst 2, 1) := by decide +kernel
theorem dX4_sortOf_49 : decode cX4_sortOf 49 = .ok (.ireturn, 1) := by decide +kernel
theorem dX4_sortOf_50 : decode cX4_sortOf 50 = .ok (.iconst 3, 1) := by decide +kernel
theorem dX4_sortOf_51 : decode cX4_sortOf 51 = .ok (.ireturn, 1) := by decide +kernel
theorem dX4_sortOf_52 : decode cX4_sortOf 52 = .ok (.iconst (-1), 1) := by decide +kernel
theorem dX4_sortOf_53 : decode cX4_sortOf 53 = .ok (.ireturn, 1) := by decide +kernel
theorem dX4_within_0 : decode cX4_within 0 = .ok (.iload_n 0, 1) := by decide +kernel
theorem dX4_within_1 : decode cX4_within 1 = .ok (.iload_n 1, 1) := by decide +kernel
theorem dX4_within_2 : decode cX4_within 2 = .ok (.if_icmp .lt 8, 3) := by decide +kernel
theorem dX4_within_5 : decode cX4_within 5 = .ok (.iload_n 0, 1) := by decide +kernel
theorem dX4_within_6 : decode cX4_within 6 = .ok (.iload_n 2, 1) := by decide +kernel
theorem dX4_within_7 : decode cX4_within 7 = .ok (.if_icmp .le 7, 3) := by decide +kernel
theorem dX4_within_10 : decode cX4_within 10 = .ok (.iconst (-1), 1) := by decide +kernel
theorem dX4_within_11 : decode cX4_within 11 = .ok (.goto 6, 3) := by decide +kernel
theorem dX4_within_14 : decode cX4_within 14 = .ok (.iload_n 0, 1) := by decide +kernel
theorem dX4_within_15 : decode cX4_within 15 = .ok (.iload_n 3, 1) := by decide +kernel
theorem dX4_within_16 : decode cX4_within 16 = .ok (.isub, 1) := by decide +kernel
theorem dX4_within_17 : decode cX4_within 17 = .ok (.ireturn, 1) := by decide +kernel
theorem dX5_init_0 : decode cX5_init 0 = .ok (.aload_n 0, 1) := by decide +kernel
theorem dX5_init_1 : decode cX5_init 1 = .ok (.invokespecial 3, 3) := by decide +kernel
theorem dX5_init_4 : decode cX5_init 4 = .ok (.aload_n 0, 1) := by decide +kernel
theorem dX5_init_5 : decode cX5_init 5 = .ok (.bipush 8, 2) := by decide +kernel
theorem dX5_init_7 : decode cX5_init 7 = .ok (.newarray .int, 2) := by decide +kernel
theorem dX5_init_9 : decode cX5_init 9 = .ok (.putfield 9, 3) := by decide +kernel
theorem dX5_init_12 : decode cX5_init 12 = .ok (.aload_n 0, 1) := by decide +kernel
theorem dX5_init_13 : decode cX5_init 13 = .ok (.bipush 8, 2) := by decide +kernel
theorem dX5_init_15 : decode cX5_init 15 = .ok (.newarray .int, 2) := by decide +kernel
theorem dX5_init_17 : decode cX5_init 17 = .ok (.putfield 15, 3) := by decide +kernel
theorem dX5_init_20 : decode cX5_init 20 = .ok (.aload_n 0, 1) := by decide +kernel
theorem dX5_init_21 : decode cX5_init 21 = .ok (.bipush 12, 2) := by decide +kernel
theorem dX5_init_23 : decode cX5_init 23 = .ok (.newarray .int, 2) := by decide +kernel
theorem dX5_init_25 : decode cX5_init 25 = .ok (.putfield 18, 3) := by decide +kernel
theorem dX5_init_28 : decode cX5_init 28 = .ok (.aload_n 0, 1) := by decide +kernel
theorem dX5_init_29 : decode cX5_init 29 = .ok (.bipush 12, 2) := by decide +kernel
theorem dX5_init_31 : decode cX5_init 31 = .ok (.newarray .int, 2) := by decide +kernel
theorem dX5_init_33 : decode cX5_init 33 = .ok (.putfield 21, 3) := by decide +kernel
theorem dX5_init_36 : decode cX5_init 36 = .ok (.aload_n 0, 1) := by decide +kernel
theorem dX5_init_37 : decode cX5_init 37 = .ok (.bipush 12, 2) := by decide +kernel
theorem dX5_init_39 : decode cX5_init 39 = .ok (.newarray .int, 2) := by decide +kernel
theorem dX5_init_41 : decode cX5_init 41 = .ok (.putfield 24, 3) := by decide +kernel
theorem dX5_init_44 : decode cX5_init 44 = .ok (.aload_n 0, 1) := by decide +kernel
theorem dX5_init_45 : decode cX5_init 45 = .ok (.bipush 13, 2) := by decide +kernel
theorem dX5_init_47 : decode cX5_init 47 = .ok (.newarray .int, 2) := by decide +kernel
theorem dX5_init_49 : decode cX5_init 49 = .ok (.putfield 27, 3) := by decide +kernel
theorem dX5_init_52 : decode cX5_init 52 = .ok (.aload_n 0, 1) := by decide +kernel
theorem dX5_init_53 : decode cX5_init 53 = .ok (.bipush 13, 2) := by decide +kernel
theorem dX5_init_55 : decode cX5_init 55 = .ok (.newarray .int, 2) := by decide +kernel
theorem dX5_init_57 : decode cX5_init 57 = .ok (.putfield 30, 3) := by decide +kernel
theorem dX5_init_60 : decode cX5_init 60 = .ok (.aload_n 0, 1) := by decide +kernel
theorem dX5_init_61 : decode cX5_init 61 = .ok (.bipush 13, 2) := by decide +kernel
theorem dX5_init_63 : decode cX5_init 63 = .ok (.newarray .int, 2) := by decide +kernel
theorem dX5_init_65 : decode cX5_init 65 = .ok (.putfield 33, 3) := by decide +kernel
theorem dX5_init_68 : decode cX5_init 68 = .ok (.return_, 1) := by decide +kernel
theorem dX5_readPeople_0 : decode cX5_readPeople 0 = .ok (.aload_n 0, 1) := by decide +kernel
theorem dX5_readPeople_1 : decode cX5_readPeople 1 = .ok (.aload_n 1, 1) := by decide +kernel
theorem dX5_readPeople_2 : decode cX5_readPeople 2 = .ok (.invokevirtual 36, 3) := by decide +kernel
theorem dX5_readPeople_5 : decode cX5_readPeople 5 = .ok (.bipush 8, 2) := by decide +kernel
theorem dX5_readPeople_7 : decode cX5_readPeople 7 = .ok (.invokestatic 42, 3) := by decide +kernel
theorem dX5_readPeople_10 : decode cX5_readPeople 10 = .ok (.putfield 48, 3) := by decide +kernel
theorem dX5_readPeople_13 : decode cX5_readPeople 13 = .ok (.iconst 0, 1) := by decide +kernel
theorem dX5_readPeople_14 : decode cX5_readPeople 14 = .ok (.istore_n 2, 1) := by decide +kernel
theorem dX5_readPeople_15 : decode cX5_readPeople 15 = .ok (.iload_n 2, 1) := by decide +kernel
theorem dX5_readPeople_16 : decode cX5_readPeople 16 = .ok (.aload_n 0, 1) := by decide +kernel
theorem dX5_readPeople_17 : decode cX5_readPeople 17 = .ok (.getfield 48, 3) := by decide +kernel
theorem dX5_readPeople_20 : decode cX5_readPeople 20 = .ok (.if_icmp .ge 33, 3) := by decide +kernel
theorem dX5_readPeople_23 : decode cX5_readPeople 23 = .ok (.aload_n 0, 1) := by decide +kernel
theorem dX5_readPeople_24 : decode cX5_readPeople 24 = .ok (.getfield 9, 3) := by decide +kernel
theorem dX5_readPeople_27 : decode cX5_readPeople 27 = .ok (.iload_n 2, 1) := by decide +kernel
theorem dX5_readPeople_28 : decode cX5_readPeople 28 = .ok (.aload_n 1, 1) := by decide +kernel
theorem dX5_readPeople_29 : decode cX5_readPeople 29 = .ok (.iload_n 2, 1) := by decide +kernel
theorem dX5_readPeople_30 : decode cX5_readPeople 30 = .ok (.iconst 0, 1) := by decide +kernel
theorem dX5_readPeople_31 : decode cX5_readPeople 31 = .ok (.invokevirtual 52, 3) := by decide +kernel
theorem dX5_readPeople_34 : decode cX5_readPeople 34 = .ok (.iastore, 1) := by decide +kernel
theorem dX5_readPeople_35 : decode cX5_readPeople 35 = .ok (.aload_n 0, 1) := by decide +kernel
theorem dX5_readPeople_36 : decode cX5_readPeople 36 = .ok (.getfield 15, 3) := by decide +kernel
theorem dX5_readPeople_39 : decode cX5_readPeople 39 = .ok (.iload_n 2, 1) := by decide +kernel
theorem dX5_readPeople_40 : decode cX5_readPeople 40 = .ok (.aload_n 1, 1) := by decide +kernel
theorem dX5_readPeople_41 : decode cX5_readPeople 41 = .ok (.iload_n 2, 1) := by decide +kernel
theorem dX5_readPeople_42 : decode cX5_readPeople 42 = .ok (.iconst 1, 1) := by decide +kernel
theorem dX5_readPeople_43 : decode cX5_readPeople 43 = .ok (.invokevirtual 52, 3) := by decide +kernel
theorem dX5_readPeople_46 : decode cX5_readPeople 46 = .ok (.iastore, 1) := by decide +kernel
theorem dX5_readPeople_47 : decode cX5_readPeople 47 = .ok (.iinc 2 1, 3) := by decide +kernel
theorem dX5_readPeople_50 : decode cX5_readPeople 50 = .ok (.goto (-35), 3) := by decide +kernel
theorem dX5_readPeople_53 : decode cX5_readPeople 53 = .ok (.return_, 1) := by decide +kernel
theorem dX5_readWords_0 : decode cX5_readWords 0 = .ok (.aload_n 0, 1) := by decide +kernel
theorem dX5_readWords_1 : decode cX5_readWords 1 = .ok (.aload_n 1, 1) := by decide +kernel
theorem dX5_readWords_2 : decode cX5_readWords 2 = .ok (.invokevirtual 36, 3) := by decide +kernel
theorem dX5_readWords_5 : decode cX5_readWords 5 = .ok (.bipush 12, 2) := by decide +kernel
theorem dX5_readWords_7 : decode cX5_readWords 7 = .ok (.invokestatic 42, 3) := by decide +kernel
theorem dX5_readWords_10 : decode cX5_readWords 10 = .ok (.putfield 55, 3) := by decide +kernel
theorem dX5_readWords_13 : decode cX5_readWords 13 = .ok (.iconst 0, 1) := by decide +kernel
theorem dX5_readWords_14 : decode cX5_readWords 14 = .ok (.istore_n 2, 1) := by decide +kernel
theorem dX5_readWords_15 : decode cX5_readWords 15 = .ok (.iload_n 2, 1) := by decide +kernel
theorem dX5_readWords_16 : decode cX5_readWords 16 = .ok (.aload_n 0, 1) := by decide +kernel
theorem dX5_readWords_17 : decode cX5_readWords 17 = .ok (.getfield 55, 3) := by decide +kernel
theorem dX5_readWords_20 : decode cX5_readWords 20 = .ok (.if_icmp .ge 45, 3) := by decide +kernel
theorem dX5_readWords_23 : decode cX5_readWords 23 = .ok (.aload_n 0, 1) := by decide +kernel
theorem dX5_readWords_24 : decode cX5_readWords 24 = .ok (.getfield 18, 3) := by decide +kernel
theorem dX5_readWords_27 : decode cX5_readWords 27 = .ok (.iload_n 2, 1) := by decide +kernel
theorem dX5_readWords_28 : decode cX5_readWords 28 = .ok (.aload_n 1, 1) := by decide +kernel
theorem dX5_readWords_29 : decode cX5_readWords 29 = .ok (.iload_n 2, 1) := by decide +kernel
theorem dX5_readWords_30 : decode cX5_readWords 30 = .ok (.iconst 0, 1) := by decide +kernel
theorem dX5_readWords_31 : decode cX5_readWords 31 = .ok (.invokevirtual 52, 3) := by decide +kernel
theorem dX5_readWords_34 : decode cX5_readWords 34 = .ok (.iastore, 1) := by decide +kernel
theorem dX5_readWords_35 : decode cX5_readWords 35 = .ok (.aload_n 0, 1) := by decide +kernel
theorem dX5_readWords_36 : decode cX5_readWords 36 = .ok (.getfield 21, 3) := by decide +kernel
theorem dX5_readWords_39 : decode cX5_readWords 39 = .ok (.iload_n 2, 1) := by decide +kernel
theorem dX5_readWords_40 : decode cX5_readWords 40 = .ok (.aload_n 1, 1) := by decide +kernel
theorem dX5_readWords_41 : decode cX5_readWords 41 = .ok (.iload_n 2, 1) := by decide +kernel
theorem dX5_readWords_42 : decode cX5_readWords 42 = .ok (.iconst 1, 1) := by decide +kernel
theorem dX5_readWords_43 : decode cX5_readWords 43 = .ok (.invokevirtual 52, 3) := by decide +kernel
theorem dX5_readWords_46 : decode cX5_readWords 46 = .ok (.iastore, 1) := by decide +kernel
theorem dX5_readWords_47 : decode cX5_readWords 47 = .ok (.aload_n 0, 1) := by decide +kernel
theorem dX5_readWords_48 : decode cX5_readWords 48 = .ok (.getfield 24, 3) := by decide +kernel
theorem dX5_readWords_51 : decode cX5_readWords 51 = .ok (.iload_n 2, 1) := by decide +kernel
theorem dX5_readWords_52 : decode cX5_readWords 52 = .ok (.aload_n 1, 1) := by decide +kernel
theorem dX5_readWords_53 : decode cX5_readWords 53 = .ok (.iload_n 2, 1) := by decide +kernel
theorem dX5_readWords_54 : decode cX5_readWords 54 = .ok (.iconst 2, 1) := by decide +kernel
theorem dX5_readWords_55 : decode cX5_readWords 55 = .ok (.invokevirtual 52, 3) := by decide +kernel
theorem dX5_readWords_58 : decode cX5_readWords 58 = .ok (.iastore, 1) := by decide +kernel
theorem dX5_readWords_59 : decode cX5_readWords 59 = .ok (.iinc 2 1, 3) := by decide +kernel
theorem dX5_readWords_62 : decode cX5_readWords 62 = .ok (.goto (-47), 3) := by decide +kernel
theorem dX5_readWords_65 : decode cX5_readWords 65 = .ok (.return_, 1) := by decide +kernel
theorem dX5_readMeetings_0 : decode cX5_readMeetings 0 = .ok (.aload_n 1, 1) := by decide +kernel
theorem dX5_readMeetings_1 : decode cX5_readMeetings 1 = .ok (.invokevirtual 36, 3) := by decide +kernel
theorem dX5_readMeetings_4 : decode cX5_readMeetings 4 = .ok (.bipush 12, 2) := by decide +kernel
theorem dX5_readMeetings_6 : decode cX5_readMeetings 6 = .ok (.invokestatic 42, 3) := by decide +kernel
theorem dX5_readMeetings_9 : decode cX5_readMeetings 9 = .ok (.istore_n 2, 1) := by decide +kernel
theorem dX5_readMeetings_10 : decode cX5_readMeetings 10 = .ok (.aload_n 0, 1) := by decide +kernel
theorem dX5_readMeetings_11 : decode cX5_readMeetings 11 = .ok (.iconst 0, 1) := by decide +kernel
theorem dX5_readMeetings_12 : decode cX5_readMeetings 12 = .ok (.putfield 58, 3) := by decide +kernel
theorem dX5_readMeetings_15 : decode cX5_readMeetings 15 = .ok (.iconst 0, 1) := by decide +kernel
theorem dX5_readMeetings_16 : decode cX5_readMeetings 16 = .ok (.istore_n 3, 1) := by decide +kernel
theorem dX5_readMeetings_17 : decode cX5_readMeetings 17 = .ok (.iload_n 3, 1) := by decide +kernel
theorem dX5_readMeetings_18 : decode cX5_readMeetings 18 = .ok (.iload_n 2, 1) := by decide +kernel
theorem dX5_readMeetings_19 : decode cX5_readMeetings 19 = .ok (.if_icmp .ge 31, 3) := by decide +kernel
theorem dX5_readMeetings_22 : decode cX5_readMeetings 22 = .ok (.aload_n 0, 1) := by decide +kernel
theorem dX5_readMeetings_23 : decode cX5_readMeetings 23 = .ok (.aload_n 1, 1) := by decide +kernel
theorem dX5_readMeetings_24 : decode cX5_readMeetings 24 = .ok (.iload_n 3, 1) := by decide +kernel
theorem dX5_readMeetings_25 : decode cX5_readMeetings 25 = .ok (.iconst 0, 1) := by decide +kernel
theorem dX5_readMeetings_26 : decode cX5_readMeetings 26 = .ok (.invokevirtual 52, 3) := by decide +kernel
theorem dX5_readMeetings_29 : decode cX5_readMeetings 29 = .ok (.aload_n 1, 1) := by decide +kernel
theorem dX5_readMeetings_30 : decode cX5_readMeetings 30 = .ok (.iload_n 3, 1) := by decide +kernel
theorem dX5_readMeetings_31 : decode cX5_readMeetings 31 = .ok (.iconst 1, 1) := by decide +kernel
theorem dX5_readMeetings_32 : decode cX5_readMeetings 32 = .ok (.invokevirtual 52, 3) := by decide +kernel
theorem dX5_readMeetings_35 : decode cX5_readMeetings 35 = .ok (.aload_n 1, 1) := by decide +kernel
theorem dX5_readMeetings_36 : decode cX5_readMeetings 36 = .ok (.iload_n 3, 1) := by decide +kernel
theorem dX5_readMeetings_37 : decode cX5_readMeetings 37 = .ok (.iconst 2, 1) := by decide +kernel
theorem dX5_readMeetings_38 : decode cX5_readMeetings 38 = .ok (.invokevirtual 52, 3) := by decide +kernel
theorem dX5_readMeetings_41 : decode cX5_readMeetings 41 = .ok (.invokevirtual 61, 3) := by decide +kernel
theorem dX5_readMeetings_44 : decode cX5_readMeetings 44 = .ok (.iinc 3 1, 3) := by decide +kernel
theorem dX5_readMeetings_47 : decode cX5_readMeetings 47 = .ok (.goto (-30), 3) := by decide +kernel
theorem dX5_readMeetings_50 : decode cX5_readMeetings 50 = .ok (.return_, 1) := by decide +kernel
theorem dX5_addMeeting_0 : decode cX5_addMeeting 0 = .ok (.aload_n 0, 1) := by decide +kernel
theorem dX5_addMeeting_1 : decode cX5_addMeeting 1 = .ok (.getfield 58, 3) := by decide +kernel
theorem dX5_addMeeting_4 : decode cX5_addMeeting 4 = .ok (.aload_n 0, 1) := by decide +kernel
theorem dX5_addMeeting_5 : decode cX5_addMeeting 5 = .ok (.getfield 27, 3) := by decide +kernel
theorem dX5_addMeeting_8 : decode cX5_addMeeting 8 = .ok (.arraylength, 1) := by decide +kernel
theorem dX5_addMeeting_9 : decode cX5_addMeeting 9 = .ok (.if_icmp .ge 43, 3) := by decide +kernel
theorem dX5_addMeeting_12 : decode cX5_addMeeting 12 = .ok (.aload_n 0, 1) := by decide +kernel
theorem dX5_addMeeting_13 : decode cX5_addMeeting 13 = .ok (.getfield 27, 3) := by decide +kernel
theorem dX5_addMeeting_16 : decode cX5_addMeeting 16 = .ok (.aload_n 0, 1) := by decide +kernel
theorem dX5_addMeeting_17 : decode cX5_addMeeting 17 = .ok (.getfield 58, 3) := by decide +kernel
theorem dX5_addMeeting_20 : decode cX5_addMeeting 20 = .ok (.iload_n 1, 1) := by decide +kernel
theorem dX5_addMeeting_21 : decode cX5_addMeeting 21 = .ok (.iastore, 1) := by decide +kernel
theorem dX5_addMeeting_22 : decode cX5_addMeeting 22 = .ok (.aload_n 0, 1) := by decide +kernel
theorem dX5_addMeeting_23 : decode cX5_addMeeting 23 = .ok (.getfield 30, 3) := by decide +kernel
theorem dX5_addMeeting_26 : decode cX5_addMeeting 26 = .ok (.aload_n 0, 1) := by decide +kernel
theorem dX5_addMeeting_27 : decode cX5_addMeeting 27 = .ok (.getfield 58, 3) := by decide +kernel
theorem dX5_addMeeting_30 : decode cX5_addMeeting 30 = .ok (.iload_n 2, 1) := by decide +kernel
theorem dX5_addMeeting_31 : decode cX5_addMeeting 31 = .ok (.iastore, 1) := by decide +kernel
theorem dX5_addMeeting_32 : decode cX5_addMeeting 32 = .ok (.aload_n 0, 1) := by decide +kernel
theorem dX5_addMeeting_33 : decode cX5_addMeeting 33 = .ok (.getfield 33, 3) := by decide +kernel
theorem dX5_addMeeting_36 : decode cX5_addMeeting 36 = .ok (.aload_n 0, 1) := by decide +kernel
theorem dX5_addMeeting_37 : decode cX5_addMeeting 37 = .ok (.getfield 58, 3) := by decide +kernel
theorem dX5_addMeeting_40 : decode cX5_addMeeting 40 = .ok (.iload_n 3, 1) := by decide +kernel
theorem dX5_addMeeting_41 : decode cX5_addMeeting 41 = .ok (.iastore, 1) := by decide +kernel
theorem dX5_addMeeting_42 : decode cX5_addMeeting 42 = .ok (.aload_n 0, 1) := by decide +kernel
theorem dX5_addMeeting_43 : decode cX5_addMeeting 43 = .ok (.dup, 1) := by decide +kernel
theorem dX5_addMeeting_44 : decode cX5_addMeeting 44 = .ok (.getfield 58, 3) := by decide +kernel
theorem dX5_addMeeting_47 : decode cX5_addMeeting 47 = .ok (.iconst 1, 1) := by decide +kernel
theorem dX5_addMeeting_48 : decode cX5_addMeeting 48 = .ok (.iadd, 1) := by decide +kernel
theorem dX5_addMeeting_49 : decode cX5_addMeeting 49 = .ok (.putfield 58, 3) := by decide +kernel
theorem dX5_addMeeting_52 : decode cX5_addMeeting 52 = .ok (.return_, 1) := by decide +kernel
theorem dX5_drawMeetings_0 : decode cX5_drawMeetings 0 = .ok (.aload_n 0, 1) := by decide +kernel
theorem dX5_drawMeetings_1 : decode cX5_drawMeetings 1 = .ok (.iconst 0, 1) := by decide +kernel
theorem dX5_drawMeetings_2 : decode cX5_drawMeetings 2 = .ok (.putfield 58, 3) := by decide +kernel
theorem dX5_drawMeetings_5 : decode cX5_drawMeetings 5 = .ok (.iload_n 1, 1) := by decide +kernel
theorem dX5_drawMeetings_6 : decode cX5_drawMeetings 6 = .ok (.istore_n 3, 1) := by decide +kernel
theorem dX5_drawMeetings_7 : decode cX5_drawMeetings 7 = .ok (.iconst 0, 1) := by decide +kernel
theorem dX5_drawMeetings_8 : decode cX5_drawMeetings 8 = .ok (.istore 4, 2) := by decide +kernel
theorem dX5_drawMeetings_10 : decode cX5_drawMeetings 10 = .ok (.iload 4, 2) := by decide +kernel
theorem dX5_drawMeetings_12 : decode cX5_drawMeetings 12 = .ok (.iload_n 2, 1) := by decide +kernel
theorem dX5_drawMeetings_13 : decode cX5_drawMeetings 13 = .ok (.if_icmp .ge 68, 3) := by decide +kernel
theorem dX5_drawMeetings_16 : decode cX5_drawMeetings 16 = .ok (.aload_n 0, 1) := by decide +kernel
theorem dX5_drawMeetings_17 : decode cX5_drawMeetings 17 = .ok (.getfield 48, 3) := by decide +kernel
theorem dX5_drawMeetings_20 : decode cX5_drawMeetings 20 = .ok (.ifCond .le 61, 3) := by decide +kernel
theorem dX5_drawMeetings_23 : decode cX5_drawMeetings 23 = .ok (.iload_n 3, 1) := by decide +kernel
theorem dX5_drawMeetings_24 : decode cX5_drawMeetings 24 = .ok (.invokestatic 65, 3) := by decide +kernel
theorem dX5_drawMeetings_27 : decode cX5_drawMeetings 27 = .ok (.istore_n 3, 1) := by decide +kernel
theorem dX5_drawMeetings_28 : decode cX5_drawMeetings 28 = .ok (.iload_n 3, 1) := by decide +kernel
theorem dX5_drawMeetings_29 : decode cX5_drawMeetings 29 = .ok (.bipush 16, 2) := by decide +kernel
theorem dX5_drawMeetings_31 : decode cX5_drawMeetings 31 = .ok (.iushr, 1) := by decide +kernel
theorem dX5_drawMeetings_32 : decode cX5_drawMeetings 32 = .ok (.bipush 24, 2) := by decide +kernel
theorem dX5_drawMeetings_34 : decode cX5_drawMeetings 34 = .ok (.irem, 1) := by decide +kernel
theorem dX5_drawMeetings_35 : decode cX5_drawMeetings 35 = .ok (.istore 5, 2) := by decide +kernel
theorem dX5_drawMeetings_37 : decode cX5_drawMeetings 37 = .ok (.iload_n 3, 1) := by decide +kernel
theorem dX5_drawMeetings_38 : decode cX5_drawMeetings 38 = .ok (.invokestatic 65, 3) := by decide +kernel
theorem dX5_drawMeetings_41 : decode cX5_drawMeetings 41 = .ok (.istore_n 3, 1) := by decide +kernel
theorem dX5_drawMeetings_42 : decode cX5_drawMeetings 42 = .ok (.iload_n 3, 1) := by decide +kernel
theorem dX5_drawMeetings_43 : decode cX5_drawMeetings 43 = .ok (.bipush 16, 2) := by decide +kernel
theorem dX5_drawMeetings_45 : decode cX5_drawMeetings 45 = .ok (.iushr, 1) := by decide +kernel
theorem dX5_drawMeetings_46 : decode cX5_drawMeetings 46 = .ok (.aload_n 0, 1) := by decide +kernel
theorem dX5_drawMeetings_47 : decode cX5_drawMeetings 47 = .ok (.getfield 48, 3) := by decide +kernel
theorem dX5_drawMeetings_50 : decode cX5_drawMeetings 50 = .ok (.irem, 1) := by decide +kernel
theorem dX5_drawMeetings_51 : decode cX5_drawMeetings 51 = .ok (.istore 6, 2) := by decide +kernel
theorem dX5_drawMeetings_53 : decode cX5_drawMeetings 53 = .ok (.iload_n 3, 1) := by decide +kernel
theorem dX5_drawMeetings_54 : decode cX5_drawMeetings 54 = .ok (.invokestatic 65, 3) := by decide +kernel
theorem dX5_drawMeetings_57 : decode cX5_drawMeetings 57 = .ok (.istore_n 3, 1) := by decide +kernel
theorem dX5_drawMeetings_58 : decode cX5_drawMeetings 58 = .ok (.aload_n 0, 1) := by decide +kernel
theorem dX5_drawMeetings_59 : decode cX5_drawMeetings 59 = .ok (.iload 5, 2) := by decide +kernel
theorem dX5_drawMeetings_61 : decode cX5_drawMeetings 61 = .ok (.iload 6, 2) := by decide +kernel
theorem dX5_drawMeetings_63 : decode cX5_drawMeetings 63 = .ok (.iload_n 3, 1) := by decide +kernel
theorem dX5_drawMeetings_64 : decode cX5_drawMeetings 64 = .ok (.bipush 16, 2) := by decide +kernel
theorem dX5_drawMeetings_66 : decode cX5_drawMeetings 66 = .ok (.iushr, 1) := by decide +kernel
theorem dX5_drawMeetings_67 : decode cX5_drawMeetings 67 = .ok (.aload_n 0, 1) := by decide +kernel
theorem dX5_drawMeetings_68 : decode cX5_drawMeetings 68 = .ok (.getfield 48, 3) := by decide +kernel
theorem dX5_drawMeetings_71 : decode cX5_drawMeetings 71 = .ok (.irem, 1) := by decide +kernel
theorem dX5_drawMeetings_72 : decode cX5_drawMeetings 72 = .ok (.invokevirtual 61, 3) := by decide +kernel
theorem dX5_drawMeetings_75 : decode cX5_drawMeetings 75 = .ok (.iinc 4 1, 3) := by decide +kernel
theorem dX5_drawMeetings_78 : decode cX5_drawMeetings 78 = .ok (.goto (-68), 3) := by decide +kernel
theorem dX5_drawMeetings_81 : decode cX5_drawMeetings 81 = .ok (.return_, 1) := by decide +kernel
theorem dX5_nextSeed_0 : decode cX5_nextSeed 0 = .ok (.ldc 69, 2) := by decide +kernel
theorem dX5_nextSeed_2 : decode cX5_nextSeed 2 = .ok (.iload_n 0, 1) := by decide +kernel
theorem dX5_nextSeed_3 : decode cX5_nextSeed 3 = .ok (.imul, 1) := by decide +kernel
theorem dX5_nextSeed_4 : decode cX5_nextSeed 4 = .ok (.sipush 12345, 3) := by decide +kernel
theorem dX5_nextSeed_7 : decode cX5_nextSeed 7 = .ok (.iadd, 1) := by decide +kernel
theorem dX5_nextSeed_8 : decode cX5_nextSeed 8 = .ok (.ireturn, 1) := by decide +kernel
theorem dX5_becomeLike_0 : decode cX5_becomeLike 0 = .ok (.aload_n 0, 1) := by decide +kernel
theorem dX5_becomeLike_1 : decode cX5_becomeLike 1 = .ok (.aload_n 1, 1) := by decide +kernel
theorem dX5_becomeLike_2 : decode cX5_becomeLike 2 = .ok (.getfield 48, 3) := by decide +kernel
theorem dX5_becomeLike_5 : decode cX5_becomeLike 5 = .ok (.putfield 48, 3) := by decide +kernel
theorem dX5_becomeLike_8 : decode cX5_becomeLike 8 = .ok (.aload_n 1, 1) := by decide +kernel
theorem dX5_becomeLike_9 : decode cX5_becomeLike 9 = .ok (.getfield 9, 3) := by decide +kernel
theorem dX5_becomeLike_12 : decode cX5_becomeLike 12 = .ok (.iconst 0, 1) := by decide +kernel
theorem dX5_becomeLike_13 : decode cX5_becomeLike 13 = .ok (.aload_n 0, 1) := by decide +kernel
theorem dX5_becomeLike_14 : decode cX5_becomeLike 14 = .ok (.getfield 9, 3) := by decide +kernel
theorem dX5_becomeLike_17 : decode cX5_becomeLike 17 = .ok (.iconst 0, 1) := by decide +kernel
theorem dX5_becomeLike_18 : decode cX5_becomeLike 18 = .ok (.aload_n 0, 1) := by decide +kernel
theorem dX5_becomeLike_19 : decode cX5_becomeLike 19 = .ok (.getfield 48, 3) := by decide +kernel
theorem dX5_becomeLike_22 : decode cX5_becomeLike 22 = .ok (.invokestatic 70, 3) := by decide +kernel
theorem dX5_becomeLike_25 : decode cX5_becomeLike 25 = .ok (.aload_n 1, 1) := by decide +kernel
theorem dX5_becomeLike_26 : decode cX5_becomeLike 26 = .ok (.getfield 15, 3) := by decide +kernel
theorem dX5_becomeLike_29 : decode cX5_becomeLike 29 = .ok (.iconst 0, 1) := by decide +kernel
theorem dX5_becomeLike_30 : decode cX5_becomeLike 30 = .ok (.aload_n 0, 1) := by decide +kernel
theorem dX5_becomeLike_31 : decode cX5_becomeLike 31 = .ok (.getfield 15, 3) := by decide +kernel
theorem dX5_becomeLike_34 : decode cX5_becomeLike 34 = .ok (.iconst 0, 1) := by decide +kernel
theorem dX5_becomeLike_35 : decode cX5_becomeLike 35 = .ok (.aload_n 0, 1) := by decide +kernel
theorem dX5_becomeLike_36 : decode cX5_becomeLike 36 = .ok (.getfield 48, 3) := by decide +kernel
theorem dX5_becomeLike_39 : decode cX5_becomeLike 39 = .ok (.invokestatic 70, 3) := by decide +kernel
theorem dX5_becomeLike_42 : decode cX5_becomeLike 42 = .ok (.aload_n 0, 1) := by decide +kernel
theorem dX5_becomeLike_43 : decode cX5_becomeLike 43 = .ok (.aload_n 1, 1) := by decide +kernel
theorem dX5_becomeLike_44 : decode cX5_becomeLike 44 = .ok (.getfield 55, 3) := by decide +kernel
theorem dX5_becomeLike_47 : decode cX5_becomeLike 47 = .ok (.putfield 55, 3) := by decide +kernel
theorem dX5_becomeLike_50 : decode cX5_becomeLike 50 = .ok (.aload_n 1, 1) := by decide +kernel
theorem dX5_becomeLike_51 : decode cX5_becomeLike 51 = .ok (.getfield 18, 3) := by decide +kernel
theorem dX5_becomeLike_54 : decode cX5_becomeLike 54 = .ok (.iconst 0, 1) := by decide +kernel
theorem dX5_becomeLike_55 : decode cX5_becomeLike 55 = .ok (.aload_n 0, 1) := by decide +kernel
theorem dX5_becomeLike_56 : decode cX5_becomeLike 56 = .ok (.getfield 18, 3) := by decide +kernel
theorem dX5_becomeLike_59 : decode cX5_becomeLike 59 = .ok (.iconst 0, 1) := by decide +kernel
theorem dX5_becomeLike_60 : decode cX5_becomeLike 60 = .ok (.aload_n 0, 1) := by decide +kernel
theorem dX5_becomeLike_61 : decode cX5_becomeLike 61 = .ok (.getfield 55, 3) := by decide +kernel
theorem dX5_becomeLike_64 : decode cX5_becomeLike 64 = .ok (.invokestatic 70, 3) := by decide +kernel
theorem dX5_becomeLike_67 : decode cX5_becomeLike 67 = .ok (.aload_n 1, 1) := by decide +kernel
theorem dX5_becomeLike_68 : decode cX5_becomeLike 68 = .ok (.getfield 21, 3) := by decide +kernel
theorem dX5_becomeLike_71 : decode cX5_becomeLike 71 = .ok (.iconst 0, 1) := by decide +kernel
theorem dX5_becomeLike_72 : decode cX5_becomeLike 72 = .ok (.aload_n 0, 1) := by decide +kernel
theorem dX5_becomeLike_73 : decode cX5_becomeLike 73 = .ok (.getfield 21, 3) := by decide +kernel
theorem dX5_becomeLike_76 : decode cX5_becomeLike 76 = .ok (.iconst 0, 1) := by decide +kernel
theorem dX5_becomeLike_77 : decode cX5_becomeLike 77 = .ok (.aload_n 0, 1) := by decide +kernel
theorem dX5_becomeLike_78 : decode cX5_becomeLike 78 = .ok (.getfield 55, 3) := by decide +kernel
theorem dX5_becomeLike_81 : decode cX5_becomeLike 81 = .ok (.invokestatic 70, 3) := by decide +kernel
theorem dX5_becomeLike_84 : decode cX5_becomeLike 84 = .ok (.aload_n 1, 1) := by decide +kernel
theorem dX5_becomeLike_85 : decode cX5_becomeLike 85 = .ok (.getfield 24, 3) := by decide +kernel
theorem dX5_becomeLike_88 : decode cX5_becomeLike 88 = .ok (.iconst 0, 1) := by decide +kernel
theorem dX5_becomeLike_89 : decode cX5_becomeLike 89 = .ok (.aload_n 0, 1) := by decide +kernel
theorem dX5_becomeLike_90 : decode cX5_becomeLike 90 = .ok (.getfield 24, 3) := by decide +kernel
theorem dX5_becomeLike_93 : decode cX5_becomeLike 93 = .ok (.iconst 0, 1) := by decide +kernel
theorem dX5_becomeLike_94 : decode cX5_becomeLike 94 = .ok (.aload_n 0, 1) := by decide +kernel
theorem dX5_becomeLike_95 : decode cX5_becomeLike 95 = .ok (.getfield 55, 3) := by decide +kernel
theorem dX5_becomeLike_98 : decode cX5_becomeLike 98 = .ok (.invokestatic 70, 3) := by decide +kernel
theorem dX5_becomeLike_101 : decode cX5_becomeLike 101 = .ok (.aload_n 0, 1) := by decide +kernel
theorem dX5_becomeLike_102 : decode cX5_becomeLike 102 = .ok (.aload_n 1, 1) := by decide +kernel
theorem dX5_becomeLike_103 : decode cX5_becomeLike 103 = .ok (.getfield 58, 3) := by decide +kernel
theorem dX5_becomeLike_106 : decode cX5_becomeLike 106 = .ok (.putfield 58, 3) := by decide +kernel
theorem dX5_becomeLike_109 : decode cX5_becomeLike 109 = .ok (.aload_n 1, 1) := by decide +kernel
theorem dX5_becomeLike_110 : decode cX5_becomeLike 110 = .ok (.getfield 27, 3) := by decide +kernel
theorem dX5_becomeLike_113 : decode cX5_becomeLike 113 = .ok (.iconst 0, 1) := by decide +kernel
theorem dX5_becomeLike_114 : decode cX5_becomeLike 114 = .ok (.aload_n 0, 1) := by decide +kernel
theorem dX5_becomeLike_115 : decode cX5_becomeLike 115 = .ok (.getfield 27, 3) := by decide +kernel
theorem dX5_becomeLike_118 : decode cX5_becomeLike 118 = .ok (.iconst 0, 1) := by decide +kernel
theorem dX5_becomeLike_119 : decode cX5_becomeLike 119 = .ok (.aload_n 0, 1) := by decide +kernel
theorem dX5_becomeLike_120 : decode cX5_becomeLike 120 = .ok (.getfield 58, 3) := by decide +kernel
theorem dX5_becomeLike_123 : decode cX5_becomeLike 123 = .ok (.invokestatic 70, 3) := by decide +kernel
theorem dX5_becomeLike_126 : decode cX5_becomeLike 126 = .ok (.aload_n 1, 1) := by decide +kernel
theorem dX5_becomeLike_127 : decode cX5_becomeLike 127 = .ok (.getfield 30, 3) := by decide +kernel
theorem dX5_becomeLike_130 : decode cX5_becomeLike 130 = .ok (.iconst 0, 1) := by decide +kernel
theorem dX5_becomeLike_131 : decode cX5_becomeLike 131 = .ok (.aload_n 0, 1) := by decide +kernel
theorem dX5_becomeLike_132 : decode cX5_becomeLike 132 = .ok (.getfield 30, 3) := by decide +kernel
theorem dX5_becomeLike_135 : decode cX5_becomeLike 135 = .ok (.iconst 0, 1) := by decide +kernel
theorem dX5_becomeLike_136 : decode cX5_becomeLike 136 = .ok (.aload_n 0, 1) := by decide +kernel
theorem dX5_becomeLike_137 : decode cX5_becomeLike 137 = .ok (.getfield 58, 3) := by decide +kernel
theorem dX5_becomeLike_140 : decode cX5_becomeLike 140 = .ok (.invokestatic 70, 3) := by decide +kernel
theorem dX5_becomeLike_143 : decode cX5_becomeLike 143 = .ok (.aload_n 1, 1) := by decide +kernel
theorem dX5_becomeLike_144 : decode cX5_becomeLike 144 = .ok (.getfield 33, 3) := by decide +kernel
theorem dX5_becomeLike_147 : decode cX5_becomeLike 147 = .ok (.iconst 0, 1) := by decide +kernel
theorem dX5_becomeLike_148 : decode cX5_becomeLike 148 = .ok (.aload_n 0, 1) := by decide +kernel
theorem dX5_becomeLike_149 : decode cX5_becomeLike 149 = .ok (.getfield 33, 3) := by decide +kernel
theorem dX5_becomeLike_152 : decode cX5_becomeLike 152 = .ok (.iconst 0, 1) := by decide +kernel
theorem dX5_becomeLike_153 : decode cX5_becomeLike 153 = .ok (.aload_n 0, 1) := by decide +kernel
theorem dX5_becomeLike_154 : decode cX5_becomeLike 154 = .ok (.getfield 58, 3) := by decide +kernel
theorem dX5_becomeLike_157 : decode cX5_becomeLike 157 = .ok (.invokestatic 70, 3) := by decide +kernel
theorem dX5_becomeLike_160 : decode cX5_becomeLike 160 = .ok (.return_, 1) := by decide +kernel
theorem dX5_areTwo_0 : decode cX5_areTwo 0 = .ok (.iload_n 1, 1) := by decide +kernel
theorem dX5_areTwo_1 : decode cX5_areTwo 1 = .ok (.iload_n 2, 1) := by decide +kernel
theorem dX5_areTwo_2 : decode cX5_areTwo 2 = .ok (.if_icmp .eq 31, 3) := by decide +kernel
theorem dX5_areTwo_5 : decode cX5_areTwo 5 = .ok (.iload_n 1, 1) := by decide +kernel
theorem dX5_areTwo_6 : decode cX5_areTwo 6 = .ok (.ifCond .lt 27, 3) := by decide +kernel
theorem dX5_areTwo_9 : decode cX5_areTwo 9 = .ok (.iload_n 1, 1) := by decide +kernel
theorem dX5_areTwo_10 : decode cX5_areTwo 10 = .ok (.aload_n 0, 1) := by decide +kernel
theorem dX5_areTwo_11 : decode cX5_areTwo 11 = .ok (.getfield 48, 3) := by decide +kernel
theorem dX5_areTwo_14 : decode cX5_areTwo 14 = .ok (.if_icmp .ge 19, 3) := by decide +kernel
theorem dX5_areTwo_17 : decode cX5_areTwo 17 = .ok (.iload_n 2, 1) := by decide +kernel
theorem dX5_areTwo_18 : decode cX5_areTwo 18 = .ok (.ifCond .lt 15, 3) := by decide +kernel
theorem dX5_areTwo_21 : decode cX5_areTwo 21 = .ok (.iload_n 2, 1) := by decide +kernel
theorem dX5_areTwo_22 : decode cX5_areTwo 22 = .ok (.aload_n 0, 1) := by decide +kernel
theorem dX5_areTwo_23 : decode cX5_areTwo 23 = .ok (.getfield 48, 3) := by decide +kernel
theorem dX5_areTwo_26 : decode cX5_areTwo 26 = .ok (.if_icmp .ge 7, 3) := by decide +kernel
theorem dX5_areTwo_29 : decode cX5_areTwo 29 = .ok (.iconst 1, 1) := by decide +kernel
theorem dX5_areTwo_30 : decode cX5_areTwo 30 = .ok (.goto 4, 3) := by decide +kernel
theorem dX5_areTwo_33 : decode cX5_areTwo 33 = .ok (.iconst 0, 1) := by decide +kernel
theorem dX5_areTwo_34 : decode cX5_areTwo 34 = .ok (.ireturn, 1) := by decide +kernel
theorem dJ6_bitCount_0f7a4_0 : decode cJ6_bitCount_0f7a4 0 = .ok (.iload_n 0, 1) := by decide +kernel
theorem dJ6_bitCount_0f7a4_1 : decode cJ6_bitCount_0f7a4 1 = .ok (.iload_n 0, 1) := by decide +kernel
theorem dJ6_bitCount_0f7a4_2 : decode cJ6_bitCount_0f7a4 2 = .ok (.iconst 1, 1) := by decide +kernel
theorem dJ6_bitCount_0f7a4_3 : decode cJ6_bitCount_0f7a4 3 = .ok (.iushr, 1) := by decide +kernel
theorem dJ6_bitCount_0f7a4_4 : decode cJ6_bitCount_0f7a4 4 = .ok (.ldc_w 265, 3) := by decide +kernel
theorem dJ6_bitCount_0f7a4_7 : decode cJ6_bitCount_0f7a4 7 = .ok (.iand, 1) := by decide +kernel
theorem dJ6_bitCount_0f7a4_8 : decode cJ6_bitCount_0f7a4 8 = .ok (.isub, 1) := by decide +kernel
theorem dJ6_bitCount_0f7a4_9 : decode cJ6_bitCount_0f7a4 9 = .ok (.istore_n 0, 1) := by decide +kernel
theorem dJ6_bitCount_0f7a4_10 : decode cJ6_bitCount_0f7a4 10 = .ok (.iload_n 0, 1) := by decide +kernel
theorem dJ6_bitCount_0f7a4_11 : decode cJ6_bitCount_0f7a4 11 = .ok (.ldc_w 266, 3) := by decide +kernel
theorem dJ6_bitCount_0f7a4_14 : decode cJ6_bitCount_0f7a4 14 = .ok (.iand, 1) := by decide +kernel
theorem dJ6_bitCount_0f7a4_15 : decode cJ6_bitCount_0f7a4 15 = .ok (.iload_n 0, 1) := by decide +kernel
theorem dJ6_bitCount_0f7a4_16 : decode cJ6_bitCount_0f7a4 16 = .ok (.iconst 2, 1) := by decide +kernel
theorem dJ6_bitCount_0f7a4_17 : decode cJ6_bitCount_0f7a4 17 = .ok (.iushr, 1) := by decide +kernel
theorem dJ6_bitCount_0f7a4_18 : decode cJ6_bitCount_0f7a4 18 = .ok (.ldc_w 266, 3) := by decide +kernel
theorem dJ6_bitCount_0f7a4_21 : decode cJ6_bitCount_0f7a4 21 = .ok (.iand, 1) := by decide +kernel
theorem dJ6_bitCount_0f7a4_22 : decode cJ6_bitCount_0f7a4 22 = .ok (.iadd, 1) := by decide +kernel
theorem dJ6_bitCount_0f7a4_23 : decode cJ6_bitCount_0f7a4 23 = .ok (.istore_n 0, 1) := by decide +kernel
theorem dJ6_bitCount_0f7a4_24 : decode cJ6_bitCount_0f7a4 24 = .ok (.iload_n 0, 1) := by decide +kernel
theorem dJ6_bitCount_0f7a4_25 : decode cJ6_bitCount_0f7a4 25 = .ok (.iload_n 0, 1) := by decide +kernel
theorem dJ6_bitCount_0f7a4_26 : decode cJ6_bitCount_0f7a4 26 = .ok (.iconst 4, 1) := by decide +kernel
theorem dJ6_bitCount_0f7a4_27 : decode cJ6_bitCount_0f7a4 27 = .ok (.iushr, 1) := by decide +kernel
theorem dJ6_bitCount_0f7a4_28 : decode cJ6_bitCount_0f7a4 28 = .ok (.iadd, 1) := by decide +kernel
theorem dJ6_bitCount_0f7a4_29 : decode cJ6_bitCount_0f7a4 29 = .ok (.ldc_w 267, 3) := by decide +kernel
theorem dJ6_bitCount_0f7a4_32 : decode cJ6_bitCount_0f7a4 32 = .ok (.iand, 1) := by decide +kernel
theorem dJ6_bitCount_0f7a4_33 : decode cJ6_bitCount_0f7a4 33 = .ok (.istore_n 0, 1) := by decide +kernel
theorem dJ6_bitCount_0f7a4_34 : decode cJ6_bitCount_0f7a4 34 = .ok (.iload_n 0, 1) := by decide +kernel
theorem dJ6_bitCount_0f7a4_35 : decode cJ6_bitCount_0f7a4 35 = .ok (.iload_n 0, 1) := by decide +kernel
theorem dJ6_bitCount_0f7a4_36 : decode cJ6_bitCount_0f7a4 36 = .ok (.bipush 8, 2) := by decide +kernel
theorem dJ6_bitCount_0f7a4_38 : decode cJ6_bitCount_0f7a4 38 = .ok (.iushr, 1) := by decide +kernel
theorem dJ6_bitCount_0f7a4_39 : decode cJ6_bitCount_0f7a4 39 = .ok (.iadd, 1) := by decide +kernel
theorem dJ6_bitCount_0f7a4_40 : decode cJ6_bitCount_0f7a4 40 = .ok (.istore_n 0, 1) := by decide +kernel
theorem dJ6_bitCount_0f7a4_41 : decode cJ6_bitCount_0f7a4 41 = .ok (.iload_n 0, 1) := by decide +kernel
theorem dJ6_bitCount_0f7a4_42 : decode cJ6_bitCount_0f7a4 42 = .ok (.iload_n 0, 1) := by decide +kernel
theorem dJ6_bitCount_0f7a4_43 : decode cJ6_bitCount_0f7a4 43 = .ok (.bipush 16, 2) := by decide +kernel
theorem dJ6_bitCount_0f7a4_45 : decode cJ6_bitCount_0f7a4 45 = .ok (.iushr, 1) := by decide +kernel
theorem dJ6_bitCount_0f7a4_46 : decode cJ6_bitCount_0f7a4 46 = .ok (.iadd, 1) := by decide +kernel
theorem dJ6_bitCount_0f7a4_47 : decode cJ6_bitCount_0f7a4 47 = .ok (.istore_n 0, 1) := by decide +kernel
theorem dJ6_bitCount_0f7a4_48 : decode cJ6_bitCount_0f7a4 48 = .ok (.iload_n 0, 1) := by decide +kernel
theorem dJ6_bitCount_0f7a4_49 : decode cJ6_bitCount_0f7a4 49 = .ok (.bipush 63, 2) := by decide +kernel
theorem dJ6_bitCount_0f7a4_51 : decode cJ6_bitCount_0f7a4 51 = .ok (.iand, 1) := by decide +kernel
theorem dJ6_bitCount_0f7a4_52 : decode cJ6_bitCount_0f7a4 52 = .ok (.ireturn, 1) := by decide +kernel
theorem dJ9_max_7cf53_0 : decode cJ9_max_7cf53 0 = .ok (.iload_n 0, 1) := by decide +kernel
theorem dJ9_max_7cf53_1 : decode cJ9_max_7cf53 1 = .ok (.iload_n 1, 1) := by decide +kernel
theorem dJ9_max_7cf53_2 : decode cJ9_max_7cf53 2 = .ok (.if_icmp .lt 7, 3) := by decide +kernel
theorem dJ9_max_7cf53_5 : decode cJ9_max_7cf53 5 = .ok (.iload_n 0, 1) := by decide +kernel
theorem dJ9_max_7cf53_6 : decode cJ9_max_7cf53 6 = .ok (.goto 4, 3) := by decide +kernel
theorem dJ9_max_7cf53_9 : decode cJ9_max_7cf53 9 = .ok (.iload_n 1, 1) := by decide +kernel
theorem dJ9_max_7cf53_10 : decode cJ9_max_7cf53 10 = .ok (.ireturn, 1) := by decide +kernel
theorem dJ9_min_7cf53_0 : decode cJ9_min_7cf53 0 = .ok (.iload_n 0, 1) := by decide +kernel
theorem dJ9_min_7cf53_1 : decode cJ9_min_7cf53 1 = .ok (.iload_n 1, 1) := by decide +kernel
theorem dJ9_min_7cf53_2 : decode cJ9_min_7cf53 2 = .ok (.if_icmp .gt 7, 3) := by decide +kernel
theorem dJ9_min_7cf53_5 : decode cJ9_min_7cf53 5 = .ok (.iload_n 0, 1) := by decide +kernel
theorem dJ9_min_7cf53_6 : decode cJ9_min_7cf53 6 = .ok (.goto 4, 3) := by decide +kernel
theorem dJ9_min_7cf53_9 : decode cJ9_min_7cf53 9 = .ok (.iload_n 1, 1) := by decide +kernel
theorem dJ9_min_7cf53_10 : decode cJ9_min_7cf53 10 = .ok (.ireturn, 1) := by decide +kernel
