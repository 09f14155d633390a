theorem dX7_init_0 : decode cX7_init 0 = .ok (.aload_n 0, 1) := by decide +kernel
theorem dX7_init_1 : decode cX7_init 1 = .ok (.invokespecial 1, 3) := by decide +kernel
theorem dX7_init_4 : decode cX7_init 4 = .ok (.aload_n 0, 1) := by decide +kernel
theorem dX7_init_5 : decode cX7_init 5 = .ok (.sipush 128, 3) := by decide +kernel
theorem dX7_init_8 : decode cX7_init 8 = .ok (.newarray .int, 2) := by decide +kernel
theorem dX7_init_10 : decode cX7_init 10 = .ok (.putfield 7, 3) := by decide +kernel
theorem dX7_init_13 : decode cX7_init 13 = .ok (.aload_n 0, 1) := by decide +kernel
theorem dX7_init_14 : decode cX7_init 14 = .ok (.sipush 128, 3) := by decide +kernel
theorem dX7_init_17 : decode cX7_init 17 = .ok (.newarray .int, 2) := by decide +kernel
theorem dX7_init_19 : decode cX7_init 19 = .ok (.putfield 13, 3) := by decide +kernel
theorem dX7_init_22 : decode cX7_init 22 = .ok (.aload_n 0, 1) := by decide +kernel
theorem dX7_init_23 : decode cX7_init 23 = .ok (.bipush 12, 2) := by decide +kernel
theorem dX7_init_25 : decode cX7_init 25 = .ok (.newarray .int, 2) := by decide +kernel
theorem dX7_init_27 : decode cX7_init 27 = .ok (.putfield 16, 3) := by decide +kernel
theorem dX7_init_30 : decode cX7_init 30 = .ok (.aload_n 0, 1) := by decide +kernel
theorem dX7_init_31 : decode cX7_init 31 = .ok (.bipush 12, 2) := by decide +kernel
theorem dX7_init_33 : decode cX7_init 33 = .ok (.newarray .int, 2) := by decide +kernel
theorem dX7_init_35 : decode cX7_init 35 = .ok (.putfield 19, 3) := by decide +kernel
theorem dX7_init_38 : decode cX7_init 38 = .ok (.aload_n 0, 1) := by decide +kernel
theorem dX7_init_39 : decode cX7_init 39 = .ok (.bipush 12, 2) := by decide +kernel
theorem dX7_init_41 : decode cX7_init 41 = .ok (.newarray .int, 2) := by decide +kernel
theorem dX7_init_43 : decode cX7_init 43 = .ok (.putfield 22, 3) := by decide +kernel
theorem dX7_init_46 : decode cX7_init 46 = .ok (.aload_n 0, 1) := by decide +kernel
theorem dX7_init_47 : decode cX7_init 47 = .ok (.bipush 12, 2) := by decide +kernel
theorem dX7_init_49 : decode cX7_init 49 = .ok (.newarray .int, 2) := by decide +kernel
theorem dX7_init_51 : decode cX7_init 51 = .ok (.putfield 25, 3) := by decide +kernel
theorem dX7_init_54 : decode cX7_init 54 = .ok (.aload_n 0, 1) := by decide +kernel
theorem dX7_init_55 : decode cX7_init 55 = .ok (.bipush 120, 2) := by decide +kernel
theorem dX7_init_57 : decode cX7_init 57 = .ok (.newarray .int, 2) := by decide +kernel
theorem dX7_init_59 : decode cX7_init 59 = .ok (.putfield 28, 3) := by decide +kernel
theorem dX7_init_62 : decode cX7_init 62 = .ok (.aload_n 0, 1) := by decide +kernel
theorem dX7_init_63 : decode cX7_init 63 = .ok (.bipush 120, 2) := by decide +kernel
theorem dX7_init_65 : decode cX7_init 65 = .ok (.newarray .int, 2) := by decide +kernel
theorem dX7_init_67 : decode cX7_init 67 = .ok (.putfield 31, 3) := by decide +kernel
theorem dX7_init_70 : decode cX7_init 70 = .ok (.aload_n 0, 1) := by decide +kernel
theorem dX7_init_71 : decode cX7_init 71 = .ok (.bipush 120, 2) := by decide +kernel
theorem dX7_init_73 : decode cX7_init 73 = .ok (.newarray .int, 2) := by decide +kernel
theorem dX7_init_75 : decode cX7_init 75 = .ok (.putfield 34, 3) := by decide +kernel
theorem dX7_init_78 : decode cX7_init 78 = .ok (.aload_n 0, 1) := by decide +kernel
theorem dX7_init_79 : decode cX7_init 79 = .ok (.bipush 120, 2) := by decide +kernel
theorem dX7_init_81 : decode cX7_init 81 = .ok (.newarray .int, 2) := by decide +kernel
theorem dX7_init_83 : decode cX7_init 83 = .ok (.putfield 37, 3) := by decide +kernel
theorem dX7_init_86 : decode cX7_init 86 = .ok (.aload_n 0, 1) := by decide +kernel
theorem dX7_init_87 : decode cX7_init 87 = .ok (.bipush 120, 2) := by decide +kernel
theorem dX7_init_89 : decode cX7_init 89 = .ok (.newarray .int, 2) := by decide +kernel
theorem dX7_init_91 : decode cX7_init 91 = .ok (.putfield 40, 3) := by decide +kernel
theorem dX7_init_94 : decode cX7_init 94 = .ok (.aload_n 0, 1) := by decide +kernel
theorem dX7_init_95 : decode cX7_init 95 = .ok (.bipush 120, 2) := by decide +kernel
theorem dX7_init_97 : decode cX7_init 97 = .ok (.newarray .int, 2) := by decide +kernel
theorem dX7_init_99 : decode cX7_init 99 = .ok (.putfield 43, 3) := by decide +kernel
theorem dX7_init_102 : decode cX7_init 102 = .ok (.aload_n 0, 1) := by decide +kernel
theorem dX7_init_103 : decode cX7_init 103 = .ok (.bipush 120, 2) := by decide +kernel
theorem dX7_init_105 : decode cX7_init 105 = .ok (.newarray .int, 2) := by decide +kernel
theorem dX7_init_107 : decode cX7_init 107 = .ok (.putfield 46, 3) := by decide +kernel
theorem dX7_init_110 : decode cX7_init 110 = .ok (.aload_n 0, 1) := by decide +kernel
theorem dX7_init_111 : decode cX7_init 111 = .ok (.sipush 132, 3) := by decide +kernel
theorem dX7_init_114 : decode cX7_init 114 = .ok (.newarray .int, 2) := by decide +kernel
theorem dX7_init_116 : decode cX7_init 116 = .ok (.putfield 49, 3) := by decide +kernel
theorem dX7_init_119 : decode cX7_init 119 = .ok (.aload_n 0, 1) := by decide +kernel
theorem dX7_init_120 : decode cX7_init 120 = .ok (.bipush 11, 2) := by decide +kernel
theorem dX7_init_122 : decode cX7_init 122 = .ok (.newarray .int, 2) := by decide +kernel
theorem dX7_init_124 : decode cX7_init 124 = .ok (.putfield 52, 3) := by decide +kernel
theorem dX7_init_127 : decode cX7_init 127 = .ok (.aload_n 0, 1) := by decide +kernel
theorem dX7_init_128 : decode cX7_init 128 = .ok (.bipush 11, 2) := by decide +kernel
theorem dX7_init_130 : decode cX7_init 130 = .ok (.newarray .int, 2) := by decide +kernel
theorem dX7_init_132 : decode cX7_init 132 = .ok (.putfield 55, 3) := by decide +kernel
theorem dX7_init_135 : decode cX7_init 135 = .ok (.aload_n 0, 1) := by decide +kernel
theorem dX7_init_136 : decode cX7_init 136 = .ok (.bipush 10, 2) := by decide +kernel
theorem dX7_init_138 : decode cX7_init 138 = .ok (.newarray .int, 2) := by decide +kernel
theorem dX7_init_140 : decode cX7_init 140 = .ok (.putfield 58, 3) := by decide +kernel
theorem dX7_init_143 : decode cX7_init 143 = .ok (.aload_n 0, 1) := by decide +kernel
theorem dX7_init_144 : decode cX7_init 144 = .ok (.sipush 8000, 3) := by decide +kernel
theorem dX7_init_147 : decode cX7_init 147 = .ok (.newarray .int, 2) := by decide +kernel
theorem dX7_init_149 : decode cX7_init 149 = .ok (.putfield 61, 3) := by decide +kernel
theorem dX7_init_152 : decode cX7_init 152 = .ok (.aload_n 0, 1) := by decide +kernel
theorem dX7_init_153 : decode cX7_init 153 = .ok (.bipush 10, 2) := by decide +kernel
theorem dX7_init_155 : decode cX7_init 155 = .ok (.newarray .int, 2) := by decide +kernel
theorem dX7_init_157 : decode cX7_init 157 = .ok (.putfield 64, 3) := by decide +kernel
theorem dX7_init_160 : decode cX7_init 160 = .ok (.return_, 1) := by decide +kernel
theorem dX7_in_0 : decode cX7_in 0 = .ok (.iload_n 0, 1) := by decide +kernel
theorem dX7_in_1 : decode cX7_in 1 = .ok (.iload_n 1, 1) := by decide +kernel
theorem dX7_in_2 : decode cX7_in 2 = .ok (.if_icmp .lt 12, 3) := by decide +kernel
theorem dX7_in_5 : decode cX7_in 5 = .ok (.iload_n 0, 1) := by decide +kernel
theorem dX7_in_6 : decode cX7_in 6 = .ok (.iload_n 2, 1) := by decide +kernel
theorem dX7_in_7 : decode cX7_in 7 = .ok (.if_icmp .gt 7, 3) := by decide +kernel
theorem dX7_in_10 : decode cX7_in 10 = .ok (.iconst 1, 1) := by decide +kernel
theorem dX7_in_11 : decode cX7_in 11 = .ok (.goto 4, 3) := by decide +kernel
theorem dX7_in_14 : decode cX7_in 14 = .ok (.iconst 0, 1) := by decide +kernel
theorem dX7_in_15 : decode cX7_in 15 = .ok (.ireturn, 1) := by decide +kernel
theorem dX7_machine_0 : decode cX7_machine 0 = .ok (.aload_n 0, 1) := by decide +kernel
theorem dX7_machine_1 : decode cX7_machine 1 = .ok (.getfield 71, 3) := by decide +kernel
theorem dX7_machine_4 : decode cX7_machine 4 = .ok (.iconst 4, 1) := by decide +kernel
theorem dX7_machine_5 : decode cX7_machine 5 = .ok (.if_icmp .ne 6, 3) := by decide +kernel
theorem dX7_machine_8 : decode cX7_machine 8 = .ok (.bipush (-4), 2) := by decide +kernel
theorem dX7_machine_10 : decode cX7_machine 10 = .ok (.ireturn, 1) := by decide +kernel
theorem dX7_machine_11 : decode cX7_machine 11 = .ok (.aload_n 0, 1) := by decide +kernel
theorem dX7_machine_12 : decode cX7_machine 12 = .ok (.dup, 1) := by decide +kernel
theorem dX7_machine_13 : decode cX7_machine 13 = .ok (.getfield 71, 3) := by decide +kernel
theorem dX7_machine_16 : decode cX7_machine 16 = .ok (.iconst 1, 1) := by decide +kernel
theorem dX7_machine_17 : decode cX7_machine 17 = .ok (.iadd, 1) := by decide +kernel
theorem dX7_machine_18 : decode cX7_machine 18 = .ok (.putfield 71, 3) := by decide +kernel
theorem dX7_machine_21 : decode cX7_machine 21 = .ok (.aload_n 0, 1) := by decide +kernel
theorem dX7_machine_22 : decode cX7_machine 22 = .ok (.getfield 71, 3) := by decide +kernel
theorem dX7_machine_25 : decode cX7_machine 25 = .ok (.iconst 1, 1) := by decide +kernel
theorem dX7_machine_26 : decode cX7_machine 26 = .ok (.isub, 1) := by decide +kernel
theorem dX7_machine_27 : decode cX7_machine 27 = .ok (.ireturn, 1) := by decide +kernel
theorem dX7_row_0 : decode cX7_row 0 = .ok (.iload_n 1, 1) := by decide +kernel
theorem dX7_row_1 : decode cX7_row 1 = .ok (.iconst 0, 1) := by decide +kernel
theorem dX7_row_2 : decode cX7_row 2 = .ok (.aload_n 0, 1) := by decide +kernel
theorem dX7_row_3 : decode cX7_row 3 = .ok (.getfield 71, 3) := by decide +kernel
theorem dX7_row_6 : decode cX7_row 6 = .ok (.iconst 1, 1) := by decide +kernel
theorem dX7_row_7 : decode cX7_row 7 = .ok (.isub, 1) := by decide +kernel
theorem dX7_row_8 : decode cX7_row 8 = .ok (.invokestatic 74, 3) := by decide +kernel
theorem dX7_row_11 : decode cX7_row 11 = .ok (.ifCond .ne 5, 3) := by decide +kernel
theorem dX7_row_14 : decode cX7_row 14 = .ok (.iconst (-1), 1) := by decide +kernel
theorem dX7_row_15 : decode cX7_row 15 = .ok (.ireturn, 1) := by decide +kernel
theorem dX7_row_16 : decode cX7_row 16 = .ok (.iload_n 2, 1) := by decide +kernel
theorem dX7_row_17 : decode cX7_row 17 = .ok (.iconst 0, 1) := by decide +kernel
theorem dX7_row_18 : decode cX7_row 18 = .ok (.bipush 7, 2) := by decide +kernel
theorem dX7_row_20 : decode cX7_row 20 = .ok (.invokestatic 74, 3) := by decide +kernel
theorem dX7_row_23 : decode cX7_row 23 = .ok (.ifCond .eq 23, 3) := by decide +kernel
theorem dX7_row_26 : decode cX7_row 26 = .ok (.iload_n 3, 1) := by decide +kernel
theorem dX7_row_27 : decode cX7_row 27 = .ok (.iconst 0, 1) := by decide +kernel
theorem dX7_row_28 : decode cX7_row 28 = .ok (.iconst 3, 1) := by decide +kernel
theorem dX7_row_29 : decode cX7_row 29 = .ok (.invokestatic 74, 3) := by decide +kernel
theorem dX7_row_32 : decode cX7_row 32 = .ok (.ifCond .eq 14, 3) := by decide +kernel
theorem dX7_row_35 : decode cX7_row 35 = .ok (.iload 5, 2) := by decide +kernel
theorem dX7_row_37 : decode cX7_row 37 = .ok (.iconst 0, 1) := by decide +kernel
theorem dX7_row_38 : decode cX7_row 38 = .ok (.bipush 7, 2) := by decide +kernel
theorem dX7_row_40 : decode cX7_row 40 = .ok (.invokestatic 74, 3) := by decide +kernel
theorem dX7_row_43 : decode cX7_row 43 = .ok (.ifCond .ne 6, 3) := by decide +kernel
theorem dX7_row_46 : decode cX7_row 46 = .ok (.bipush (-2), 2) := by decide +kernel
theorem dX7_row_48 : decode cX7_row 48 = .ok (.ireturn, 1) := by decide +kernel
theorem dX7_row_49 : decode cX7_row 49 = .ok (.iconst 0, 1) := by decide +kernel
theorem dX7_row_50 : decode cX7_row 50 = .ok (.istore 6, 2) := by decide +kernel
theorem dX7_row_52 : decode cX7_row 52 = .ok (.iload 6, 2) := by decide +kernel
theorem dX7_row_54 : decode cX7_row 54 = .ok (.aload_n 0, 1) := by decide +kernel
theorem dX7_row_55 : decode cX7_row 55 = .ok (.getfield 78, 3) := by decide +kernel
theorem dX7_row_58 : decode cX7_row 58 = .ok (.if_icmp .ge 35, 3) := by decide +kernel
theorem dX7_row_61 : decode cX7_row 61 = .ok (.aload_n 0, 1) := by decide +kernel
theorem dX7_row_62 : decode cX7_row 62 = .ok (.getfield 16, 3) := by decide +kernel
theorem dX7_row_65 : decode cX7_row 65 = .ok (.iload 6, 2) := by decide +kernel
theorem dX7_row_67 : decode cX7_row 67 = .ok (.iaload, 1) := by decide +kernel
theorem dX7_row_68 : decode cX7_row 68 = .ok (.bipush 6, 2) := by decide +kernel
theorem dX7_row_70 : decode cX7_row 70 = .ok (.if_icmp .ne 17, 3) := by decide +kernel
theorem dX7_row_73 : decode cX7_row 73 = .ok (.aload_n 0, 1) := by decide +kernel
theorem dX7_row_74 : decode cX7_row 74 = .ok (.getfield 19, 3) := by decide +kernel
theorem dX7_row_77 : decode cX7_row 77 = .ok (.iload 6, 2) := by decide +kernel
theorem dX7_row_79 : decode cX7_row 79 = .ok (.iaload, 1) := by decide +kernel
theorem dX7_row_80 : decode cX7_row 80 = .ok (.iload_n 1, 1) := by decide +kernel
theorem dX7_row_81 : decode cX7_row 81 = .ok (.if_icmp .ne 6, 3) := by decide +kernel
theorem dX7_row_84 : decode cX7_row 84 = .ok (.bipush (-3), 2) := by decide +kernel
theorem dX7_row_86 : decode cX7_row 86 = .ok (.ireturn, 1) := by decide +kernel
theorem dX7_row_87 : decode cX7_row 87 = .ok (.iinc 6 1, 3) := by decide +kernel
theorem dX7_row_90 : decode cX7_row 90 = .ok (.goto (-38), 3) := by decide +kernel
theorem dX7_row_93 : decode cX7_row 93 = .ok (.aload_n 0, 1) := by decide +kernel
theorem dX7_row_94 : decode cX7_row 94 = .ok (.getfield 7, 3) := by decide +kernel
theorem dX7_row_97 : decode cX7_row 97 = .ok (.bipush 32, 2) := by decide +kernel
theorem dX7_row_99 : decode cX7_row 99 = .ok (.iload_n 1, 1) := by decide +kernel
theorem dX7_row_100 : decode cX7_row 100 = .ok (.imul, 1) := by decide +kernel
theorem dX7_row_101 : decode cX7_row 101 = .ok (.iconst 4, 1) := by decide +kernel
theorem dX7_row_102 : decode cX7_row 102 = .ok (.iload_n 2, 1) := by decide +kernel
theorem dX7_row_103 : decode cX7_row 103 = .ok (.imul, 1) := by decide +kernel
theorem dX7_row_104 : decode cX7_row 104 = .ok (.iadd, 1) := by decide +kernel
theorem dX7_row_105 : decode cX7_row 105 = .ok (.iload_n 3, 1) := by decide +kernel
theorem dX7_row_106 : decode cX7_row 106 = .ok (.iadd, 1) := by decide +kernel
theorem dX7_row_107 : decode cX7_row 107 = .ok (.iload 4, 2) := by decide +kernel
theorem dX7_row_109 : decode cX7_row 109 = .ok (.iastore, 1) := by decide +kernel
theorem dX7_row_110 : decode cX7_row 110 = .ok (.aload_n 0, 1) := by decide +kernel
theorem dX7_row_111 : decode cX7_row 111 = .ok (.getfield 13, 3) := by decide +kernel
theorem dX7_row_114 : decode cX7_row 114 = .ok (.bipush 32, 2) := by decide +kernel
theorem dX7_row_116 : decode cX7_row 116 = .ok (.iload_n 1, 1) := by decide +kernel
theorem dX7_row_117 : decode cX7_row 117 = .ok (.imul, 1) := by decide +kernel
theorem dX7_row_118 : decode cX7_row 118 = .ok (.iconst 4, 1) := by decide +kernel
theorem dX7_row_119 : decode cX7_row 119 = .ok (.iload_n 2, 1) := by decide +kernel
theorem dX7_row_120 : decode cX7_row 120 = .ok (.imul, 1) := by decide +kernel
theorem dX7_row_121 : decode cX7_row 121 = .ok (.iadd, 1) := by decide +kernel
theorem dX7_row_122 : decode cX7_row 122 = .ok (.iload_n 3, 1) := by decide +kernel
theorem dX7_row_123 : decode cX7_row 123 = .ok (.iadd, 1) := by decide +kernel
theorem dX7_row_124 : decode cX7_row 124 = .ok (.iload 5, 2) := by decide +kernel
theorem dX7_row_126 : decode cX7_row 126 = .ok (.iastore, 1) := by decide +kernel
theorem dX7_row_127 : decode cX7_row 127 = .ok (.iconst 0, 1) := by decide +kernel
theorem dX7_row_128 : decode cX7_row 128 = .ok (.ireturn, 1) := by decide +kernel
theorem dX7_isHistory_0 : decode cX7_isHistory 0 = .ok (.iload_n 1, 1) := by decide +kernel
theorem dX7_isHistory_1 : decode cX7_isHistory 1 = .ok (.iconst 0, 1) := by decide +kernel
theorem dX7_isHistory_2 : decode cX7_isHistory 2 = .ok (.aload_n 0, 1) := by decide +kernel
theorem dX7_isHistory_3 : decode cX7_isHistory 3 = .ok (.getfield 78, 3) := by decide +kernel
theorem dX7_isHistory_6 : decode cX7_isHistory 6 = .ok (.iconst 1, 1) := by decide +kernel
theorem dX7_isHistory_7 : decode cX7_isHistory 7 = .ok (.isub, 1) := by decide +kernel
theorem dX7_isHistory_8 : decode cX7_isHistory 8 = .ok (.invokestatic 74, 3) := by decide +kernel
theorem dX7_isHistory_11 : decode cX7_isHistory 11 = .ok (.ireturn, 1) := by decide +kernel
theorem dX7_isCall_0 : decode cX7_isCall 0 = .ok (.aload_n 0, 1) := by decide +kernel
theorem dX7_isCall_1 : decode cX7_isCall 1 = .ok (.iload_n 1, 1) := by decide +kernel
theorem dX7_isCall_2 : decode cX7_isCall 2 = .ok (.invokevirtual 81, 3) := by decide +kernel
theorem dX7_isCall_5 : decode cX7_isCall 5 = .ok (.ifCond .eq 23, 3) := by decide +kernel
theorem dX7_isCall_8 : decode cX7_isCall 8 = .ok (.iload_n 2, 1) := by decide +kernel
theorem dX7_isCall_9 : decode cX7_isCall 9 = .ok (.iconst 0, 1) := by decide +kernel
theorem dX7_isCall_10 : decode cX7_isCall 10 = .ok (.aload_n 0, 1) := by decide +kernel
theorem dX7_isCall_11 : decode cX7_isCall 11 = .ok (.getfield 22, 3) := by decide +kernel
theorem dX7_isCall_14 : decode cX7_isCall 14 = .ok (.iload_n 1, 1) := by decide +kernel
theorem dX7_isCall_15 : decode cX7_isCall 15 = .ok (.iaload, 1) := by decide +kernel
theorem dX7_isCall_16 : decode cX7_isCall 16 = .ok (.iconst 1, 1) := by decide +kernel
theorem dX7_isCall_17 : decode cX7_isCall 17 = .ok (.isub, 1) := by decide +kernel
theorem dX7_isCall_18 : decode cX7_isCall 18 = .ok (.invokestatic 74, 3) := by decide +kernel
theorem dX7_isCall_21 : decode cX7_isCall 21 = .ok (.ifCond .eq 7, 3) := by decide +kernel
theorem dX7_isCall_24 : decode cX7_isCall 24 = .ok (.iconst 1, 1) := by decide +kernel
theorem dX7_isCall_25 : decode cX7_isCall 25 = .ok (.goto 4, 3) := by decide +kernel
theorem dX7_isCall_28 : decode cX7_isCall 28 = .ok (.iconst 0, 1) := by decide +kernel
theorem dX7_isCall_29 : decode cX7_isCall 29 = .ok (.ireturn, 1) := by decide +kernel
theorem dX7_isOpen_0 : decode cX7_isOpen 0 = .ok (.aload_n 0, 1) := by decide +kernel
theorem dX7_isOpen_1 : decode cX7_isOpen 1 = .ok (.getfield 43, 3) := by decide +kernel
theorem dX7_isOpen_4 : decode cX7_isOpen 4 = .ok (.bipush 10, 2) := by decide +kernel
theorem dX7_isOpen_6 : decode cX7_isOpen 6 = .ok (.iload_n 1, 1) := by decide +kernel
theorem dX7_isOpen_7 : decode cX7_isOpen 7 = .ok (.imul, 1) := by decide +kernel
theorem dX7_isOpen_8 : decode cX7_isOpen 8 = .ok (.iload_n 2, 1) := by decide +kernel
theorem dX7_isOpen_9 : decode cX7_isOpen 9 = .ok (.iadd, 1) := by decide +kernel
theorem dX7_isOpen_10 : decode cX7_isOpen 10 = .ok (.iaload, 1) := by decide +kernel
theorem dX7_isOpen_11 : decode cX7_isOpen 11 = .ok (.ifCond .ne 7, 3) := by decide +kernel
theorem dX7_isOpen_14 : decode cX7_isOpen 14 = .ok (.iconst 1, 1) := by decide +kernel
theorem dX7_isOpen_15 : decode cX7_isOpen 15 = .ok (.goto 4, 3) := by decide +kernel
theorem dX7_isOpen_18 : decode cX7_isOpen 18 = .ok (.iconst 0, 1) := by decide +kernel
theorem dX7_isOpen_19 : decode cX7_isOpen 19 = .ok (.ireturn, 1) := by decide +kernel
theorem dX7_isRule_0 : decode cX7_isRule 0 = .ok (.iload_n 0, 1) := by decide +kernel
theorem dX7_isRule_1 : decode cX7_isRule 1 = .ok (.iconst 0, 1) := by decide +kernel
theorem dX7_isRule_2 : decode cX7_isRule 2 = .ok (.iconst 2, 1) := by decide +kernel
theorem dX7_isRule_3 : decode cX7_isRule 3 = .ok (.invokestatic 74, 3) := by decide +kernel
theorem dX7_isRule_6 : decode cX7_isRule 6 = .ok (.ireturn, 1) := by decide +kernel
theorem dX7_history_0 : decode cX7_history 0 = .ok (.iload_n 1, 1) := by decide +kernel
theorem dX7_history_1 : decode cX7_history 1 = .ok (.iconst 0, 1) := by decide +kernel
theorem dX7_history_2 : decode cX7_history 2 = .ok (.bipush 6, 2) := by decide +kernel
theorem dX7_history_4 : decode cX7_history 4 = .ok (.invokestatic 74, 3) := by decide +kernel
theorem dX7_history_7 : decode cX7_history 7 = .ok (.ifCond .eq 23, 3) := by decide +kernel
theorem dX7_history_10 : decode cX7_history 10 = .ok (.iload_n 1, 1) := by decide +kernel
theorem dX7_history_11 : decode cX7_history 11 = .ok (.bipush 6, 2) := by decide +kernel
theorem dX7_history_13 : decode cX7_history 13 = .ok (.if_icmp .ne 19, 3) := by decide +kernel
theorem dX7_history_16 : decode cX7_history 16 = .ok (.iload_n 2, 1) := by decide +kernel
theorem dX7_history_17 : decode cX7_history 17 = .ok (.iconst 0, 1) := by decide +kernel
theorem dX7_history_18 : decode cX7_history 18 = .ok (.aload_n 0, 1) := by decide +kernel
theorem dX7_history_19 : decode cX7_history 19 = .ok (.getfield 71, 3) := by decide +kernel
theorem dX7_history_22 : decode cX7_history 22 = .ok (.iconst 1, 1) := by decide +kernel
theorem dX7_history_23 : decode cX7_history 23 = .ok (.isub, 1) := by decide +kernel
theorem dX7_history_24 : decode cX7_history 24 = .ok (.invokestatic 74, 3) := by decide +kernel
theorem dX7_history_27 : decode cX7_history 27 = .ok (.ifCond .ne 5, 3) := by decide +kernel
theorem dX7_history_30 : decode cX7_history 30 = .ok (.iconst (-1), 1) := by decide +kernel
theorem dX7_history_31 : decode cX7_history 31 = .ok (.ireturn, 1) := by decide +kernel
theorem dX7_history_32 : decode cX7_history 32 = .ok (.iload_n 1, 1) := by decide +kernel
theorem dX7_history_33 : decode cX7_history 33 = .ok (.bipush 6, 2) := by decide +kernel
theorem dX7_history_35 : decode cX7_history 35 = .ok (.if_icmp .eq 10, 3) := by decide +kernel
theorem dX7_history_38 : decode cX7_history 38 = .ok (.iload_n 2, 1) := by decide +kernel
theorem dX7_history_39 : decode cX7_history 39 = .ok (.ifCond .eq 6, 3) := by decide +kernel
theorem dX7_history_42 : decode cX7_history 42 = .ok (.bipush (-2), 2) := by decide +kernel
theorem dX7_history_44 : decode cX7_history 44 = .ok (.ireturn, 1) := by decide +kernel
theorem dX7_history_45 : decode cX7_history 45 = .ok (.aload_n 0, 1) := by decide +kernel
theorem dX7_history_46 : decode cX7_history 46 = .ok (.getfield 78, 3) := by decide +kernel
theorem dX7_history_49 : decode cX7_history 49 = .ok (.bipush 12, 2) := by decide +kernel
theorem dX7_history_51 : decode cX7_history 51 = .ok (.if_icmp .ne 6, 3) := by decide +kernel
theorem dX7_history_54 : decode cX7_history 54 = .ok (.bipush (-4), 2) := by decide +kernel
theorem dX7_history_56 : decode cX7_history 56 = .ok (.ireturn, 1) := by decide +kernel
theorem dX7_history_57 : decode cX7_history 57 = .ok (.aload_n 0, 1) := by decide +kernel
theorem dX7_history_58 : decode cX7_history 58 = .ok (.getfield 16, 3) := by decide +kernel
theorem dX7_history_61 : decode cX7_history 61 = .ok (.aload_n 0, 1) := by decide +kernel
theorem dX7_history_62 : decode cX7_history 62 = .ok (.getfield 78, 3) := by decide +kernel
theorem dX7_history_65 : decode cX7_history 65 = .ok (.iload_n 1, 1) := by decide +kernel
theorem dX7_history_66 : decode cX7_history 66 = .ok (.iastore, 1) := by decide +kernel
theorem dX7_history_67 : decode cX7_history 67 = .ok (.aload_n 0, 1) := by decide +kernel
theorem dX7_history_68 : decode cX7_history 68 = .ok (.getfield 19, 3) := by decide +kernel
theorem dX7_history_71 : decode cX7_history 71 = .ok (.aload_n 0, 1) := by decide +kernel
theorem dX7_history_72 : decode cX7_history 72 = .ok (.getfield 78, 3) := by decide +kernel
theorem dX7_history_75 : decode cX7_history 75 = .ok (.iload_n 2, 1) := by decide +kernel
theorem dX7_history_76 : decode cX7_history 76 = .ok (.iastore, 1) := by decide +kernel
theorem dX7_history_77 : decode cX7_history 77 = .ok (.aload_n 0, 1) := by decide +kernel
theorem dX7_history_78 : decode cX7_history 78 = .ok (.getfield 22, 3) := by decide +kernel
theorem dX7_history_81 : decode cX7_history 81 = .ok (.aload_n 0, 1) := by decide +kernel
theorem dX7_history_82 : decode cX7_history 82 = .ok (.getfield 78, 3) := by decide +kernel
theorem dX7_history_85 : decode cX7_history 85 = .ok (.iconst 0, 1) := by decide +kernel
theorem dX7_history_86 : decode cX7_history 86 = .ok (.iastore, 1) := by decide +kernel
theorem dX7_history_87 : decode cX7_history 87 = .ok (.aload_n 0, 1) := by decide +kernel
theorem dX7_history_88 : decode cX7_history 88 = .ok (.getfield 25, 3) := by decide +kernel
theorem dX7_history_91 : decode cX7_history 91 = .ok (.aload_n 0, 1) := by decide +kernel
theorem dX7_history_92 : decode cX7_history 92 = .ok (.getfield 78, 3) := by decide +kernel
theorem dX7_history_95 : decode cX7_history 95 = .ok (.iconst 0, 1) := by decide +kernel
theorem dX7_history_96 : decode cX7_history 96 = .ok (.iastore, 1) := by decide +kernel
theorem dX7_history_97 : decode cX7_history 97 = .ok (.aload_n 0, 1) := by decide +kernel
theorem dX7_history_98 : decode cX7_history 98 = .ok (.dup, 1) := by decide +kernel
theorem dX7_history_99 : decode cX7_history 99 = .ok (.getfield 78, 3) := by decide +kernel
theorem dX7_history_102 : decode cX7_history 102 = .ok (.iconst 1, 1) := by decide +kernel
theorem dX7_history_103 : decode cX7_history 103 = .ok (.iadd, 1) := by decide +kernel
theorem dX7_history_104 : decode cX7_history 104 = .ok (.putfield 78, 3) := by decide +kernel
theorem dX7_history_107 : decode cX7_history 107 = .ok (.aload_n 0, 1) := by decide +kernel
theorem dX7_history_108 : decode cX7_history 108 = .ok (.getfield 78, 3) := by decide +kernel
theorem dX7_history_111 : decode cX7_history 111 = .ok (.iconst 1, 1) := by decide +kernel
theorem dX7_history_112 : decode cX7_history 112 = .ok (.isub, 1) := by decide +kernel
theorem dX7_history_113 : decode cX7_history 113 = .ok (.ireturn, 1) := by decide +kernel
theorem dX7_copy_0 : decode cX7_copy 0 = .ok (.aload_n 0, 1) := by decide +kernel
theorem dX7_copy_1 : decode cX7_copy 1 = .ok (.iload_n 1, 1) := by decide +kernel
theorem dX7_copy_2 : decode cX7_copy 2 = .ok (.invokevirtual 81, 3) := by decide +kernel
theorem dX7_copy_5 : decode cX7_copy 5 = .ok (.ifCond .ne 5, 3) := by decide +kernel
theorem dX7_copy_8 : decode cX7_copy 8 = .ok (.iconst (-1), 1) := by decide +kernel
theorem dX7_copy_9 : decode cX7_copy 9 = .ok (.ireturn, 1) := by decide +kernel
theorem dX7_copy_10 : decode cX7_copy 10 = .ok (.aload_n 0, 1) := by decide +kernel
theorem dX7_copy_11 : decode cX7_copy 11 = .ok (.getfield 78, 3) := by decide +kernel
theorem dX7_copy_14 : decode cX7_copy 14 = .ok (.bipush 12, 2) := by decide +kernel
theorem dX7_copy_16 : decode cX7_copy 16 = .ok (.if_icmp .ne 6, 3) := by decide +kernel
theorem dX7_copy_19 : decode cX7_copy 19 = .ok (.bipush (-4), 2) := by decide +kernel
theorem dX7_copy_21 : decode cX7_copy 21 = .ok (.ireturn, 1) := by decide +kernel
theorem dX7_copy_22 : decode cX7_copy 22 = .ok (.aload_n 0, 1) := by decide +kernel
theorem dX7_copy_23 : decode cX7_copy 23 = .ok (.getfield 78, 3) := by decide +kernel
theorem dX7_copy_26 : decode cX7_copy 26 = .ok (.istore_n 2, 1) := by decide +kernel
theorem dX7_copy_27 : decode cX7_copy 27 = .ok (.aload_n 0, 1) := by decide +kernel
theorem dX7_copy_28 : decode cX7_copy 28 = .ok (.getfield 16, 3) := by decide +kernel
theorem dX7_copy_31 : decode cX7_copy 31 = .ok (.iload_n 2, 1) := by decide +kernel
theorem dX7_copy_32 : decode cX7_copy 32 = .ok (.aload_n 0, 1) := by decide +kernel
theorem dX7_copy_33 : decode cX7_copy 33 = .ok (.getfield 16, 3) := by decide +kernel
theorem dX7_copy_36 : decode cX7_copy 36 = .ok (.iload_n 1, 1) := by decide +kernel
theorem dX7_copy_37 : decode cX7_copy 37 = .ok (.iaload, 1) := by decide +kernel
theorem dX7_copy_38 : decode cX7_copy 38 = .ok (.iastore, 1) := by decide +kernel
theorem dX7_copy_39 : decode cX7_copy 39 = .ok (.aload_n 0, 1) := by decide +kernel
theorem dX7_copy_40 : decode cX7_copy 40 = .ok (.getfield 19, 3) := by decide +kernel
theorem dX7_copy_43 : decode cX7_copy 43 = .ok (.iload_n 2, 1) := by decide +kernel
theorem dX7_copy_44 : decode cX7_copy 44 = .ok (.aload_n 0, 1) := by decide +kernel
theorem dX7_copy_45 : decode cX7_copy 45 = .ok (.getfield 19, 3) := by decide +kernel
theorem dX7_copy_48 : decode cX7_copy 48 = .ok (.iload_n 1, 1) := by decide +kernel
theorem dX7_copy_49 : decode cX7_copy 49 = .ok (.iaload, 1) := by decide +kernel
theorem dX7_copy_50 : decode cX7_copy 50 = .ok (.iastore, 1) := by decide +kernel
theorem dX7_copy_51 : decode cX7_copy 51 = .ok (.aload_n 0, 1) := by decide +kernel
theorem dX7_copy_52 : decode cX7_copy 52 = .ok (.getfield 22, 3) := by decide +kernel
theorem dX7_copy_55 : decode cX7_copy 55 = .ok (.iload_n 2, 1) := by decide +kernel
theorem dX7_copy_56 : decode cX7_copy 56 = .ok (.aload_n 0, 1) := by decide +kernel
theorem dX7_copy_57 : decode cX7_copy 57 = .ok (.getfield 22, 3) := by decide +kernel
theorem dX7_copy_60 : decode cX7_copy 60 = .ok (.iload_n 1, 1) := by decide +kernel
theorem dX7_copy_61 : decode cX7_copy 61 = .ok (.iaload, 1) := by decide +kernel
theorem dX7_copy_62 : decode cX7_copy 62 = .ok (.iastore, 1) := by decide +kernel
theorem dX7_copy_63 : decode cX7_copy 63 = .ok (.aload_n 0, 1) := by decide +kernel
theorem dX7_copy_64 : decode cX7_copy 64 = .ok (.getfield 25, 3) := by decide +kernel
theorem dX7_copy_67 : decode cX7_copy 67 = .ok (.iload_n 2, 1) := by decide +kernel
theorem dX7_copy_68 : decode cX7_copy 68 = .ok (.aload_n 0, 1) := by decide +kernel
theorem dX7_copy_69 : decode cX7_copy 69 = .ok (.getfield 25, 3) := by decide +kernel
theorem dX7_copy_72 : decode cX7_copy 72 = .ok (.iload_n 1, 1) := by decide +kernel
theorem dX7_copy_73 : decode cX7_copy 73 = .ok (.iaload, 1) := by decide +kernel
theorem dX7_copy_74 : decode cX7_copy 74 = .ok (.iastore, 1) := by decide +kernel
theorem dX7_copy_75 : decode cX7_copy 75 = .ok (.iconst 0, 1) := by decide +kernel
theorem dX7_copy_76 : decode cX7_copy 76 = .ok (.istore_n 3, 1) := by decide +kernel
theorem dX7_copy_77 : decode cX7_copy 77 = .ok (.iload_n 3, 1) := by decide +kernel
theorem dX7_copy_78 : decode cX7_copy 78 = .ok (.bipush 10, 2) := by decide +kernel
theorem dX7_copy_80 : decode cX7_copy 80 = .ok (.if_icmp .ge 163, 3) := by decide +kernel
theorem dX7_copy_83 : decode cX7_copy 83 = .ok (.aload_n 0, 1) := by decide +kernel
theorem dX7_copy_84 : decode cX7_copy 84 = .ok (.getfield 28, 3) := by decide +kernel
theorem dX7_copy_87 : decode cX7_copy 87 = .ok (.bipush 10, 2) := by decide +kernel
theorem dX7_copy_89 : decode cX7_copy 89 = .ok (.iload_n 2, 1) := by decide +kernel
theorem dX7_copy_90 : decode cX7_copy 90 = .ok (.imul, 1) := by decide +kernel
theorem dX7_copy_91 : decode cX7_copy 91 = .ok (.iload_n 3, 1) := by decide +kernel
theorem dX7_copy_92 : decode cX7_copy 92 = .ok (.iadd, 1) := by decide +kernel
theorem dX7_copy_93 : decode cX7_copy 93 = .ok (.aload_n 0, 1) := by decide +kernel
theorem dX7_copy_94 : decode cX7_copy 94 = .ok (.getfield 28, 3) := by decide +kernel
theorem dX7_copy_97 : decode cX7_copy 97 = .ok (.bipush 10, 2) := by decide +kernel
theorem dX7_copy_99 : decode cX7_copy 99 = .ok (.iload_n 1, 1) := by decide +kernel
theorem dX7_copy_100 : decode cX7_copy 100 = .ok (.imul, 1) := by decide +kernel
theorem dX7_copy_101 : decode cX7_copy 101 = .ok (.iload_n 3, 1) := by decide +kernel
theorem dX7_copy_102 : decode cX7_copy 102 = .ok (.iadd, 1) := by decide +kernel
theorem dX7_copy_103 : decode cX7_copy 103 = .ok (.iaload, 1) := by decide +kernel
theorem dX7_copy_104 : decode cX7_copy 104 = .ok (.iastore, 1) := by decide +kernel
theorem dX7_copy_105 : decode cX7_copy 105 = .ok (.aload_n 0, 1) := by decide +kernel
theorem dX7_copy_106 : decode cX7_copy 106 = .ok (.getfield 31, 3) := by decide +kernel
theorem dX7_copy_109 : decode cX7_copy 109 = .ok (.bipush 10, 2) := by decide +kernel
theorem dX7_copy_111 : decode cX7_copy 111 = .ok (.iload_n 2, 1) := by decide +kernel
theorem dX7_copy_112 : decode cX7_copy 112 = .ok (.imul, 1) := by decide +kernel
theorem dX7_copy_113 : decode cX7_copy 113 = .ok (.iload_n 3, 1) := by decide +kernel
theorem dX7_copy_114 : decode cX7_copy 114 = .ok (.iadd, 1) := by decide +kernel
theorem dX7_copy_115 : decode cX7_copy 115 = .ok (.aload_n 0, 1) := by decide +kernel
theorem dX7_copy_116 : decode cX7_copy 116 = .ok (.getfield 31, 3) := by decide +kernel
theorem dX7_copy_119 : decode cX7_copy 119 = .ok (.bipush 10, 2) := by decide +kernel
theorem dX7_copy_121 : decode cX7_copy 121 = .ok (.iload_n 1, 1) := by decide +kernel
theorem dX7_copy_122 : decode cX7_copy 122 = .ok (.imul, 1) := by decide +kernel
theorem dX7_copy_123 : decode cX7_copy 123 = .ok (.iload_n 3, 1) := by decide +kernel
theorem dX7_copy_124 : decode cX7_copy 124 = .ok (.iadd, 1) := by decide +kernel
theorem dX7_copy_125 : decode cX7_copy 125 = .ok (.iaload, 1) := by decide +kernel
theorem dX7_copy_126 : decode cX7_copy 126 = .ok (.iastore, 1) := by decide +kernel
theorem dX7_copy_127 : decode cX7_copy 127 = .ok (.aload_n 0, 1) := by decide +kernel
theorem dX7_copy_128 : decode cX7_copy 128 = .ok (.getfield 34, 3) := by decide +kernel
theorem dX7_copy_131 : decode cX7_copy 131 = .ok (.bipush 10, 2) := by decide +kernel
theorem dX7_copy_133 : decode cX7_copy 133 = .ok (.iload_n 2, 1) := by decide +kernel
theorem dX7_copy_134 : decode cX7_copy 134 = .ok (.imul, 1) := by decide +kernel
theorem dX7_copy_135 : decode cX7_copy 135 = .ok (.iload_n 3, 1) := by decide +kernel
theorem dX7_copy_136 : decode cX7_copy 136 = .ok (.iadd, 1) := by decide +kernel
theorem dX7_copy_137 : decode cX7_copy 137 = .ok (.aload_n 0, 1) := by decide +kernel
theorem dX7_copy_138 : decode cX7_copy 138 = .ok (.getfield 34, 3) := by decide +kernel
theorem dX7_copy_141 : decode cX7_copy 141 = .ok (.bipush 10, 2) := by decide +kernel
theorem dX7_copy_143 : decode cX7_copy 143 = .ok (.iload_n 1, 1) := by decide +kernel
theorem dX7_copy_144 : decode cX7_copy 144 = .ok (.imul, 1) := by decide +kernel
theorem dX7_copy_145 : decode cX7_copy 145 = .ok (.iload_n 3, 1) := by decide +kernel
theorem dX7_copy_146 : decode cX7_copy 146 = .ok (.iadd, 1) := by decide +kernel
theorem dX7_copy_147 : decode cX7_copy 147 = .ok (.iaload, 1) := by decide +kernel
theorem dX7_copy_148 : decode cX7_copy 148 = .ok (.iastore, 1) := by decide +kernel
theorem dX7_copy_149 : decode cX7_copy 149 = .ok (.aload_n 0, 1) := by decide +kernel
theorem dX7_copy_150 : decode cX7_copy 150 = .ok (.getfield 37, 3) := by decide +kernel
theorem dX7_copy_153 : decode cX7_copy 153 = .ok (.bipush 10, 2) := by decide +kernel
theorem dX7_copy_155 : decode cX7_copy 155 = .ok (.iload_n 2, 1) := by decide +kernel
theorem dX7_copy_156 : decode cX7_copy 156 = .ok (.imul, 1) := by decide +kernel
theorem dX7_copy_157 : decode cX7_copy 157 = .ok (.iload_n 3, 1) := by decide +kernel
theorem dX7_copy_158 : decode cX7_copy 158 = .ok (.iadd, 1) := by decide +kernel
theorem dX7_copy_159 : decode cX7_copy 159 = .ok (.aload_n 0, 1) := by decide +kernel
theorem dX7_copy_160 : decode cX7_copy 160 = .ok (.getfield 37, 3) := by decide +kernel
theorem dX7_copy_163 : decode cX7_copy 163 = .ok (.bipush 10, 2) := by decide +kernel
theorem dX7_copy_165 : decode cX7_copy 165 = .ok (.iload_n 1, 1) := by decide +kernel
theorem dX7_copy_166 : decode cX7_copy 166 = .ok (.imul, 1) := by decide +kernel
theorem dX7_copy_167 : decode cX7_copy 167 = .ok (.iload_n 3, 1) := by decide +kernel
theorem dX7_copy_168 : decode cX7_copy 168 = .ok (.iadd, 1) := by decide +kernel
theorem dX7_copy_169 : decode cX7_copy 169 = .ok (.iaload, 1) := by decide +kernel
theorem dX7_copy_170 : decode cX7_copy 170 = .ok (.iastore, 1) := by decide +kernel
theorem dX7_copy_171 : decode cX7_copy 171 = .ok (.aload_n 0, 1) := by decide +kernel
theorem dX7_copy_172 : decode cX7_copy 172 = .ok (.getfield 40, 3) := by decide +kernel
theorem dX7_copy_175 : decode cX7_copy 175 = .ok (.bipush 10, 2) := by decide +kernel
theorem dX7_copy_177 : decode cX7_copy 177 = .ok (.iload_n 2, 1) := by decide +kernel
theorem dX7_copy_178 : decode cX7_copy 178 = .ok (.imul, 1) := by decide +kernel
theorem dX7_copy_179 : decode cX7_copy 179 = .ok (.iload_n 3, 1) := by decide +kernel
theorem dX7_copy_180 : decode cX7_copy 180 = .ok (.iadd, 1) := by decide +kernel
theorem dX7_copy_181 : decode cX7_copy 181 = .ok (.aload_n 0, 1) := by decide +kernel
theorem dX7_copy_182 : decode cX7_copy 182 = .ok (.getfield 40, 3) := by decide +kernel
theorem dX7_copy_185 : decode cX7_copy 185 = .ok (.bipush 10, 2) := by decide +kernel
theorem dX7_copy_187 : decode cX7_copy 187 = .ok (.iload_n 1, 1) := by decide +kernel
theorem dX7_copy_188 : decode cX7_copy 188 = .ok (.imul, 1) := by decide +kernel
theorem dX7_copy_189 : decode cX7_copy 189 = .ok (.iload_n 3, 1) := by decide +kernel
theorem dX7_copy_190 : decode cX7_copy 190 = .ok (.iadd, 1) := by decide +kernel
theorem dX7_copy_191 : decode cX7_copy 191 = .ok (.iaload, 1) := by decide +kernel
theorem dX7_copy_192 : decode cX7_copy 192 = .ok (.iastore, 1) := by decide +kernel
theorem dX7_copy_193 : decode cX7_copy 193 = .ok (.aload_n 0, 1) := by decide +kernel
theorem dX7_copy_194 : decode cX7_copy 194 = .ok (.getfield 43, 3) := by decide +kernel
theorem dX7_copy_197 : decode cX7_copy 197 = .ok (.bipush 10, 2) := by decide +kernel
theorem dX7_copy_199 : decode cX7_copy 199 = .ok (.iload_n 2, 1) := by decide +kernel
theorem dX7_copy_200 : decode cX7_copy 200 = .ok (.imul, 1) := by decide +kernel
theorem dX7_copy_201 : decode cX7_copy 201 = .ok (.iload_n 3, 1) := by decide +kernel
theorem dX7_copy_202 : decode cX7_copy 202 = .ok (.iadd, 1) := by decide +kernel
theorem dX7_copy_203 : decode cX7_copy 203 = .ok (.aload_n 0, 1) := by decide +kernel
theorem dX7_copy_204 : decode cX7_copy 204 = .ok (.getfield 43, 3) := by decide +kernel
theorem dX7_copy_207 : decode cX7_copy 207 = .ok (.bipush 10, 2) := by decide +kernel
theorem dX7_copy_209 : decode cX7_copy 209 = .ok (.iload_n 1, 1) := by decide +kernel
theorem dX7_copy_210 : decode cX7_copy 210 = .ok (.imul, 1) := by decide +kernel
theorem dX7_copy_211 : decode cX7_copy 211 = .ok (.iload_n 3, 1) := by decide +kernel
theorem dX7_copy_212 : decode cX7_copy 212 = .ok (.iadd, 1) := by decide +kernel
theorem dX7_copy_213 : decode cX7_copy 213 = .ok (.iaload, 1) := by decide +kernel
theorem dX7_copy_214 : decode cX7_copy 214 = .ok (.iastore, 1) := by decide +kernel
theorem dX7_copy_215 : decode cX7_copy 215 = .ok (.aload_n 0, 1) := by decide +kernel
theorem dX7_copy_216 : decode cX7_copy 216 = .ok (.getfield 46, 3) := by decide +kernel
theorem dX7_copy_219 : decode cX7_copy 219 = .ok (.bipush 10, 2) := by decide +kernel
theorem dX7_copy_221 : decode cX7_copy 221 = .ok (.iload_n 2, 1) := by decide +kernel
theorem dX7_copy_222 : decode cX7_copy 222 = .ok (.imul, 1) := by decide +kernel
theorem dX7_copy_223 : decode cX7_copy 223 = .ok (.iload_n 3, 1) := by decide +kernel
theorem dX7_copy_224 : decode cX7_copy 224 = .ok (.iadd, 1) := by decide +kernel
theorem dX7_copy_225 : decode cX7_copy 225 = .ok (.aload_n 0, 1) := by decide +kernel
theorem dX7_copy_226 : decode cX7_copy 226 = .ok (.getfield 46, 3) := by decide +kernel
theorem dX7_copy_229 : decode cX7_copy 229 = .ok (.bipush 10, 2) := by decide +kernel
theorem dX7_copy_231 : decode cX7_copy 231 = .ok (.iload_n 1, 1) := by decide +kernel
theorem dX7_copy_232 : decode cX7_copy 232 = .ok (.imul, 1) := by decide +kernel
theorem dX7_copy_233 : decode cX7_copy 233 = .ok (.iload_n 3, 1) := by decide +kernel
theorem dX7_copy_234 : decode cX7_copy 234 = .ok (.iadd, 1) := by decide +kernel
theorem dX7_copy_235 : decode cX7_copy 235 = .ok (.iaload, 1) := by decide +kernel
theorem dX7_copy_236 : decode cX7_copy 236 = .ok (.iastore, 1) := by decide +kernel
theorem dX7_copy_237 : decode cX7_copy 237 = .ok (.iinc 3 1, 3) := by decide +kernel
theorem dX7_copy_240 : decode cX7_copy 240 = .ok (.goto (-163), 3) := by decide +kernel
theorem dX7_copy_243 : decode cX7_copy 243 = .ok (.aload_n 0, 1) := by decide +kernel
theorem dX7_copy_244 : decode cX7_copy 244 = .ok (.dup, 1) := by decide +kernel
theorem dX7_copy_245 : decode cX7_copy 245 = .ok (.getfield 78, 3) := by decide +kernel
theorem dX7_copy_248 : decode cX7_copy 248 = .ok (.iconst 1, 1) := by decide +kernel
theorem dX7_copy_249 : decode cX7_copy 249 = .ok (.iadd, 1) := by decide +kernel
theorem dX7_copy_250 : decode cX7_copy 250 = .ok (.putfield 78, 3) := by decide +kernel
theorem dX7_copy_253 : decode cX7_copy 253 = .ok (.iload_n 2, 1) := by decide +kernel
theorem dX7_copy_254 : decode cX7_copy 254 = .ok (.ireturn, 1) := by decide +kernel
theorem dX7_actsOf_0 : decode cX7_actsOf 0 = .ok (.iload_n 0, 1) := by decide +kernel
theorem dX7_actsOf_1 : decode cX7_actsOf 1 = .ok (.iconst 1, 1) := by decide +kernel
theorem dX7_actsOf_2 : decode cX7_actsOf 2 = .ok (.if_icmp .eq 13, 3) := by decide +kernel
theorem dX7_actsOf_5 : decode cX7_actsOf 5 = .ok (.iload_n 0, 1) := by decide +kernel
theorem dX7_actsOf_6 : decode cX7_actsOf 6 = .ok (.iconst 2, 1) := by decide +kernel
theorem dX7_actsOf_7 : decode cX7_actsOf 7 = .ok (.if_icmp .eq 8, 3) := by decide +kernel
theorem dX7_actsOf_10 : decode cX7_actsOf 10 = .ok (.iload_n 0, 1) := by decide +kernel
theorem dX7_actsOf_11 : decode cX7_actsOf 11 = .ok (.iconst 3, 1) := by decide +kernel
theorem dX7_actsOf_12 : decode cX7_actsOf 12 = .ok (.if_icmp .ne 7, 3) := by decide +kernel
theorem dX7_actsOf_15 : decode cX7_actsOf 15 = .ok (.iconst 2, 1) := by decide +kernel
theorem dX7_actsOf_16 : decode cX7_actsOf 16 = .ok (.goto 14, 3) := by decide +kernel
theorem dX7_actsOf_19 : decode cX7_actsOf 19 = .ok (.iload_n 0, 1) := by decide +kernel
theorem dX7_actsOf_20 : decode cX7_actsOf 20 = .ok (.bipush 6, 2) := by decide +kernel
theorem dX7_actsOf_22 : decode cX7_actsOf 22 = .ok (.if_icmp .ne 7, 3) := by decide +kernel
theorem dX7_actsOf_25 : decode cX7_actsOf 25 = .ok (.iconst 4, 1) := by decide +kernel
theorem dX7_actsOf_26 : decode cX7_actsOf 26 = .ok (.goto 4, 3) := by decide +kernel
theorem dX7_actsOf_29 : decode cX7_actsOf 29 = .ok (.iconst 3, 1) := by decide +kernel
theorem dX7_actsOf_30 : decode cX7_actsOf 30 = .ok (.ireturn, 1) := by decide +kernel
theorem dX7_begin_0 : decode cX7_begin 0 = .ok (.aload_n 0, 1) := by decide +kernel
theorem dX7_begin_1 : decode cX7_begin 1 = .ok (.iload_n 1, 1) := by decide +kernel
theorem dX7_begin_2 : decode cX7_begin 2 = .ok (.invokevirtual 81, 3) := by decide +kernel
theorem dX7_begin_5 : decode cX7_begin 5 = .ok (.ifCond .ne 5, 3) := by decide +kernel
theorem dX7_begin_8 : decode cX7_begin 8 = .ok (.iconst (-1), 1) := by decide +kernel
theorem dX7_begin_9 : decode cX7_begin 9 = .ok (.ireturn, 1) := by decide +kernel
theorem dX7_begin_10 : decode cX7_begin 10 = .ok (.aload_n 0, 1) := by decide +kernel
theorem dX7_begin_11 : decode cX7_begin 11 = .ok (.getfield 16, 3) := by decide +kernel
theorem dX7_begin_14 : decode cX7_begin 14 = .ok (.iload_n 1, 1) := by decide +kernel
theorem dX7_begin_15 : decode cX7_begin 15 = .ok (.iaload, 1) := by decide +kernel
theorem dX7_begin_16 : decode cX7_begin 16 = .ok (.istore 6, 2) := by decide +kernel
theorem dX7_begin_18 : decode cX7_begin 18 = .ok (.iload_n 2, 1) := by decide +kernel
theorem dX7_begin_19 : decode cX7_begin 19 = .ok (.iconst 0, 1) := by decide +kernel
theorem dX7_begin_20 : decode cX7_begin 20 = .ok (.iconst 3, 1) := by decide +kernel
theorem dX7_begin_21 : decode cX7_begin 21 = .ok (.invokestatic 74, 3) := by decide +kernel
theorem dX7_begin_24 : decode cX7_begin 24 = .ok (.ifCond .eq 51, 3) := by decide +kernel
theorem dX7_begin_27 : decode cX7_begin 27 = .ok (.iload_n 3, 1) := by decide +kernel
theorem dX7_begin_28 : decode cX7_begin 28 = .ok (.iconst 0, 1) := by decide +kernel
theorem dX7_begin_29 : decode cX7_begin 29 = .ok (.iload 6, 2) := by decide +kernel
theorem dX7_begin_31 : decode cX7_begin 31 = .ok (.invokestatic 85, 3) := by decide +kernel
theorem dX7_begin_34 : decode cX7_begin 34 = .ok (.iconst 1, 1) := by decide +kernel
theorem dX7_begin_35 : decode cX7_begin 35 = .ok (.isub, 1) := by decide +kernel
theorem dX7_begin_36 : decode cX7_begin 36 = .ok (.invokestatic 74, 3) := by decide +kernel
theorem dX7_begin_39 : decode cX7_begin 39 = .ok (.ifCond .eq 36, 3) := by decide +kernel
theorem dX7_begin_42 : decode cX7_begin 42 = .ok (.iload 6, 2) := by decide +kernel
theorem dX7_begin_44 : decode cX7_begin 44 = .ok (.iconst 4, 1) := by decide +kernel
theorem dX7_begin_45 : decode cX7_begin 45 = .ok (.if_icmp .ne 14, 3) := by decide +kernel
theorem dX7_begin_48 : decode cX7_begin 48 = .ok (.iload 4, 2) := by decide +kernel
theorem dX7_begin_50 : decode cX7_begin 50 = .ok (.iconst 0, 1) := by decide +kernel
theorem dX7_begin_51 : decode cX7_begin 51 = .ok (.bipush 15, 2) := by decide +kernel
theorem dX7_begin_53 : decode cX7_begin 53 = .ok (.invokestatic 74, 3) := by decide +kernel
theorem dX7_begin_56 : decode cX7_begin 56 = .ok (.ifCond .eq 19, 3) := by decide +kernel
theorem dX7_begin_59 : decode cX7_begin 59 = .ok (.iload 6, 2) := by decide +kernel
theorem dX7_begin_61 : decode cX7_begin 61 = .ok (.iconst 5, 1) := by decide +kernel
theorem dX7_begin_62 : decode cX7_begin 62 = .ok (.if_icmp .ne 16, 3) := by decide +kernel
theorem dX7_begin_65 : decode cX7_begin 65 = .ok (.iload 4, 2) := by decide +kernel
theorem dX7_begin_67 : decode cX7_begin 67 = .ok (.iconst 0, 1) := by decide +kernel
theorem dX7_begin_68 : decode cX7_begin 68 = .ok (.iconst 3, 1) := by decide +kernel
theorem dX7_begin_69 : decode cX7_begin 69 = .ok (.invokestatic 74, 3) := by decide +kernel
theorem dX7_begin_72 : decode cX7_begin 72 = .ok (.ifCond .ne 6, 3) := by decide +kernel
theorem dX7_begin_75 : decode cX7_begin 75 = .ok (.bipush (-2), 2) := by decide +kernel
theorem dX7_begin_77 : decode cX7_begin 77 = .ok (.ireturn, 1) := by decide +kernel
theorem dX7_begin_78 : decode cX7_begin 78 = .ok (.iconst 0, 1) := by decide +kernel
theorem dX7_begin_79 : decode cX7_begin 79 = .ok (.istore 7, 2) := by decide +kernel
theorem dX7_begin_81 : decode cX7_begin 81 = .ok (.iload 7, 2) := by decide +kernel
theorem dX7_begin_83 : decode cX7_begin 83 = .ok (.aload_n 0, 1) := by decide +kernel
theorem dX7_begin_84 : decode cX7_begin 84 = .ok (.getfield 22, 3) := by decide +kernel
theorem dX7_begin_87 : decode cX7_begin 87 = .ok (.iload_n 1, 1) := by decide +kernel
theorem dX7_begin_88 : decode cX7_begin 88 = .ok (.iaload, 1) := by decide +kernel
theorem dX7_begin_89 : decode cX7_begin 89 = .ok (.if_icmp .ge 38, 3) := by decide +kernel
theorem dX7_begin_92 : decode cX7_begin 92 = .ok (.aload_n 0, 1) := by decide +kernel
theorem dX7_begin_93 : decode cX7_begin 93 = .ok (.getfield 28, 3) := by decide +kernel
theorem dX7_begin_96 : decode cX7_begin 96 = .ok (.bipush 10, 2) := by decide +kernel
theorem dX7_begin_98 : decode cX7_begin 98 = .ok (.iload_n 1, 1) := by decide +kernel
theorem dX7_begin_99 : decode cX7_begin 99 = .ok (.imul, 1) := by decide +kernel
theorem dX7_begin_100 : decode cX7_begin 100 = .ok (.iload 7, 2) := by decide +kernel
theorem dX7_begin_102 : decode cX7_begin 102 = .ok (.iadd, 1) := by decide +kernel
theorem dX7_begin_103 : decode cX7_begin 103 = .ok (.iaload, 1) := by decide +kernel
theorem dX7_begin_104 : decode cX7_begin 104 = .ok (.iload_n 2, 1) := by decide +kernel
theorem dX7_begin_105 : decode cX7_begin 105 = .ok (.if_icmp .ne 16, 3) := by decide +kernel
theorem dX7_begin_108 : decode cX7_begin 108 = .ok (.aload_n 0, 1) := by decide +kernel
theorem dX7_begin_109 : decode cX7_begin 109 = .ok (.iload_n 1, 1) := by decide +kernel
theorem dX7_begin_110 : decode cX7_begin 110 = .ok (.iload 7, 2) := by decide +kernel
theorem dX7_begin_112 : decode cX7_begin 112 = .ok (.invokevirtual 89, 3) := by decide +kernel
theorem dX7_begin_115 : decode cX7_begin 115 = .ok (.ifCond .eq 6, 3) := by decide +kernel
theorem dX7_begin_118 : decode cX7_begin 118 = .ok (.bipush (-3), 2) := by decide +kernel
theorem dX7_begin_120 : decode cX7_begin 120 = .ok (.ireturn, 1) := by decide +kernel
theorem dX7_begin_121 : decode cX7_begin 121 = .ok (.iinc 7 1, 3) := by decide +kernel
theorem dX7_begin_124 : decode cX7_begin 124 = .ok (.goto (-43), 3) := by decide +kernel
theorem dX7_begin_127 : decode cX7_begin 127 = .ok (.aload_n 0, 1) := by decide +kernel
theorem dX7_begin_128 : decode cX7_begin 128 = .ok (.getfield 22, 3) := by decide +kernel
theorem dX7_begin_131 : decode cX7_begin 131 = .ok (.iload_n 1, 1) := by decide +kernel
theorem dX7_begin_132 : decode cX7_begin 132 = .ok (.iaload, 1) := by decide +kernel
theorem dX7_begin_133 : decode cX7_begin 133 = .ok (.bipush 10, 2) := by decide +kernel
theorem dX7_begin_135 : decode cX7_begin 135 = .ok (.if_icmp .ne 6, 3) := by decide +kernel
theorem dX7_begin_138 : decode cX7_begin 138 = .ok (.bipush (-4), 2) := by decide +kernel
theorem dX7_begin_140 : decode cX7_begin 140 = .ok (.ireturn, 1) := by decide +kernel
theorem dX7_begin_141 : decode cX7_begin 141 = .ok (.bipush 10, 2) := by decide +kernel
theorem dX7_begin_143 : decode cX7_begin 143 = .ok (.iload_n 1, 1) := by decide +kernel
theorem dX7_begin_144 : decode cX7_begin 144 = .ok (.imul, 1) := by decide +kernel
theorem dX7_begin_145 : decode cX7_begin 145 = .ok (.aload_n 0, 1) := by decide +kernel
theorem dX7_begin_146 : decode cX7_begin 146 = .ok (.getfield 22, 3) := by decide +kernel
theorem dX7_begin_149 : decode cX7_begin 149 = .ok (.iload_n 1, 1) := by decide +kernel
theorem dX7_begin_150 : decode cX7_begin 150 = .ok (.iaload, 1) := by decide +kernel
theorem dX7_begin_151 : decode cX7_begin 151 = .ok (.iadd, 1) := by decide +kernel
theorem dX7_begin_152 : decode cX7_begin 152 = .ok (.istore 7, 2) := by decide +kernel
theorem dX7_begin_154 : decode cX7_begin 154 = .ok (.aload_n 0, 1) := by decide +kernel
theorem dX7_begin_155 : decode cX7_begin 155 = .ok (.getfield 25, 3) := by decide +kernel
theorem dX7_begin_158 : decode cX7_begin 158 = .ok (.iload_n 1, 1) := by decide +kernel
theorem dX7_begin_159 : decode cX7_begin 159 = .ok (.dup2, 1) := by decide +kernel
theorem dX7_begin_160 : decode cX7_begin 160 = .ok (.iaload, 1) := by decide +kernel
theorem dX7_begin_161 : decode cX7_begin 161 = .ok (.iconst 1, 1) := by decide +kernel
theorem dX7_begin_162 : decode cX7_begin 162 = .ok (.iadd, 1) := by decide +kernel
theorem dX7_begin_163 : decode cX7_begin 163 = .ok (.iastore, 1) := by decide +kernel
theorem dX7_begin_164 : decode cX7_begin 164 = .ok (.aload_n 0, 1) := by decide +kernel
theorem dX7_begin_165 : decode cX7_begin 165 = .ok (.getfield 28, 3) := by decide +kernel
theorem dX7_begin_168 : decode cX7_begin 168 = .ok (.iload 7, 2) := by decide +kernel
theorem dX7_begin_170 : decode cX7_begin 170 = .ok (.iload_n 2, 1) := by decide +kernel
theorem dX7_begin_171 : decode cX7_begin 171 = .ok (.iastore, 1) := by decide +kernel
theorem dX7_begin_172 : decode cX7_begin 172 = .ok (.aload_n 0, 1) := by decide +kernel
theorem dX7_begin_173 : decode cX7_begin 173 = .ok (.getfield 31, 3) := by decide +kernel
theorem dX7_begin_176 : decode cX7_begin 176 = .ok (.iload 7, 2) := by decide +kernel
theorem dX7_begin_178 : decode cX7_begin 178 = .ok (.iload_n 3, 1) := by decide +kernel
theorem dX7_begin_179 : decode cX7_begin 179 = .ok (.iastore, 1) := by decide +kernel
theorem dX7_begin_180 : decode cX7_begin 180 = .ok (.aload_n 0, 1) := by decide +kernel
theorem dX7_begin_181 : decode cX7_begin 181 = .ok (.getfield 34, 3) := by decide +kernel
theorem dX7_begin_184 : decode cX7_begin 184 = .ok (.iload 7, 2) := by decide +kernel
theorem dX7_begin_186 : decode cX7_begin 186 = .ok (.iload 4, 2) := by decide +kernel
theorem dX7_begin_188 : decode cX7_begin 188 = .ok (.iastore, 1) := by decide +kernel
theorem dX7_begin_189 : decode cX7_begin 189 = .ok (.aload_n 0, 1) := by decide +kernel
theorem dX7_begin_190 : decode cX7_begin 190 = .ok (.getfield 37, 3) := by decide +kernel
theorem dX7_begin_193 : decode cX7_begin 193 = .ok (.iload 7, 2) := by decide +kernel
theorem dX7_begin_195 : decode cX7_begin 195 = .ok (.iload 5, 2) := by decide +kernel
theorem dX7_begin_197 : decode cX7_begin 197 = .ok (.iastore, 1) := by decide +kernel
theorem dX7_begin_198 : decode cX7_begin 198 = .ok (.aload_n 0, 1) := by decide +kernel
theorem dX7_begin_199 : decode cX7_begin 199 = .ok (.getfield 40, 3) := by decide +kernel
theorem dX7_begin_202 : decode cX7_begin 202 = .ok (.iload 7, 2) := by decide +kernel
theorem dX7_begin_204 : decode cX7_begin 204 = .ok (.aload_n 0, 1) := by decide +kernel
theorem dX7_begin_205 : decode cX7_begin 205 = .ok (.getfield 25, 3) := by decide +kernel
theorem dX7_begin_208 : decode cX7_begin 208 = .ok (.iload_n 1, 1) := by decide +kernel
theorem dX7_begin_209 : decode cX7_begin 209 = .ok (.iaload, 1) := by decide +kernel
theorem dX7_begin_210 : decode cX7_begin 210 = .ok (.iastore, 1) := by decide +kernel
theorem dX7_begin_211 : decode cX7_begin 211 = .ok (.aload_n 0, 1) := by decide +kernel
theorem dX7_begin_212 : decode cX7_begin 212 = .ok (.getfield 43, 3) := by decide +kernel
theorem dX7_begin_215 : decode cX7_begin 215 = .ok (.iload 7, 2) := by decide +kernel
theorem dX7_begin_217 : decode cX7_begin 217 = .ok (.iconst 0, 1) := by decide +kernel
theorem dX7_begin_218 : decode cX7_begin 218 = .ok (.iastore, 1) := by decide +kernel
theorem dX7_begin_219 : decode cX7_begin 219 = .ok (.aload_n 0, 1) := by decide +kernel
theorem dX7_begin_220 : decode cX7_begin 220 = .ok (.getfield 46, 3) := by decide +kernel
theorem dX7_begin_223 : decode cX7_begin 223 = .ok (.iload 7, 2) := by decide +kernel
theorem dX7_begin_225 : decode cX7_begin 225 = .ok (.iconst 0, 1) := by decide +kernel
theorem dX7_begin_226 : decode cX7_begin 226 = .ok (.iastore, 1) := by decide +kernel
theorem dX7_begin_227 : decode cX7_begin 227 = .ok (.aload_n 0, 1) := by decide +kernel
theorem dX7_begin_228 : decode cX7_begin 228 = .ok (.getfield 22, 3) := by decide +kernel
theorem dX7_begin_231 : decode cX7_begin 231 = .ok (.iload_n 1, 1) := by decide +kernel
theorem dX7_begin_232 : decode cX7_begin 232 = .ok (.dup2, 1) := by decide +kernel
theorem dX7_begin_233 : decode cX7_begin 233 = .ok (.iaload, 1) := by decide +kernel
theorem dX7_begin_234 : decode cX7_begin 234 = .ok (.iconst 1, 1) := by decide +kernel
theorem dX7_begin_235 : decode cX7_begin 235 = .ok (.iadd, 1) := by decide +kernel
theorem dX7_begin_236 : decode cX7_begin 236 = .ok (.iastore, 1) := by decide +kernel
theorem dX7_begin_237 : decode cX7_begin 237 = .ok (.aload_n 0, 1) := by decide +kernel
theorem dX7_begin_238 : decode cX7_begin 238 = .ok (.getfield 22, 3) := by decide +kernel
theorem dX7_begin_241 : decode cX7_begin 241 = .ok (.iload_n 1, 1) := by decide +kernel
theorem dX7_begin_242 : decode cX7_begin 242 = .ok (.iaload, 1) := by decide +kernel
theorem dX7_begin_243 : decode cX7_begin 243 = .ok (.iconst 1, 1) := by decide +kernel
theorem dX7_begin_244 : decode cX7_begin 244 = .ok (.isub, 1) := by decide +kernel
theorem dX7_begin_245 : decode cX7_begin 245 = .ok (.ireturn, 1) := by decide +kernel
theorem dX7_answer_0 : decode cX7_answer 0 = .ok (.aload_n 0, 1) := by decide +kernel
theorem dX7_answer_1 : decode cX7_answer 1 = .ok (.iload_n 1, 1) := by decide +kernel
theorem dX7_answer_2 : decode cX7_answer 2 = .ok (.iload_n 2, 1) := by decide +kernel
theorem dX7_answer_3 : decode cX7_answer 3 = .ok (.invokevirtual 93, 3) := by decide +kernel
theorem dX7_answer_6 : decode cX7_answer 6 = .ok (.ifCond .ne 5, 3) := by decide +kernel
theorem dX7_answer_9 : decode cX7_answer 9 = .ok (.iconst (-1), 1) := by decide +kernel
theorem dX7_answer_10 : decode cX7_answer 10 = .ok (.ireturn, 1) := by decide +kernel
theorem dX7_answer_11 : decode cX7_answer 11 = .ok (.aload_n 0, 1) := by decide +kernel
theorem dX7_answer_12 : decode cX7_answer 12 = .ok (.iload_n 1, 1) := by decide +kernel
theorem dX7_answer_13 : decode cX7_answer 13 = .ok (.iload_n 2, 1) := by decide +kernel
theorem dX7_answer_14 : decode cX7_answer 14 = .ok (.invokevirtual 89, 3) := by decide +kernel
theorem dX7_answer_17 : decode cX7_answer 17 = .ok (.ifCond .ne 6, 3) := by decide +kernel
theorem dX7_answer_20 : decode cX7_answer 20 = .ok (.bipush (-3), 2) := by decide +kernel
theorem dX7_answer_22 : decode cX7_answer 22 = .ok (.ireturn, 1) := by decide +kernel
theorem dX7_answer_23 : decode cX7_answer 23 = .ok (.aload_n 0, 1) := by decide +kernel
theorem dX7_answer_24 : decode cX7_answer 24 = .ok (.getfield 25, 3) := by decide +kernel
theorem dX7_answer_27 : decode cX7_answer 27 = .ok (.iload_n 1, 1) := by decide +kernel
theorem dX7_answer_28 : decode cX7_answer 28 = .ok (.dup2, 1) := by decide +kernel
theorem dX7_answer_29 : decode cX7_answer 29 = .ok (.iaload, 1) := by decide +kernel
theorem dX7_answer_30 : decode cX7_answer 30 = .ok (.iconst 1, 1) := by decide +kernel
theorem dX7_answer_31 : decode cX7_answer 31 = .ok (.iadd, 1) := by decide +kernel
theorem dX7_answer_32 : decode cX7_answer 32 = .ok (.iastore, 1) := by decide +kernel
theorem dX7_answer_33 : decode cX7_answer 33 = .ok (.aload_n 0, 1) := by decide +kernel
theorem dX7_answer_34 : decode cX7_answer 34 = .ok (.getfield 43, 3) := by decide +kernel
theorem dX7_answer_37 : decode cX7_answer 37 = .ok (.bipush 10, 2) := by decide +kernel
theorem dX7_answer_39 : decode cX7_answer 39 = .ok (.iload_n 1, 1) := by decide +kernel
theorem dX7_answer_40 : decode cX7_answer 40 = .ok (.imul, 1) := by decide +kernel
theorem dX7_answer_41 : decode cX7_answer 41 = .ok (.iload_n 2, 1) := by decide +kernel
theorem dX7_answer_42 : decode cX7_answer 42 = .ok (.iadd, 1) := by decide +kernel
theorem dX7_answer_43 : decode cX7_answer 43 = .ok (.aload_n 0, 1) := by decide +kernel
theorem dX7_answer_44 : decode cX7_answer 44 = .ok (.getfield 25, 3) := by decide +kernel
theorem dX7_answer_47 : decode cX7_answer 47 = .ok (.iload_n 1, 1) := by decide +kernel
theorem dX7_answer_48 : decode cX7_answer 48 = .ok (.iaload, 1) := by decide +kernel
theorem dX7_answer_49 : decode cX7_answer 49 = .ok (.iastore, 1) := by decide +kernel
theorem dX7_answer_50 : decode cX7_answer 50 = .ok (.aload_n 0, 1) := by decide +kernel
theorem dX7_answer_51 : decode cX7_answer 51 = .ok (.getfield 46, 3) := by decide +kernel
theorem dX7_answer_54 : decode cX7_answer 54 = .ok (.bipush 10, 2) := by decide +kernel
theorem dX7_answer_56 : decode cX7_answer 56 = .ok (.iload_n 1, 1) := by decide +kernel
theorem dX7_answer_57 : decode cX7_answer 57 = .ok (.imul, 1) := by decide +kernel
theorem dX7_answer_58 : decode cX7_answer 58 = .ok (.iload_n 2, 1) := by decide +kernel
theorem dX7_answer_59 : decode cX7_answer 59 = .ok (.iadd, 1) := by decide +kernel
theorem dX7_answer_60 : decode cX7_answer 60 = .ok (.iload_n 3, 1) := by decide +kernel
theorem dX7_answer_61 : decode cX7_answer 61 = .ok (.iastore, 1) := by decide +kernel
theorem dX7_answer_62 : decode cX7_answer 62 = .ok (.aload_n 0, 1) := by decide +kernel
theorem dX7_answer_63 : decode cX7_answer 63 = .ok (.getfield 25, 3) := by decide +kernel
theorem dX7_answer_66 : decode cX7_answer 66 = .ok (.iload_n 1, 1) := by decide +kernel
theorem dX7_answer_67 : decode cX7_answer 67 = .ok (.iaload, 1) := by decide +kernel
theorem dX7_answer_68 : decode cX7_answer 68 = .ok (.ireturn, 1) := by decide +kernel
theorem dX7_alter_0 : decode cX7_alter 0 = .ok (.aload_n 0, 1) := by decide +kernel
theorem dX7_alter_1 : decode cX7_alter 1 = .ok (.aload_n 0, 1) := by decide +kernel
theorem dX7_alter_2 : decode cX7_alter 2 = .ok (.iload_n 1, 1) := by decide +kernel
theorem dX7_alter_3 : decode cX7_alter 3 = .ok (.iload_n 2, 1) := by decide +kernel
theorem dX7_alter_4 : decode cX7_alter 4 = .ok (.invokevirtual 93, 3) := by decide +kernel
theorem dX7_alter_7 : decode cX7_alter 7 = .ok (.ifCond .ne 7, 3) := by decide +kernel
theorem dX7_alter_10 : decode cX7_alter 10 = .ok (.iconst (-1), 1) := by decide +kernel
theorem dX7_alter_11 : decode cX7_alter 11 = .ok (.goto 18, 3) := by decide +kernel
theorem dX7_alter_14 : decode cX7_alter 14 = .ok (.aload_n 0, 1) := by decide +kernel
theorem dX7_alter_15 : decode cX7_alter 15 = .ok (.iload_n 1, 1) := by decide +kernel
theorem dX7_alter_16 : decode cX7_alter 16 = .ok (.iload_n 2, 1) := by decide +kernel
theorem dX7_alter_17 : decode cX7_alter 17 = .ok (.invokevirtual 89, 3) := by decide +kernel
theorem dX7_alter_20 : decode cX7_alter 20 = .ok (.ifCond .eq 8, 3) := by decide +kernel
theorem dX7_alter_23 : decode cX7_alter 23 = .ok (.bipush (-3), 2) := by decide +kernel
theorem dX7_alter_25 : decode cX7_alter 25 = .ok (.goto 4, 3) := by decide +kernel
theorem dX7_alter_28 : decode cX7_alter 28 = .ok (.iconst 0, 1) := by decide +kernel
theorem dX7_alter_29 : decode cX7_alter 29 = .ok (.putfield 96, 3) := by decide +kernel
theorem dX7_alter_32 : decode cX7_alter 32 = .ok (.aload_n 0, 1) := by decide +kernel
theorem dX7_alter_33 : decode cX7_alter 33 = .ok (.getfield 96, 3) := by decide +kernel
theorem dX7_alter_36 : decode cX7_alter 36 = .ok (.ifCond .eq 5, 3) := by decide +kernel
theorem dX7_alter_39 : decode cX7_alter 39 = .ok (.iconst 0, 1) := by decide +kernel
theorem dX7_alter_40 : decode cX7_alter 40 = .ok (.ireturn, 1) := by decide +kernel
theorem dX7_alter_41 : decode cX7_alter 41 = .ok (.aload_n 0, 1) := by decide +kernel
theorem dX7_alter_42 : decode cX7_alter 42 = .ok (.getfield 46, 3) := by decide +kernel
theorem dX7_alter_45 : decode cX7_alter 45 = .ok (.bipush 10, 2) := by decide +kernel
theorem dX7_alter_47 : decode cX7_alter 47 = .ok (.iload_n 1, 1) := by decide +kernel
theorem dX7_alter_48 : decode cX7_alter 48 = .ok (.imul, 1) := by decide +kernel
theorem dX7_alter_49 : decode cX7_alter 49 = .ok (.iload_n 2, 1) := by decide +kernel
theorem dX7_alter_50 : decode cX7_alter 50 = .ok (.iadd, 1) := by decide +kernel
theorem dX7_alter_51 : decode cX7_alter 51 = .ok (.iaload, 1) := by decide +kernel
theorem dX7_alter_52 : decode cX7_alter 52 = .ok (.istore 4, 2) := by decide +kernel
theorem dX7_alter_54 : decode cX7_alter 54 = .ok (.aload_n 0, 1) := by decide +kernel
theorem dX7_alter_55 : decode cX7_alter 55 = .ok (.getfield 46, 3) := by decide +kernel
theorem dX7_alter_58 : decode cX7_alter 58 = .ok (.bipush 10, 2) := by decide +kernel
theorem dX7_alter_60 : decode cX7_alter 60 = .ok (.iload_n 1, 1) := by decide +kernel
theorem dX7_alter_61 : decode cX7_alter 61 = .ok (.imul, 1) := by decide +kernel
theorem dX7_alter_62 : decode cX7_alter 62 = .ok (.iload_n 2, 1) := by decide +kernel
theorem dX7_alter_63 : decode cX7_alter 63 = .ok (.iadd, 1) := by decide +kernel
theorem dX7_alter_64 : decode cX7_alter 64 = .ok (.iload_n 3, 1) := by decide +kernel
theorem dX7_alter_65 : decode cX7_alter 65 = .ok (.iastore, 1) := by decide +kernel
theorem dX7_alter_66 : decode cX7_alter 66 = .ok (.iload 4, 2) := by decide +kernel
theorem dX7_alter_68 : decode cX7_alter 68 = .ok (.ireturn, 1) := by decide +kernel
theorem dX7_status_0 : decode cX7_status 0 = .ok (.aload_n 0, 1) := by decide +kernel
theorem dX7_status_1 : decode cX7_status 1 = .ok (.getfield 96, 3) := by decide +kernel
theorem dX7_status_4 : decode cX7_status 4 = .ok (.ireturn, 1) := by decide +kernel
theorem dX7_answered_0 : decode cX7_answered 0 = .ok (.aload_n 0, 1) := by decide +kernel
theorem dX7_answered_1 : decode cX7_answered 1 = .ok (.aload_n 0, 1) := by decide +kernel
theorem dX7_answered_2 : decode cX7_answered 2 = .ok (.iload_n 1, 1) := by decide +kernel
theorem dX7_answered_3 : decode cX7_answered 3 = .ok (.iload_n 2, 1) := by decide +kernel
theorem dX7_answered_4 : decode cX7_answered 4 = .ok (.invokevirtual 93, 3) := by decide +kernel
theorem dX7_answered_7 : decode cX7_answered 7 = .ok (.ifCond .ne 7, 3) := by decide +kernel
theorem dX7_answered_10 : decode cX7_answered 10 = .ok (.iconst (-1), 1) := by decide +kernel
theorem dX7_answered_11 : decode cX7_answered 11 = .ok (.goto 18, 3) := by decide +kernel
theorem dX7_answered_14 : decode cX7_answered 14 = .ok (.aload_n 0, 1) := by decide +kernel
theorem dX7_answered_15 : decode cX7_answered 15 = .ok (.iload_n 1, 1) := by decide +kernel
theorem dX7_answered_16 : decode cX7_answered 16 = .ok (.iload_n 2, 1) := by decide +kernel
theorem dX7_answered_17 : decode cX7_answered 17 = .ok (.invokevirtual 89, 3) := by decide +kernel
theorem dX7_answered_20 : decode cX7_answered 20 = .ok (.ifCond .eq 8, 3) := by decide +kernel
theorem dX7_answered_23 : decode cX7_answered 23 = .ok (.bipush (-3), 2) := by decide +kernel
theorem dX7_answered_25 : decode cX7_answered 25 = .ok (.goto 4, 3) := by decide +kernel
theorem dX7_answered_28 : decode cX7_answered 28 = .ok (.iconst 0, 1) := by decide +kernel
theorem dX7_answered_29 : decode cX7_answered 29 = .ok (.putfield 96, 3) := by decide +kernel
theorem dX7_answered_32 : decode cX7_answered 32 = .ok (.aload_n 0, 1) := by decide +kernel
theorem dX7_answered_33 : decode cX7_answered 33 = .ok (.getfield 96, 3) := by decide +kernel
theorem dX7_answered_36 : decode cX7_answered 36 = .ok (.ifCond .eq 7, 3) := by decide +kernel
theorem dX7_answered_39 : decode cX7_answered 39 = .ok (.iconst 0, 1) := by decide +kernel
theorem dX7_answered_40 : decode cX7_answered 40 = .ok (.goto 14, 3) := by decide +kernel
theorem dX7_answered_43 : decode cX7_answered 43 = .ok (.aload_n 0, 1) := by decide +kernel
theorem dX7_answered_44 : decode cX7_answered 44 = .ok (.getfield 46, 3) := by decide +kernel
theorem dX7_answered_47 : decode cX7_answered 47 = .ok (.bipush 10, 2) := by decide +kernel
theorem dX7_answered_49 : decode cX7_answered 49 = .ok (.iload_n 1, 1) := by decide +kernel
theorem dX7_answered_50 : decode cX7_answered 50 = .ok (.imul, 1) := by decide +kernel
theorem dX7_answered_51 : decode cX7_answered 51 = .ok (.iload_n 2, 1) := by decide +kernel
theorem dX7_answered_52 : decode cX7_answered 52 = .ok (.iadd, 1) := by decide +kernel
theorem dX7_answered_53 : decode cX7_answered 53 = .ok (.iaload, 1) := by decide +kernel
theorem dX7_answered_54 : decode cX7_answered 54 = .ok (.ireturn, 1) := by decide +kernel
theorem dX7_call_0 : decode cX7_call 0 = .ok (.aload_n 0, 1) := by decide +kernel
theorem dX7_call_1 : decode cX7_call 1 = .ok (.iload_n 1, 1) := by decide +kernel
theorem dX7_call_2 : decode cX7_call 2 = .ok (.iload_n 2, 1) := by decide +kernel
theorem dX7_call_3 : decode cX7_call 3 = .ok (.invokevirtual 93, 3) := by decide +kernel
theorem dX7_call_6 : decode cX7_call 6 = .ok (.ifCond .ne 5, 3) := by decide +kernel
theorem dX7_call_9 : decode cX7_call 9 = .ok (.iconst (-1), 1) := by decide +kernel
theorem dX7_call_10 : decode cX7_call 10 = .ok (.ireturn, 1) := by decide +kernel
theorem dX7_call_11 : decode cX7_call 11 = .ok (.iload_n 3, 1) := by decide +kernel
theorem dX7_call_12 : decode cX7_call 12 = .ok (.tableswitch 80 0 3 #[32, 44, 56, 68], 32) := by decide +kernel
theorem dX7_call_44 : decode cX7_call 44 = .ok (.aload_n 0, 1) := by decide +kernel
theorem dX7_call_45 : decode cX7_call 45 = .ok (.getfield 28, 3) := by decide +kernel
theorem dX7_call_48 : decode cX7_call 48 = .ok (.bipush 10, 2) := by decide +kernel
theorem dX7_call_50 : decode cX7_call 50 = .ok (.iload_n 1, 1) := by decide +kernel
theorem dX7_call_51 : decode cX7_call 51 = .ok (.imul, 1) := by decide +kernel
theorem dX7_call_52 : decode cX7_call 52 = .ok (.iload_n 2, 1) := by decide +kernel
theorem dX7_call_53 : decode cX7_call 53 = .ok (.iadd, 1) := by decide +kernel
theorem dX7_call_54 : decode cX7_call 54 = .ok (.iaload, 1) := by decide +kernel
theorem dX7_call_55 : decode cX7_call 55 = .ok (.ireturn, 1) := by decide +kernel
theorem dX7_call_56 : decode cX7_call 56 = .ok (.aload_n 0, 1) := by decide +kernel
theorem dX7_call_57 : decode cX7_call 57 = .ok (.getfield 31, 3) := by decide +kernel
theorem dX7_call_60 : decode cX7_call 60 = .ok (.bipush 10, 2) := by decide +kernel
theorem dX7_call_62 : decode cX7_call 62 = .ok (.iload_n 1, 1) := by decide +kernel
theorem dX7_call_63 : decode cX7_call 63 = .ok (.imul, 1) := by decide +kernel
theorem dX7_call_64 : decode cX7_call 64 = .ok (.iload_n 2, 1) := by decide +kernel
theorem dX7_call_65 : decode cX7_call 65 = .ok (.iadd, 1) := by decide +kernel
theorem dX7_call_66 : decode cX7_call 66 = .ok (.iaload, 1) := by decide +kernel
theorem dX7_call_67 : decode cX7_call 67 = .ok (.ireturn, 1) := by decide +kernel
theorem dX7_call_68 : decode cX7_call 68 = .ok (.aload_n 0, 1) := by decide +kernel
theorem dX7_call_69 : decode cX7_call 69 = .ok (.getfield 40, 3) := by decide +kernel
theorem dX7_call_72 : decode cX7_call 72 = .ok (.bipush 10, 2) := by decide +kernel
theorem dX7_call_74 : decode cX7_call 74 = .ok (.iload_n 1, 1) := by decide +kernel
theorem dX7_call_75 : decode cX7_call 75 = .ok (.imul, 1) := by decide +kernel
theorem dX7_call_76 : decode cX7_call 76 = .ok (.iload_n 2, 1) := by decide +kernel
theorem dX7_call_77 : decode cX7_call 77 = .ok (.iadd, 1) := by decide +kernel
theorem dX7_call_78 : decode cX7_call 78 = .ok (.iaload, 1) := by decide +kernel
theorem dX7_call_79 : decode cX7_call 79 = .ok (.ireturn, 1) := by decide +kernel
theorem dX7_call_80 : decode cX7_call 80 = .ok (.aload_n 0, 1) := by decide +kernel
theorem dX7_call_81 : decode cX7_call 81 = .ok (.getfield 43, 3) := by decide +kernel
theorem dX7_call_84 : decode cX7_call 84 = .ok (.bipush 10, 2) := by decide +kernel
theorem dX7_call_86 : decode cX7_call 86 = .ok (.iload_n 1, 1) := by decide +kernel
theorem dX7_call_87 : decode cX7_call 87 = .ok (.imul, 1) := by decide +kernel
theorem dX7_call_88 : decode cX7_call 88 = .ok (.iload_n 2, 1) := by decide +kernel
theorem dX7_call_89 : decode cX7_call 89 = .ok (.iadd, 1) := by decide +kernel
theorem dX7_call_90 : decode cX7_call 90 = .ok (.iaload, 1) := by decide +kernel
theorem dX7_call_91 : decode cX7_call 91 = .ok (.ireturn, 1) := by decide +kernel
theorem dX7_call_92 : decode cX7_call 92 = .ok (.iconst (-1), 1) := by decide +kernel
theorem dX7_call_93 : decode cX7_call 93 = .ok (.ireturn, 1) := by decide +kernel
theorem dX7_about_0 : decode cX7_about 0 = .ok (.aload_n 0, 1) := by decide +kernel
theorem dX7_about_1 : decode cX7_about 1 = .ok (.iload_n 1, 1) := by decide +kernel
theorem dX7_about_2 : decode cX7_about 2 = .ok (.invokevirtual 81, 3) := by decide +kernel
theorem dX7_about_5 : decode cX7_about 5 = .ok (.ifCond .ne 5, 3) := by decide +kernel
theorem dX7_about_8 : decode cX7_about 8 = .ok (.iconst (-1), 1) := by decide +kernel
theorem dX7_about_9 : decode cX7_about 9 = .ok (.ireturn, 1) := by decide +kernel
theorem dX7_about_10 : decode cX7_about 10 = .ok (.iconst 0, 1) := by decide +kernel
theorem dX7_about_11 : decode cX7_about 11 = .ok (.istore_n 3, 1) := by decide +kernel
theorem dX7_about_12 : decode cX7_about 12 = .ok (.iload_n 2, 1) := by decide +kernel
theorem dX7_about_13 : decode cX7_about 13 = .ok (.tableswitch 92 0 3 #[31, 38, 45, 85], 31) := by decide +kernel
theorem dX7_about_44 : decode cX7_about 44 = .ok (.aload_n 0, 1) := by decide +kernel
theorem dX7_about_45 : decode cX7_about 45 = .ok (.getfield 16, 3) := by decide +kernel
theorem dX7_about_48 : decode cX7_about 48 = .ok (.iload_n 1, 1) := by decide +kernel
theorem dX7_about_49 : decode cX7_about 49 = .ok (.iaload, 1) := by decide +kernel
theorem dX7_about_50 : decode cX7_about 50 = .ok (.ireturn, 1) := by decide +kernel
theorem dX7_about_51 : decode cX7_about 51 = .ok (.aload_n 0, 1) := by decide +kernel
theorem dX7_about_52 : decode cX7_about 52 = .ok (.getfield 22, 3) := by decide +kernel
theorem dX7_about_55 : decode cX7_about 55 = .ok (.iload_n 1, 1) := by decide +kernel
theorem dX7_about_56 : decode cX7_about 56 = .ok (.iaload, 1) := by decide +kernel
theorem dX7_about_57 : decode cX7_about 57 = .ok (.ireturn, 1) := by decide +kernel
theorem dX7_about_58 : decode cX7_about 58 = .ok (.iconst 0, 1) := by decide +kernel
theorem dX7_about_59 : decode cX7_about 59 = .ok (.istore 4, 2) := by decide +kernel
theorem dX7_about_61 : decode cX7_about 61 = .ok (.iload 4, 2) := by decide +kernel
theorem dX7_about_63 : decode cX7_about 63 = .ok (.aload_n 0, 1) := by decide +kernel
theorem dX7_about_64 : decode cX7_about 64 = .ok (.getfield 22, 3) := by decide +kernel
theorem dX7_about_67 : decode cX7_about 67 = .ok (.iload_n 1, 1) := by decide +kernel
theorem dX7_about_68 : decode cX7_about 68 = .ok (.iaload, 1) := by decide +kernel
theorem dX7_about_69 : decode cX7_about 69 = .ok (.if_icmp .ge 27, 3) := by decide +kernel
theorem dX7_about_72 : decode cX7_about 72 = .ok (.iload_n 3, 1) := by decide +kernel
theorem dX7_about_73 : decode cX7_about 73 = .ok (.aload_n 0, 1) := by decide +kernel
theorem dX7_about_74 : decode cX7_about 74 = .ok (.iload_n 1, 1) := by decide +kernel
theorem dX7_about_75 : decode cX7_about 75 = .ok (.iload 4, 2) := by decide +kernel
theorem dX7_about_77 : decode cX7_about 77 = .ok (.invokevirtual 89, 3) := by decide +kernel
theorem dX7_about_80 : decode cX7_about 80 = .ok (.ifCond .eq 7, 3) := by decide +kernel
theorem dX7_about_83 : decode cX7_about 83 = .ok (.iconst 1, 1) := by decide +kernel
theorem dX7_about_84 : decode cX7_about 84 = .ok (.goto 4, 3) := by decide +kernel
theorem dX7_about_87 : decode cX7_about 87 = .ok (.iconst 0, 1) := by decide +kernel
theorem dX7_about_88 : decode cX7_about 88 = .ok (.iadd, 1) := by decide +kernel
theorem dX7_about_89 : decode cX7_about 89 = .ok (.istore_n 3, 1) := by decide +kernel
theorem dX7_about_90 : decode cX7_about 90 = .ok (.iinc 4 1, 3) := by decide +kernel
theorem dX7_about_93 : decode cX7_about 93 = .ok (.goto (-32), 3) := by decide +kernel
theorem dX7_about_96 : decode cX7_about 96 = .ok (.iload_n 3, 1) := by decide +kernel
theorem dX7_about_97 : decode cX7_about 97 = .ok (.ireturn, 1) := by decide +kernel
theorem dX7_about_98 : decode cX7_about 98 = .ok (.aload_n 0, 1) := by decide +kernel
theorem dX7_about_99 : decode cX7_about 99 = .ok (.getfield 25, 3) := by decide +kernel
theorem dX7_about_102 : decode cX7_about 102 = .ok (.iload_n 1, 1) := by decide +kernel
theorem dX7_about_103 : decode cX7_about 103 = .ok (.iaload, 1) := by decide +kernel
theorem dX7_about_104 : decode cX7_about 104 = .ok (.ireturn, 1) := by decide +kernel
theorem dX7_about_105 : decode cX7_about 105 = .ok (.iconst (-1), 1) := by decide +kernel
theorem dX7_about_106 : decode cX7_about 106 = .ok (.ireturn, 1) := by decide +kernel
theorem dX7_isQuiet_0 : decode cX7_isQuiet 0 = .ok (.iconst 0, 1) := by decide +kernel
theorem dX7_isQuiet_1 : decode cX7_isQuiet 1 = .ok (.istore 4, 2) := by decide +kernel
theorem dX7_isQuiet_3 : decode cX7_isQuiet 3 = .ok (.iload 4, 2) := by decide +kernel
theorem dX7_isQuiet_5 : decode cX7_isQuiet 5 = .ok (.aload_n 0, 1) := by decide +kernel
theorem dX7_isQuiet_6 : decode cX7_isQuiet 6 = .ok (.getfield 22, 3) := by decide +kernel
theorem dX7_isQuiet_9 : decode cX7_isQuiet 9 = .ok (.iload_n 1, 1) := by decide +kernel
theorem dX7_isQuiet_10 : decode cX7_isQuiet 10 = .ok (.iaload, 1) := by decide +kernel
theorem dX7_isQuiet_11 : decode cX7_isQuiet 11 = .ok (.if_icmp .ge 62, 3) := by decide +kernel
theorem dX7_isQuiet_14 : decode cX7_isQuiet 14 = .ok (.bipush 10, 2) := by decide +kernel
theorem dX7_isQuiet_16 : decode cX7_isQuiet 16 = .ok (.iload_n 1, 1) := by decide +kernel
theorem dX7_isQuiet_17 : decode cX7_isQuiet 17 = .ok (.imul, 1) := by decide +kernel
theorem dX7_isQuiet_18 : decode cX7_isQuiet 18 = .ok (.iload 4, 2) := by decide +kernel
theorem dX7_isQuiet_20 : decode cX7_isQuiet 20 = .ok (.iadd, 1) := by decide +kernel
theorem dX7_isQuiet_21 : decode cX7_isQuiet 21 = .ok (.istore 5, 2) := by decide +kernel
theorem dX7_isQuiet_23 : decode cX7_isQuiet 23 = .ok (.iload_n 2, 1) := by decide +kernel
theorem dX7_isQuiet_24 : decode cX7_isQuiet 24 = .ok (.iload 4, 2) := by decide +kernel
theorem dX7_isQuiet_26 : decode cX7_isQuiet 26 = .ok (.ishr, 1) := by decide +kernel
theorem dX7_isQuiet_27 : decode cX7_isQuiet 27 = .ok (.iconst 1, 1) := by decide +kernel
theorem dX7_isQuiet_28 : decode cX7_isQuiet 28 = .ok (.iand, 1) := by decide +kernel
theorem dX7_isQuiet_29 : decode cX7_isQuiet 29 = .ok (.iconst 1, 1) := by decide +kernel
theorem dX7_isQuiet_30 : decode cX7_isQuiet 30 = .ok (.if_icmp .ne 37, 3) := by decide +kernel
theorem dX7_isQuiet_33 : decode cX7_isQuiet 33 = .ok (.aload_n 0, 1) := by decide +kernel
theorem dX7_isQuiet_34 : decode cX7_isQuiet 34 = .ok (.getfield 40, 3) := by decide +kernel
theorem dX7_isQuiet_37 : decode cX7_isQuiet 37 = .ok (.iload 5, 2) := by decide +kernel
theorem dX7_isQuiet_39 : decode cX7_isQuiet 39 = .ok (.iaload, 1) := by decide +kernel
theorem dX7_isQuiet_40 : decode cX7_isQuiet 40 = .ok (.iload_n 3, 1) := by decide +kernel
theorem dX7_isQuiet_41 : decode cX7_isQuiet 41 = .ok (.if_icmp .gt 26, 3) := by decide +kernel
theorem dX7_isQuiet_44 : decode cX7_isQuiet 44 = .ok (.aload_n 0, 1) := by decide +kernel
theorem dX7_isQuiet_45 : decode cX7_isQuiet 45 = .ok (.getfield 43, 3) := by decide +kernel
theorem dX7_isQuiet_48 : decode cX7_isQuiet 48 = .ok (.iload 5, 2) := by decide +kernel
theorem dX7_isQuiet_50 : decode cX7_isQuiet 50 = .ok (.iaload, 1) := by decide +kernel
theorem dX7_isQuiet_51 : decode cX7_isQuiet 51 = .ok (.ifCond .eq 14, 3) := by decide +kernel
theorem dX7_isQuiet_54 : decode cX7_isQuiet 54 = .ok (.aload_n 0, 1) := by decide +kernel
theorem dX7_isQuiet_55 : decode cX7_isQuiet 55 = .ok (.getfield 43, 3) := by decide +kernel
theorem dX7_isQuiet_58 : decode cX7_isQuiet 58 = .ok (.iload 5, 2) := by decide +kernel
theorem dX7_isQuiet_60 : decode cX7_isQuiet 60 = .ok (.iaload, 1) := by decide +kernel
theorem dX7_isQuiet_61 : decode cX7_isQuiet 61 = .ok (.iload_n 3, 1) := by decide +kernel
theorem dX7_isQuiet_62 : decode cX7_isQuiet 62 = .ok (.if_icmp .le 5, 3) := by decide +kernel
theorem dX7_isQuiet_65 : decode cX7_isQuiet 65 = .ok (.iconst 0, 1) := by decide +kernel
theorem dX7_isQuiet_66 : decode cX7_isQuiet 66 = .ok (.ireturn, 1) := by decide +kernel
theorem dX7_isQuiet_67 : decode cX7_isQuiet 67 = .ok (.iinc 4 1, 3) := by decide +kernel
theorem dX7_isQuiet_70 : decode cX7_isQuiet 70 = .ok (.goto (-67), 3) := by decide +kernel
theorem dX7_isQuiet_73 : decode cX7_isQuiet 73 = .ok (.iconst 1, 1) := by decide +kernel
theorem dX7_isQuiet_74 : decode cX7_isQuiet 74 = .ok (.ireturn, 1) := by decide +kernel
theorem dX7_isAhead_0 : decode cX7_isAhead 0 = .ok (.bipush 10, 2) := by decide +kernel
theorem dX7_isAhead_2 : decode cX7_isAhead 2 = .ok (.iload_n 1, 1) := by decide +kernel
theorem dX7_isAhead_3 : decode cX7_isAhead 3 = .ok (.imul, 1) := by decide +kernel
theorem dX7_isAhead_4 : decode cX7_isAhead 4 = .ok (.iload 4, 2) := by decide +kernel
theorem dX7_isAhead_6 : decode cX7_isAhead 6 = .ok (.iadd, 1) := by decide +kernel
theorem dX7_isAhead_7 : decode cX7_isAhead 7 = .ok (.istore 6, 2) := by decide +kernel
theorem dX7_isAhead_9 : decode cX7_isAhead 9 = .ok (.bipush 10, 2) := by decide +kernel
theorem dX7_isAhead_11 : decode cX7_isAhead 11 = .ok (.iload_n 1, 1) := by decide +kernel
theorem dX7_isAhead_12 : decode cX7_isAhead 12 = .ok (.imul, 1) := by decide +kernel
theorem dX7_isAhead_13 : decode cX7_isAhead 13 = .ok (.iload 5, 2) := by decide +kernel
theorem dX7_isAhead_15 : decode cX7_isAhead 15 = .ok (.iadd, 1) := by decide +kernel
theorem dX7_isAhead_16 : decode cX7_isAhead 16 = .ok (.istore 7, 2) := by decide +kernel
theorem dX7_isAhead_18 : decode cX7_isAhead 18 = .ok (.aload_n 0, 1) := by decide +kernel
theorem dX7_isAhead_19 : decode cX7_isAhead 19 = .ok (.getfield 43, 3) := by decide +kernel
theorem dX7_isAhead_22 : decode cX7_isAhead 22 = .ok (.iload 6, 2) := by decide +kernel
theorem dX7_isAhead_24 : decode cX7_isAhead 24 = .ok (.iaload, 1) := by decide +kernel
theorem dX7_isAhead_25 : decode cX7_isAhead 25 = .ok (.ifCond .eq 20, 3) := by decide +kernel
theorem dX7_isAhead_28 : decode cX7_isAhead 28 = .ok (.aload_n 0, 1) := by decide +kernel
theorem dX7_isAhead_29 : decode cX7_isAhead 29 = .ok (.getfield 43, 3) := by decide +kernel
theorem dX7_isAhead_32 : decode cX7_isAhead 32 = .ok (.iload 6, 2) := by decide +kernel
theorem dX7_isAhead_34 : decode cX7_isAhead 34 = .ok (.iaload, 1) := by decide +kernel
theorem dX7_isAhead_35 : decode cX7_isAhead 35 = .ok (.aload_n 0, 1) := by decide +kernel
theorem dX7_isAhead_36 : decode cX7_isAhead 36 = .ok (.getfield 40, 3) := by decide +kernel
theorem dX7_isAhead_39 : decode cX7_isAhead 39 = .ok (.iload 7, 2) := by decide +kernel
theorem dX7_isAhead_41 : decode cX7_isAhead 41 = .ok (.iaload, 1) := by decide +kernel
theorem dX7_isAhead_42 : decode cX7_isAhead 42 = .ok (.if_icmp .lt 5, 3) := by decide +kernel
theorem dX7_isAhead_45 : decode cX7_isAhead 45 = .ok (.iconst 0, 1) := by decide +kernel
theorem dX7_isAhead_46 : decode cX7_isAhead 46 = .ok (.ireturn, 1) := by decide +kernel
theorem dX7_isAhead_47 : decode cX7_isAhead 47 = .ok (.iload_n 2, 1) := by decide +kernel
theorem dX7_isAhead_48 : decode cX7_isAhead 48 = .ok (.ifCond .eq 20, 3) := by decide +kernel
theorem dX7_isAhead_51 : decode cX7_isAhead 51 = .ok (.aload_n 0, 1) := by decide +kernel
theorem dX7_isAhead_52 : decode cX7_isAhead 52 = .ok (.getfield 28, 3) := by decide +kernel
theorem dX7_isAhead_55 : decode cX7_isAhead 55 = .ok (.iload 6, 2) := by decide +kernel
theorem dX7_isAhead_57 : decode cX7_isAhead 57 = .ok (.iaload, 1) := by decide +kernel
theorem dX7_isAhead_58 : decode cX7_isAhead 58 = .ok (.aload_n 0, 1) := by decide +kernel
theorem dX7_isAhead_59 : decode cX7_isAhead 59 = .ok (.getfield 28, 3) := by decide +kernel
theorem dX7_isAhead_62 : decode cX7_isAhead 62 = .ok (.iload 7, 2) := by decide +kernel
theorem dX7_isAhead_64 : decode cX7_isAhead 64 = .ok (.iaload, 1) := by decide +kernel
theorem dX7_isAhead_65 : decode cX7_isAhead 65 = .ok (.if_icmp .ne 5, 3) := by decide +kernel
theorem dX7_isAhead_68 : decode cX7_isAhead 68 = .ok (.iconst 1, 1) := by decide +kernel
theorem dX7_isAhead_69 : decode cX7_isAhead 69 = .ok (.ireturn, 1) := by decide +kernel
theorem dX7_isAhead_70 : decode cX7_isAhead 70 = .ok (.aload_n 0, 1) := by decide +kernel
theorem dX7_isAhead_71 : decode cX7_isAhead 71 = .ok (.getfield 43, 3) := by decide +kernel
theorem dX7_isAhead_74 : decode cX7_isAhead 74 = .ok (.iload 6, 2) := by decide +kernel
theorem dX7_isAhead_76 : decode cX7_isAhead 76 = .ok (.iaload, 1) := by decide +kernel
theorem dX7_isAhead_77 : decode cX7_isAhead 77 = .ok (.istore 8, 2) := by decide +kernel
theorem dX7_isAhead_79 : decode cX7_isAhead 79 = .ok (.iload 8, 2) := by decide +kernel
theorem dX7_isAhead_81 : decode cX7_isAhead 81 = .ok (.aload_n 0, 1) := by decide +kernel
theorem dX7_isAhead_82 : decode cX7_isAhead 82 = .ok (.getfield 40, 3) := by decide +kernel
theorem dX7_isAhead_85 : decode cX7_isAhead 85 = .ok (.iload 7, 2) := by decide +kernel
theorem dX7_isAhead_87 : decode cX7_isAhead 87 = .ok (.iaload, 1) := by decide +kernel
theorem dX7_isAhead_88 : decode cX7_isAhead 88 = .ok (.if_icmp .ge 27, 3) := by decide +kernel
theorem dX7_isAhead_91 : decode cX7_isAhead 91 = .ok (.iload_n 2, 1) := by decide +kernel
theorem dX7_isAhead_92 : decode cX7_isAhead 92 = .ok (.iconst 1, 1) := by decide +kernel
theorem dX7_isAhead_93 : decode cX7_isAhead 93 = .ok (.if_icmp .ne 22, 3) := by decide +kernel
theorem dX7_isAhead_96 : decode cX7_isAhead 96 = .ok (.aload_n 0, 1) := by decide +kernel
theorem dX7_isAhead_97 : decode cX7_isAhead 97 = .ok (.iload_n 1, 1) := by decide +kernel
theorem dX7_isAhead_98 : decode cX7_isAhead 98 = .ok (.iload_n 3, 1) := by decide +kernel
theorem dX7_isAhead_99 : decode cX7_isAhead 99 = .ok (.iload 8, 2) := by decide +kernel
theorem dX7_isAhead_101 : decode cX7_isAhead 101 = .ok (.invokevirtual 99, 3) := by decide +kernel
theorem dX7_isAhead_104 : decode cX7_isAhead 104 = .ok (.ifCond .eq 5, 3) := by decide +kernel
theorem dX7_isAhead_107 : decode cX7_isAhead 107 = .ok (.iconst 1, 1) := by decide +kernel
theorem dX7_isAhead_108 : decode cX7_isAhead 108 = .ok (.ireturn, 1) := by decide +kernel
theorem dX7_isAhead_109 : decode cX7_isAhead 109 = .ok (.iinc 8 1, 3) := by decide +kernel
theorem dX7_isAhead_112 : decode cX7_isAhead 112 = .ok (.goto (-33), 3) := by decide +kernel
theorem dX7_isAhead_115 : decode cX7_isAhead 115 = .ok (.iconst 0, 1) := by decide +kernel
theorem dX7_isAhead_116 : decode cX7_isAhead 116 = .ok (.ireturn, 1) := by decide +kernel
theorem dX7_all_0 : decode cX7_all 0 = .ok (.iconst 1, 1) := by decide +kernel
theorem dX7_all_1 : decode cX7_all 1 = .ok (.aload_n 0, 1) := by decide +kernel
theorem dX7_all_2 : decode cX7_all 2 = .ok (.getfield 22, 3) := by decide +kernel
theorem dX7_all_5 : decode cX7_all 5 = .ok (.iload_n 1, 1) := by decide +kernel
theorem dX7_all_6 : decode cX7_all 6 = .ok (.iaload, 1) := by decide +kernel
theorem dX7_all_7 : decode cX7_all 7 = .ok (.ishl, 1) := by decide +kernel
theorem dX7_all_8 : decode cX7_all 8 = .ok (.iconst 1, 1) := by decide +kernel
theorem dX7_all_9 : decode cX7_all 9 = .ok (.isub, 1) := by decide +kernel
theorem dX7_all_10 : decode cX7_all 10 = .ok (.ireturn, 1) := by decide +kernel
theorem dX7_ahead_0 : decode cX7_ahead 0 = .ok (.aload_n 0, 1) := by decide +kernel
theorem dX7_ahead_1 : decode cX7_ahead 1 = .ok (.iload_n 1, 1) := by decide +kernel
theorem dX7_ahead_2 : decode cX7_ahead 2 = .ok (.iload_n 3, 1) := by decide +kernel
theorem dX7_ahead_3 : decode cX7_ahead 3 = .ok (.invokevirtual 93, 3) := by decide +kernel
theorem dX7_ahead_6 : decode cX7_ahead 6 = .ok (.ifCond .eq 20, 3) := by decide +kernel
theorem dX7_ahead_9 : decode cX7_ahead 9 = .ok (.aload_n 0, 1) := by decide +kernel
theorem dX7_ahead_10 : decode cX7_ahead 10 = .ok (.iload_n 1, 1) := by decide +kernel
theorem dX7_ahead_11 : decode cX7_ahead 11 = .ok (.iload 4, 2) := by decide +kernel
theorem dX7_ahead_13 : decode cX7_ahead 13 = .ok (.invokevirtual 93, 3) := by decide +kernel
theorem dX7_ahead_16 : decode cX7_ahead 16 = .ok (.ifCond .eq 10, 3) := by decide +kernel
theorem dX7_ahead_19 : decode cX7_ahead 19 = .ok (.iload_n 2, 1) := by decide +kernel
theorem dX7_ahead_20 : decode cX7_ahead 20 = .ok (.invokestatic 102, 3) := by decide +kernel
theorem dX7_ahead_23 : decode cX7_ahead 23 = .ok (.ifCond .ne 5, 3) := by decide +kernel
theorem dX7_ahead_26 : decode cX7_ahead 26 = .ok (.iconst (-1), 1) := by decide +kernel
theorem dX7_ahead_27 : decode cX7_ahead 27 = .ok (.ireturn, 1) := by decide +kernel
theorem dX7_ahead_28 : decode cX7_ahead 28 = .ok (.aload_n 0, 1) := by decide +kernel
theorem dX7_ahead_29 : decode cX7_ahead 29 = .ok (.iload_n 1, 1) := by decide +kernel
theorem dX7_ahead_30 : decode cX7_ahead 30 = .ok (.iload_n 2, 1) := by decide +kernel
theorem dX7_ahead_31 : decode cX7_ahead 31 = .ok (.aload_n 0, 1) := by decide +kernel
theorem dX7_ahead_32 : decode cX7_ahead 32 = .ok (.iload_n 1, 1) := by decide +kernel
theorem dX7_ahead_33 : decode cX7_ahead 33 = .ok (.invokevirtual 105, 3) := by decide +kernel
theorem dX7_ahead_36 : decode cX7_ahead 36 = .ok (.iload_n 3, 1) := by decide +kernel
theorem dX7_ahead_37 : decode cX7_ahead 37 = .ok (.iload 4, 2) := by decide +kernel
theorem dX7_ahead_39 : decode cX7_ahead 39 = .ok (.invokevirtual 108, 3) := by decide +kernel
theorem dX7_ahead_42 : decode cX7_ahead 42 = .ok (.ifCond .eq 7, 3) := by decide +kernel
theorem dX7_ahead_45 : decode cX7_ahead 45 = .ok (.iconst 1, 1) := by decide +kernel
theorem dX7_ahead_46 : decode cX7_ahead 46 = .ok (.goto 4, 3) := by decide +kernel
theorem dX7_ahead_49 : decode cX7_ahead 49 = .ok (.iconst 0, 1) := by decide +kernel
theorem dX7_ahead_50 : decode cX7_ahead 50 = .ok (.ireturn, 1) := by decide +kernel
theorem dX7_begins_0 : decode cX7_begins 0 = .ok (.iconst 0, 1) := by decide +kernel
theorem dX7_begins_1 : decode cX7_begins 1 = .ok (.istore_n 1, 1) := by decide +kernel
theorem dX7_begins_2 : decode cX7_begins 2 = .ok (.iload_n 1, 1) := by decide +kernel
theorem dX7_begins_3 : decode cX7_begins 3 = .ok (.bipush 12, 2) := by decide +kernel
theorem dX7_begins_5 : decode cX7_begins 5 = .ok (.if_icmp .ge 16, 3) := by decide +kernel
theorem dX7_begins_8 : decode cX7_begins 8 = .ok (.aload_n 0, 1) := by decide +kernel
theorem dX7_begins_9 : decode cX7_begins 9 = .ok (.getfield 49, 3) := by decide +kernel
theorem dX7_begins_12 : decode cX7_begins 12 = .ok (.iload_n 1, 1) := by decide +kernel
theorem dX7_begins_13 : decode cX7_begins 13 = .ok (.iconst 0, 1) := by decide +kernel
theorem dX7_begins_14 : decode cX7_begins 14 = .ok (.iastore, 1) := by decide +kernel
theorem dX7_begins_15 : decode cX7_begins 15 = .ok (.iinc 1 1, 3) := by decide +kernel
theorem dX7_begins_18 : decode cX7_begins 18 = .ok (.goto (-16), 3) := by decide +kernel
theorem dX7_begins_21 : decode cX7_begins 21 = .ok (.return_, 1) := by decide +kernel
theorem dX7_comes_0 : decode cX7_comes 0 = .ok (.bipush 12, 2) := by decide +kernel
theorem dX7_comes_2 : decode cX7_comes 2 = .ok (.iload_n 3, 1) := by decide +kernel
theorem dX7_comes_3 : decode cX7_comes 3 = .ok (.imul, 1) := by decide +kernel
theorem dX7_comes_4 : decode cX7_comes 4 = .ok (.istore 4, 2) := by decide +kernel
theorem dX7_comes_6 : decode cX7_comes 6 = .ok (.iload 4, 2) := by decide +kernel
theorem dX7_comes_8 : decode cX7_comes 8 = .ok (.bipush 12, 2) := by decide +kernel
theorem dX7_comes_10 : decode cX7_comes 10 = .ok (.iadd, 1) := by decide +kernel
theorem dX7_comes_11 : decode cX7_comes 11 = .ok (.istore 5, 2) := by decide +kernel
theorem dX7_comes_13 : decode cX7_comes 13 = .ok (.bipush 10, 2) := by decide +kernel
theorem dX7_comes_15 : decode cX7_comes 15 = .ok (.iload_n 1, 1) := by decide +kernel
theorem dX7_comes_16 : decode cX7_comes 16 = .ok (.imul, 1) := by decide +kernel
theorem dX7_comes_17 : decode cX7_comes 17 = .ok (.iload_n 2, 1) := by decide +kernel
theorem dX7_comes_18 : decode cX7_comes 18 = .ok (.iadd, 1) := by decide +kernel
theorem dX7_comes_19 : decode cX7_comes 19 = .ok (.istore 6, 2) := by decide +kernel
theorem dX7_comes_21 : decode cX7_comes 21 = .ok (.aload_n 0, 1) := by decide +kernel
theorem dX7_comes_22 : decode cX7_comes 22 = .ok (.getfield 34, 3) := by decide +kernel
theorem dX7_comes_25 : decode cX7_comes 25 = .ok (.iload 6, 2) := by decide +kernel
theorem dX7_comes_27 : decode cX7_comes 27 = .ok (.iaload, 1) := by decide +kernel
theorem dX7_comes_28 : decode cX7_comes 28 = .ok (.istore 7, 2) := by decide +kernel
theorem dX7_comes_30 : decode cX7_comes 30 = .ok (.aload_n 0, 1) := by decide +kernel
theorem dX7_comes_31 : decode cX7_comes 31 = .ok (.getfield 37, 3) := by decide +kernel
theorem dX7_comes_34 : decode cX7_comes 34 = .ok (.iload 6, 2) := by decide +kernel
theorem dX7_comes_36 : decode cX7_comes 36 = .ok (.iaload, 1) := by decide +kernel
theorem dX7_comes_37 : decode cX7_comes 37 = .ok (.istore 8, 2) := by decide +kernel
theorem dX7_comes_39 : decode cX7_comes 39 = .ok (.iconst 0, 1) := by decide +kernel
theorem dX7_comes_40 : decode cX7_comes 40 = .ok (.istore 9, 2) := by decide +kernel
theorem dX7_comes_42 : decode cX7_comes 42 = .ok (.iload 9, 2) := by decide +kernel
theorem dX7_comes_44 : decode cX7_comes 44 = .ok (.bipush 12, 2) := by decide +kernel
theorem dX7_comes_46 : decode cX7_comes 46 = .ok (.if_icmp .ge 29, 3) := by decide +kernel
theorem dX7_comes_49 : decode cX7_comes 49 = .ok (.aload_n 0, 1) := by decide +kernel
theorem dX7_comes_50 : decode cX7_comes 50 = .ok (.getfield 49, 3) := by decide +kernel
theorem dX7_comes_53 : decode cX7_comes 53 = .ok (.iload 5, 2) := by decide +kernel
theorem dX7_comes_55 : decode cX7_comes 55 = .ok (.iload 9, 2) := by decide +kernel
theorem dX7_comes_57 : decode cX7_comes 57 = .ok (.iadd, 1) := by decide +kernel
theorem dX7_comes_58 : decode cX7_comes 58 = .ok (.aload_n 0, 1) := by decide +kernel
theorem dX7_comes_59 : decode cX7_comes 59 = .ok (.getfield 49, 3) := by decide +kernel
theorem dX7_comes_62 : decode cX7_comes 62 = .ok (.iload 4, 2) := by decide +kernel
theorem dX7_comes_64 : decode cX7_comes 64 = .ok (.iload 9, 2) := by decide +kernel
theorem dX7_comes_66 : decode cX7_comes 66 = .ok (.iadd, 1) := by decide +kernel
theorem dX7_comes_67 : decode cX7_comes 67 = .ok (.iaload, 1) := by decide +kernel
theorem dX7_comes_68 : decode cX7_comes 68 = .ok (.iastore, 1) := by decide +kernel
theorem dX7_comes_69 : decode cX7_comes 69 = .ok (.iinc 9 1, 3) := by decide +kernel
theorem dX7_comes_72 : decode cX7_comes 72 = .ok (.goto (-30), 3) := by decide +kernel
theorem dX7_comes_75 : decode cX7_comes 75 = .ok (.aload_n 0, 1) := by decide +kernel
theorem dX7_comes_76 : decode cX7_comes 76 = .ok (.getfield 16, 3) := by decide +kernel
theorem dX7_comes_79 : decode cX7_comes 79 = .ok (.iload_n 1, 1) := by decide +kernel
theorem dX7_comes_80 : decode cX7_comes 80 = .ok (.iaload, 1) := by decide +kernel
theorem dX7_comes_81 : decode cX7_comes 81 = .ok (.tableswitch 237 0 5 #[39, 59, 94, 94, 125, 210], 39) := by decide +kernel
theorem dX7_comes_120 : decode cX7_comes 120 = .ok (.aload_n 0, 1) := by decide +kernel
theorem dX7_comes_121 : decode cX7_comes 121 = .ok (.iload 5, 2) := by decide +kernel
theorem dX7_comes_123 : decode cX7_comes 123 = .ok (.aload_n 0, 1) := by decide +kernel
theorem dX7_comes_124 : decode cX7_comes 124 = .ok (.getfield 31, 3) := by decide +kernel
theorem dX7_comes_127 : decode cX7_comes 127 = .ok (.iload 6, 2) := by decide +kernel
theorem dX7_comes_129 : decode cX7_comes 129 = .ok (.iaload, 1) := by decide +kernel
theorem dX7_comes_130 : decode cX7_comes 130 = .ok (.iload 7, 2) := by decide +kernel
theorem dX7_comes_132 : decode cX7_comes 132 = .ok (.iload 7, 2) := by decide +kernel
theorem dX7_comes_134 : decode cX7_comes 134 = .ok (.iload 8, 2) := by decide +kernel
theorem dX7_comes_136 : decode cX7_comes 136 = .ok (.invokevirtual 112, 3) := by decide +kernel
theorem dX7_comes_139 : decode cX7_comes 139 = .ok (.ireturn, 1) := by decide +kernel
theorem dX7_comes_140 : decode cX7_comes 140 = .ok (.aload_n 0, 1) := by decide +kernel
theorem dX7_comes_141 : decode cX7_comes 141 = .ok (.getfield 49, 3) := by decide +kernel
theorem dX7_comes_144 : decode cX7_comes 144 = .ok (.iload 5, 2) := by decide +kernel
theorem dX7_comes_146 : decode cX7_comes 146 = .ok (.dup2, 1) := by decide +kernel
theorem dX7_comes_147 : decode cX7_comes 147 = .ok (.iaload, 1) := by decide +kernel
theorem dX7_comes_148 : decode cX7_comes 148 = .ok (.aload_n 0, 1) := by decide +kernel
theorem dX7_comes_149 : decode cX7_comes 149 = .ok (.getfield 31, 3) := by decide +kernel
theorem dX7_comes_152 : decode cX7_comes 152 = .ok (.iload 6, 2) := by decide +kernel
theorem dX7_comes_154 : decode cX7_comes 154 = .ok (.iaload, 1) := by decide +kernel
theorem dX7_comes_155 : decode cX7_comes 155 = .ok (.iconst 1, 1) := by decide +kernel
theorem dX7_comes_156 : decode cX7_comes 156 = .ok (.if_icmp .ne 8, 3) := by decide +kernel
theorem dX7_comes_159 : decode cX7_comes 159 = .ok (.iload 7, 2) := by decide +kernel
theorem dX7_comes_161 : decode cX7_comes 161 = .ok (.goto 4, 3) := by decide +kernel
theorem dX7_comes_164 : decode cX7_comes 164 = .ok (.iconst 0, 1) := by decide +kernel
theorem dX7_comes_165 : decode cX7_comes 165 = .ok (.iadd, 1) := by decide +kernel
theorem dX7_comes_166 : decode cX7_comes 166 = .ok (.iastore, 1) := by decide +kernel
theorem dX7_comes_167 : decode cX7_comes 167 = .ok (.aload_n 0, 1) := by decide +kernel
theorem dX7_comes_168 : decode cX7_comes 168 = .ok (.getfield 49, 3) := by decide +kernel
theorem dX7_comes_171 : decode cX7_comes 171 = .ok (.iload 5, 2) := by decide +kernel
theorem dX7_comes_173 : decode cX7_comes 173 = .ok (.iaload, 1) := by decide +kernel
theorem dX7_comes_174 : decode cX7_comes 174 = .ok (.ireturn, 1) := by decide +kernel
theorem dX7_comes_175 : decode cX7_comes 175 = .ok (.aload_n 0, 1) := by decide +kernel
theorem dX7_comes_176 : decode cX7_comes 176 = .ok (.iload 5, 2) := by decide +kernel
theorem dX7_comes_178 : decode cX7_comes 178 = .ok (.aload_n 0, 1) := by decide +kernel
theorem dX7_comes_179 : decode cX7_comes 179 = .ok (.getfield 16, 3) := by decide +kernel
theorem dX7_comes_182 : decode cX7_comes 182 = .ok (.iload_n 1, 1) := by decide +kernel
theorem dX7_comes_183 : decode cX7_comes 183 = .ok (.iaload, 1) := by decide +kernel
theorem dX7_comes_184 : decode cX7_comes 184 = .ok (.iconst 2, 1) := by decide +kernel
theorem dX7_comes_185 : decode cX7_comes 185 = .ok (.if_icmp .ne 7, 3) := by decide +kernel
theorem dX7_comes_188 : decode cX7_comes 188 = .ok (.iconst 1, 1) := by decide +kernel
theorem dX7_comes_189 : decode cX7_comes 189 = .ok (.goto 4, 3) := by decide +kernel
theorem dX7_comes_192 : decode cX7_comes 192 = .ok (.iconst 0, 1) := by decide +kernel
theorem dX7_comes_193 : decode cX7_comes 193 = .ok (.aload_n 0, 1) := by decide +kernel
theorem dX7_comes_194 : decode cX7_comes 194 = .ok (.getfield 31, 3) := by decide +kernel
theorem dX7_comes_197 : decode cX7_comes 197 = .ok (.iload 6, 2) := by decide +kernel
theorem dX7_comes_199 : decode cX7_comes 199 = .ok (.iaload, 1) := by decide +kernel
theorem dX7_comes_200 : decode cX7_comes 200 = .ok (.iload 7, 2) := by decide +kernel
theorem dX7_comes_202 : decode cX7_comes 202 = .ok (.invokevirtual 116, 3) := by decide +kernel
theorem dX7_comes_205 : decode cX7_comes 205 = .ok (.ireturn, 1) := by decide +kernel
theorem dX7_comes_206 : decode cX7_comes 206 = .ok (.aload_n 0, 1) := by decide +kernel
theorem dX7_comes_207 : decode cX7_comes 207 = .ok (.getfield 49, 3) := by decide +kernel
theorem dX7_comes_210 : decode cX7_comes 210 = .ok (.iload 5, 2) := by decide +kernel
theorem dX7_comes_212 : decode cX7_comes 212 = .ok (.iaload, 1) := by decide +kernel
theorem dX7_comes_213 : decode cX7_comes 213 = .ok (.iload 7, 2) := by decide +kernel
theorem dX7_comes_215 : decode cX7_comes 215 = .ok (.ishr, 1) := by decide +kernel
theorem dX7_comes_216 : decode cX7_comes 216 = .ok (.iconst 1, 1) := by decide +kernel
theorem dX7_comes_217 : decode cX7_comes 217 = .ok (.iand, 1) := by decide +kernel
theorem dX7_comes_218 : decode cX7_comes 218 = .ok (.istore 9, 2) := by decide +kernel
theorem dX7_comes_220 : decode cX7_comes 220 = .ok (.aload_n 0, 1) := by decide +kernel
theorem dX7_comes_221 : decode cX7_comes 221 = .ok (.getfield 31, 3) := by decide +kernel
theorem dX7_comes_224 : decode cX7_comes 224 = .ok (.iload 6, 2) := by decide +kernel
theorem dX7_comes_226 : decode cX7_comes 226 = .ok (.iaload, 1) := by decide +kernel
theorem dX7_comes_227 : decode cX7_comes 227 = .ok (.ifCond .ne 17, 3) := by decide +kernel
theorem dX7_comes_230 : decode cX7_comes 230 = .ok (.aload_n 0, 1) := by decide +kernel
theorem dX7_comes_231 : decode cX7_comes 231 = .ok (.getfield 49, 3) := by decide +kernel
theorem dX7_comes_234 : decode cX7_comes 234 = .ok (.iload 5, 2) := by decide +kernel
theorem dX7_comes_236 : decode cX7_comes 236 = .ok (.dup2, 1) := by decide +kernel
theorem dX7_comes_237 : decode cX7_comes 237 = .ok (.iaload, 1) := by decide +kernel
theorem dX7_comes_238 : decode cX7_comes 238 = .ok (.iconst 1, 1) := by decide +kernel
theorem dX7_comes_239 : decode cX7_comes 239 = .ok (.iload 7, 2) := by decide +kernel
theorem dX7_comes_241 : decode cX7_comes 241 = .ok (.ishl, 1) := by decide +kernel
theorem dX7_comes_242 : decode cX7_comes 242 = .ok (.ior, 1) := by decide +kernel
theorem dX7_comes_243 : decode cX7_comes 243 = .ok (.iastore, 1) := by decide +kernel
theorem dX7_comes_244 : decode cX7_comes 244 = .ok (.aload_n 0, 1) := by decide +kernel
theorem dX7_comes_245 : decode cX7_comes 245 = .ok (.getfield 31, 3) := by decide +kernel
theorem dX7_comes_248 : decode cX7_comes 248 = .ok (.iload 6, 2) := by decide +kernel
theorem dX7_comes_250 : decode cX7_comes 250 = .ok (.iaload, 1) := by decide +kernel
theorem dX7_comes_251 : decode cX7_comes 251 = .ok (.iconst 1, 1) := by decide +kernel
theorem dX7_comes_252 : decode cX7_comes 252 = .ok (.if_icmp .ne 19, 3) := by decide +kernel
theorem dX7_comes_255 : decode cX7_comes 255 = .ok (.aload_n 0, 1) := by decide +kernel
theorem dX7_comes_256 : decode cX7_comes 256 = .ok (.getfield 49, 3) := by decide +kernel
theorem dX7_comes_259 : decode cX7_comes 259 = .ok (.iload 5, 2) := by decide +kernel
theorem dX7_comes_261 : decode cX7_comes 261 = .ok (.dup2, 1) := by decide +kernel
theorem dX7_comes_262 : decode cX7_comes 262 = .ok (.iaload, 1) := by decide +kernel
theorem dX7_comes_263 : decode cX7_comes 263 = .ok (.iconst 1, 1) := by decide +kernel
theorem dX7_comes_264 : decode cX7_comes 264 = .ok (.iload 7, 2) := by decide +kernel
theorem dX7_comes_266 : decode cX7_comes 266 = .ok (.ishl, 1) := by decide +kernel
theorem dX7_comes_267 : decode cX7_comes 267 = .ok (.iconst (-1), 1) := by decide +kernel
theorem dX7_comes_268 : decode cX7_comes 268 = .ok (.ixor, 1) := by decide +kernel
theorem dX7_comes_269 : decode cX7_comes 269 = .ok (.iand, 1) := by decide +kernel
theorem dX7_comes_270 : decode cX7_comes 270 = .ok (.iastore, 1) := by decide +kernel
theorem dX7_comes_271 : decode cX7_comes 271 = .ok (.aload_n 0, 1) := by decide +kernel
theorem dX7_comes_272 : decode cX7_comes 272 = .ok (.getfield 31, 3) := by decide +kernel
theorem dX7_comes_275 : decode cX7_comes 275 = .ok (.iload 6, 2) := by decide +kernel
theorem dX7_comes_277 : decode cX7_comes 277 = .ok (.iaload, 1) := by decide +kernel
theorem dX7_comes_278 : decode cX7_comes 278 = .ok (.ifCond .ne 10, 3) := by decide +kernel
theorem dX7_comes_281 : decode cX7_comes 281 = .ok (.iconst 1, 1) := by decide +kernel
theorem dX7_comes_282 : decode cX7_comes 282 = .ok (.iload 9, 2) := by decide +kernel
theorem dX7_comes_284 : decode cX7_comes 284 = .ok (.isub, 1) := by decide +kernel
theorem dX7_comes_285 : decode cX7_comes 285 = .ok (.goto 5, 3) := by decide +kernel
theorem dX7_comes_288 : decode cX7_comes 288 = .ok (.iload 9, 2) := by decide +kernel
theorem dX7_comes_290 : decode cX7_comes 290 = .ok (.ireturn, 1) := by decide +kernel
theorem dX7_comes_291 : decode cX7_comes 291 = .ok (.aload_n 0, 1) := by decide +kernel
theorem dX7_comes_292 : decode cX7_comes 292 = .ok (.iload 5, 2) := by decide +kernel
theorem dX7_comes_294 : decode cX7_comes 294 = .ok (.iload 7, 2) := by decide +kernel
theorem dX7_comes_296 : decode cX7_comes 296 = .ok (.iadd, 1) := by decide +kernel
theorem dX7_comes_297 : decode cX7_comes 297 = .ok (.aload_n 0, 1) := by decide +kernel
theorem dX7_comes_298 : decode cX7_comes 298 = .ok (.getfield 31, 3) := by decide +kernel
theorem dX7_comes_301 : decode cX7_comes 301 = .ok (.iload 6, 2) := by decide +kernel
theorem dX7_comes_303 : decode cX7_comes 303 = .ok (.iaload, 1) := by decide +kernel
theorem dX7_comes_304 : decode cX7_comes 304 = .ok (.iload 8, 2) := by decide +kernel
theorem dX7_comes_306 : decode cX7_comes 306 = .ok (.iload 8, 2) := by decide +kernel
theorem dX7_comes_308 : decode cX7_comes 308 = .ok (.bipush 16, 2) := by decide +kernel
theorem dX7_comes_310 : decode cX7_comes 310 = .ok (.ishr, 1) := by decide +kernel
theorem dX7_comes_311 : decode cX7_comes 311 = .ok (.iload 8, 2) := by decide +kernel
theorem dX7_comes_313 : decode cX7_comes 313 = .ok (.i2s, 1) := by decide +kernel
theorem dX7_comes_314 : decode cX7_comes 314 = .ok (.invokevirtual 112, 3) := by decide +kernel
theorem dX7_comes_317 : decode cX7_comes 317 = .ok (.ireturn, 1) := by decide +kernel
theorem dX7_comes_318 : decode cX7_comes 318 = .ok (.bipush 32, 2) := by decide +kernel
theorem dX7_comes_320 : decode cX7_comes 320 = .ok (.aload_n 0, 1) := by decide +kernel
theorem dX7_comes_321 : decode cX7_comes 321 = .ok (.getfield 19, 3) := by decide +kernel
theorem dX7_comes_324 : decode cX7_comes 324 = .ok (.iload_n 1, 1) := by decide +kernel
theorem dX7_comes_325 : decode cX7_comes 325 = .ok (.iaload, 1) := by decide +kernel
theorem dX7_comes_326 : decode cX7_comes 326 = .ok (.imul, 1) := by decide +kernel
theorem dX7_comes_327 : decode cX7_comes 327 = .ok (.iconst 4, 1) := by decide +kernel
theorem dX7_comes_328 : decode cX7_comes 328 = .ok (.aload_n 0, 1) := by decide +kernel
theorem dX7_comes_329 : decode cX7_comes 329 = .ok (.getfield 49, 3) := by decide +kernel
theorem dX7_comes_332 : decode cX7_comes 332 = .ok (.iload 5, 2) := by decide +kernel
theorem dX7_comes_334 : decode cX7_comes 334 = .ok (.iaload, 1) := by decide +kernel
theorem dX7_comes_335 : decode cX7_comes 335 = .ok (.imul, 1) := by decide +kernel
theorem dX7_comes_336 : decode cX7_comes 336 = .ok (.iadd, 1) := by decide +kernel
theorem dX7_comes_337 : decode cX7_comes 337 = .ok (.aload_n 0, 1) := by decide +kernel
theorem dX7_comes_338 : decode cX7_comes 338 = .ok (.getfield 31, 3) := by decide +kernel
theorem dX7_comes_341 : decode cX7_comes 341 = .ok (.iload 6, 2) := by decide +kernel
theorem dX7_comes_343 : decode cX7_comes 343 = .ok (.iaload, 1) := by decide +kernel
theorem dX7_comes_344 : decode cX7_comes 344 = .ok (.iadd, 1) := by decide +kernel
theorem dX7_comes_345 : decode cX7_comes 345 = .ok (.istore 10, 2) := by decide +kernel
theorem dX7_comes_347 : decode cX7_comes 347 = .ok (.aload_n 0, 1) := by decide +kernel
theorem dX7_comes_348 : decode cX7_comes 348 = .ok (.getfield 49, 3) := by decide +kernel
theorem dX7_comes_351 : decode cX7_comes 351 = .ok (.iload 5, 2) := by decide +kernel
theorem dX7_comes_353 : decode cX7_comes 353 = .ok (.aload_n 0, 1) := by decide +kernel
theorem dX7_comes_354 : decode cX7_comes 354 = .ok (.getfield 13, 3) := by decide +kernel
theorem dX7_comes_357 : decode cX7_comes 357 = .ok (.iload 10, 2) := by decide +kernel
theorem dX7_comes_359 : decode cX7_comes 359 = .ok (.iaload, 1) := by decide +kernel
theorem dX7_comes_360 : decode cX7_comes 360 = .ok (.iastore, 1) := by decide +kernel
theorem dX7_comes_361 : decode cX7_comes 361 = .ok (.aload_n 0, 1) := by decide +kernel
theorem dX7_comes_362 : decode cX7_comes 362 = .ok (.getfield 7, 3) := by decide +kernel
theorem dX7_comes_365 : decode cX7_comes 365 = .ok (.iload 10, 2) := by decide +kernel
theorem dX7_comes_367 : decode cX7_comes 367 = .ok (.iaload, 1) := by decide +kernel
theorem dX7_comes_368 : decode cX7_comes 368 = .ok (.ireturn, 1) := by decide +kernel
