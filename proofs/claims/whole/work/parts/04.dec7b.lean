theorem dX7_cell_0 : decode cX7_cell 0 = .ok (.iload_n 2, 1) := by decide +kernel
theorem dX7_cell_1 : decode cX7_cell 1 = .ok (.ifCond .ne 10, 3) := by decide +kernel
theorem dX7_cell_4 : decode cX7_cell 4 = .ok (.aload_n 0, 1) := by decide +kernel
theorem dX7_cell_5 : decode cX7_cell 5 = .ok (.getfield 49, 3) := by decide +kernel
theorem dX7_cell_8 : decode cX7_cell 8 = .ok (.iload_n 1, 1) := by decide +kernel
theorem dX7_cell_9 : decode cX7_cell 9 = .ok (.iaload, 1) := by decide +kernel
theorem dX7_cell_10 : decode cX7_cell 10 = .ok (.ireturn, 1) := by decide +kernel
theorem dX7_cell_11 : decode cX7_cell 11 = .ok (.iload_n 2, 1) := by decide +kernel
theorem dX7_cell_12 : decode cX7_cell 12 = .ok (.iconst 1, 1) := by decide +kernel
theorem dX7_cell_13 : decode cX7_cell 13 = .ok (.if_icmp .ne 12, 3) := by decide +kernel
theorem dX7_cell_16 : decode cX7_cell 16 = .ok (.aload_n 0, 1) := by decide +kernel
theorem dX7_cell_17 : decode cX7_cell 17 = .ok (.getfield 49, 3) := by decide +kernel
theorem dX7_cell_20 : decode cX7_cell 20 = .ok (.iload_n 1, 1) := by decide +kernel
theorem dX7_cell_21 : decode cX7_cell 21 = .ok (.iload_n 3, 1) := by decide +kernel
theorem dX7_cell_22 : decode cX7_cell 22 = .ok (.iastore, 1) := by decide +kernel
theorem dX7_cell_23 : decode cX7_cell 23 = .ok (.iconst 0, 1) := by decide +kernel
theorem dX7_cell_24 : decode cX7_cell 24 = .ok (.ireturn, 1) := by decide +kernel
theorem dX7_cell_25 : decode cX7_cell 25 = .ok (.aload_n 0, 1) := by decide +kernel
theorem dX7_cell_26 : decode cX7_cell 26 = .ok (.getfield 49, 3) := by decide +kernel
theorem dX7_cell_29 : decode cX7_cell 29 = .ok (.iload_n 1, 1) := by decide +kernel
theorem dX7_cell_30 : decode cX7_cell 30 = .ok (.iaload, 1) := by decide +kernel
theorem dX7_cell_31 : decode cX7_cell 31 = .ok (.iload 4, 2) := by decide +kernel
theorem dX7_cell_33 : decode cX7_cell 33 = .ok (.if_icmp .eq 5, 3) := by decide +kernel
theorem dX7_cell_36 : decode cX7_cell 36 = .ok (.iconst 0, 1) := by decide +kernel
theorem dX7_cell_37 : decode cX7_cell 37 = .ok (.ireturn, 1) := by decide +kernel
theorem dX7_cell_38 : decode cX7_cell 38 = .ok (.aload_n 0, 1) := by decide +kernel
theorem dX7_cell_39 : decode cX7_cell 39 = .ok (.getfield 49, 3) := by decide +kernel
theorem dX7_cell_42 : decode cX7_cell 42 = .ok (.iload_n 1, 1) := by decide +kernel
theorem dX7_cell_43 : decode cX7_cell 43 = .ok (.iload 5, 2) := by decide +kernel
theorem dX7_cell_45 : decode cX7_cell 45 = .ok (.iastore, 1) := by decide +kernel
theorem dX7_cell_46 : decode cX7_cell 46 = .ok (.iconst 1, 1) := by decide +kernel
theorem dX7_cell_47 : decode cX7_cell 47 = .ok (.ireturn, 1) := by decide +kernel
theorem dX7_line_0 : decode cX7_line 0 = .ok (.aload_n 0, 1) := by decide +kernel
theorem dX7_line_1 : decode cX7_line 1 = .ok (.getfield 49, 3) := by decide +kernel
theorem dX7_line_4 : decode cX7_line 4 = .ok (.iload_n 1, 1) := by decide +kernel
theorem dX7_line_5 : decode cX7_line 5 = .ok (.bipush 11, 2) := by decide +kernel
theorem dX7_line_7 : decode cX7_line 7 = .ok (.iadd, 1) := by decide +kernel
theorem dX7_line_8 : decode cX7_line 8 = .ok (.iaload, 1) := by decide +kernel
theorem dX7_line_9 : decode cX7_line 9 = .ok (.istore 5, 2) := by decide +kernel
theorem dX7_line_11 : decode cX7_line 11 = .ok (.iload_n 3, 1) := by decide +kernel
theorem dX7_line_12 : decode cX7_line 12 = .ok (.ifCond .ne 32, 3) := by decide +kernel
theorem dX7_line_15 : decode cX7_line 15 = .ok (.aload_n 0, 1) := by decide +kernel
theorem dX7_line_16 : decode cX7_line 16 = .ok (.getfield 49, 3) := by decide +kernel
theorem dX7_line_19 : decode cX7_line 19 = .ok (.iload_n 1, 1) := by decide +kernel
theorem dX7_line_20 : decode cX7_line 20 = .ok (.iload 5, 2) := by decide +kernel
theorem dX7_line_22 : decode cX7_line 22 = .ok (.iadd, 1) := by decide +kernel
theorem dX7_line_23 : decode cX7_line 23 = .ok (.iload 4, 2) := by decide +kernel
theorem dX7_line_25 : decode cX7_line 25 = .ok (.iastore, 1) := by decide +kernel
theorem dX7_line_26 : decode cX7_line 26 = .ok (.aload_n 0, 1) := by decide +kernel
theorem dX7_line_27 : decode cX7_line 27 = .ok (.getfield 49, 3) := by decide +kernel
theorem dX7_line_30 : decode cX7_line 30 = .ok (.iload_n 1, 1) := by decide +kernel
theorem dX7_line_31 : decode cX7_line 31 = .ok (.bipush 11, 2) := by decide +kernel
theorem dX7_line_33 : decode cX7_line 33 = .ok (.iadd, 1) := by decide +kernel
theorem dX7_line_34 : decode cX7_line 34 = .ok (.iload 5, 2) := by decide +kernel
theorem dX7_line_36 : decode cX7_line 36 = .ok (.iconst 1, 1) := by decide +kernel
theorem dX7_line_37 : decode cX7_line 37 = .ok (.iadd, 1) := by decide +kernel
theorem dX7_line_38 : decode cX7_line 38 = .ok (.iastore, 1) := by decide +kernel
theorem dX7_line_39 : decode cX7_line 39 = .ok (.iload 5, 2) := by decide +kernel
theorem dX7_line_41 : decode cX7_line 41 = .ok (.iconst 1, 1) := by decide +kernel
theorem dX7_line_42 : decode cX7_line 42 = .ok (.iadd, 1) := by decide +kernel
theorem dX7_line_43 : decode cX7_line 43 = .ok (.ireturn, 1) := by decide +kernel
theorem dX7_line_44 : decode cX7_line 44 = .ok (.iload 5, 2) := by decide +kernel
theorem dX7_line_46 : decode cX7_line 46 = .ok (.ifCond .ne 5, 3) := by decide +kernel
theorem dX7_line_49 : decode cX7_line 49 = .ok (.iconst (-1), 1) := by decide +kernel
theorem dX7_line_50 : decode cX7_line 50 = .ok (.ireturn, 1) := by decide +kernel
theorem dX7_line_51 : decode cX7_line 51 = .ok (.iload_n 2, 1) := by decide +kernel
theorem dX7_line_52 : decode cX7_line 52 = .ok (.ifCond .eq 12, 3) := by decide +kernel
theorem dX7_line_55 : decode cX7_line 55 = .ok (.aload_n 0, 1) := by decide +kernel
theorem dX7_line_56 : decode cX7_line 56 = .ok (.getfield 49, 3) := by decide +kernel
theorem dX7_line_59 : decode cX7_line 59 = .ok (.iload_n 1, 1) := by decide +kernel
theorem dX7_line_60 : decode cX7_line 60 = .ok (.iaload, 1) := by decide +kernel
theorem dX7_line_61 : decode cX7_line 61 = .ok (.goto 14, 3) := by decide +kernel
theorem dX7_line_64 : decode cX7_line 64 = .ok (.aload_n 0, 1) := by decide +kernel
theorem dX7_line_65 : decode cX7_line 65 = .ok (.getfield 49, 3) := by decide +kernel
theorem dX7_line_68 : decode cX7_line 68 = .ok (.iload_n 1, 1) := by decide +kernel
theorem dX7_line_69 : decode cX7_line 69 = .ok (.iload 5, 2) := by decide +kernel
theorem dX7_line_71 : decode cX7_line 71 = .ok (.iadd, 1) := by decide +kernel
theorem dX7_line_72 : decode cX7_line 72 = .ok (.iconst 1, 1) := by decide +kernel
theorem dX7_line_73 : decode cX7_line 73 = .ok (.isub, 1) := by decide +kernel
theorem dX7_line_74 : decode cX7_line 74 = .ok (.iaload, 1) := by decide +kernel
theorem dX7_line_75 : decode cX7_line 75 = .ok (.istore 6, 2) := by decide +kernel
theorem dX7_line_77 : decode cX7_line 77 = .ok (.iconst 0, 1) := by decide +kernel
theorem dX7_line_78 : decode cX7_line 78 = .ok (.istore 7, 2) := by decide +kernel
theorem dX7_line_80 : decode cX7_line 80 = .ok (.iload 7, 2) := by decide +kernel
theorem dX7_line_82 : decode cX7_line 82 = .ok (.iconst 1, 1) := by decide +kernel
theorem dX7_line_83 : decode cX7_line 83 = .ok (.iadd, 1) := by decide +kernel
theorem dX7_line_84 : decode cX7_line 84 = .ok (.iload 5, 2) := by decide +kernel
theorem dX7_line_86 : decode cX7_line 86 = .ok (.if_icmp .ge 33, 3) := by decide +kernel
theorem dX7_line_89 : decode cX7_line 89 = .ok (.iload_n 2, 1) := by decide +kernel
theorem dX7_line_90 : decode cX7_line 90 = .ok (.ifCond .eq 29, 3) := by decide +kernel
theorem dX7_line_93 : decode cX7_line 93 = .ok (.aload_n 0, 1) := by decide +kernel
theorem dX7_line_94 : decode cX7_line 94 = .ok (.getfield 49, 3) := by decide +kernel
theorem dX7_line_97 : decode cX7_line 97 = .ok (.iload_n 1, 1) := by decide +kernel
theorem dX7_line_98 : decode cX7_line 98 = .ok (.iload 7, 2) := by decide +kernel
theorem dX7_line_100 : decode cX7_line 100 = .ok (.iadd, 1) := by decide +kernel
theorem dX7_line_101 : decode cX7_line 101 = .ok (.aload_n 0, 1) := by decide +kernel
theorem dX7_line_102 : decode cX7_line 102 = .ok (.getfield 49, 3) := by decide +kernel
theorem dX7_line_105 : decode cX7_line 105 = .ok (.iload_n 1, 1) := by decide +kernel
theorem dX7_line_106 : decode cX7_line 106 = .ok (.iload 7, 2) := by decide +kernel
theorem dX7_line_108 : decode cX7_line 108 = .ok (.iadd, 1) := by decide +kernel
theorem dX7_line_109 : decode cX7_line 109 = .ok (.iconst 1, 1) := by decide +kernel
theorem dX7_line_110 : decode cX7_line 110 = .ok (.iadd, 1) := by decide +kernel
theorem dX7_line_111 : decode cX7_line 111 = .ok (.iaload, 1) := by decide +kernel
theorem dX7_line_112 : decode cX7_line 112 = .ok (.iastore, 1) := by decide +kernel
theorem dX7_line_113 : decode cX7_line 113 = .ok (.iinc 7 1, 3) := by decide +kernel
theorem dX7_line_116 : decode cX7_line 116 = .ok (.goto (-36), 3) := by decide +kernel
theorem dX7_line_119 : decode cX7_line 119 = .ok (.aload_n 0, 1) := by decide +kernel
theorem dX7_line_120 : decode cX7_line 120 = .ok (.getfield 49, 3) := by decide +kernel
theorem dX7_line_123 : decode cX7_line 123 = .ok (.iload_n 1, 1) := by decide +kernel
theorem dX7_line_124 : decode cX7_line 124 = .ok (.iload 5, 2) := by decide +kernel
theorem dX7_line_126 : decode cX7_line 126 = .ok (.iadd, 1) := by decide +kernel
theorem dX7_line_127 : decode cX7_line 127 = .ok (.iconst 1, 1) := by decide +kernel
theorem dX7_line_128 : decode cX7_line 128 = .ok (.isub, 1) := by decide +kernel
theorem dX7_line_129 : decode cX7_line 129 = .ok (.iconst 0, 1) := by decide +kernel
theorem dX7_line_130 : decode cX7_line 130 = .ok (.iastore, 1) := by decide +kernel
theorem dX7_line_131 : decode cX7_line 131 = .ok (.aload_n 0, 1) := by decide +kernel
theorem dX7_line_132 : decode cX7_line 132 = .ok (.getfield 49, 3) := by decide +kernel
theorem dX7_line_135 : decode cX7_line 135 = .ok (.iload_n 1, 1) := by decide +kernel
theorem dX7_line_136 : decode cX7_line 136 = .ok (.bipush 11, 2) := by decide +kernel
theorem dX7_line_138 : decode cX7_line 138 = .ok (.iadd, 1) := by decide +kernel
theorem dX7_line_139 : decode cX7_line 139 = .ok (.iload 5, 2) := by decide +kernel
theorem dX7_line_141 : decode cX7_line 141 = .ok (.iconst 1, 1) := by decide +kernel
theorem dX7_line_142 : decode cX7_line 142 = .ok (.isub, 1) := by decide +kernel
theorem dX7_line_143 : decode cX7_line 143 = .ok (.iastore, 1) := by decide +kernel
theorem dX7_line_144 : decode cX7_line 144 = .ok (.iload 6, 2) := by decide +kernel
theorem dX7_line_146 : decode cX7_line 146 = .ok (.ireturn, 1) := by decide +kernel
theorem dX7_prepare_0 : decode cX7_prepare 0 = .ok (.iconst 0, 1) := by decide +kernel
theorem dX7_prepare_1 : decode cX7_prepare 1 = .ok (.istore 4, 2) := by decide +kernel
theorem dX7_prepare_3 : decode cX7_prepare 3 = .ok (.iload 4, 2) := by decide +kernel
theorem dX7_prepare_5 : decode cX7_prepare 5 = .ok (.aload_n 0, 1) := by decide +kernel
theorem dX7_prepare_6 : decode cX7_prepare 6 = .ok (.getfield 22, 3) := by decide +kernel
theorem dX7_prepare_9 : decode cX7_prepare 9 = .ok (.iload_n 1, 1) := by decide +kernel
theorem dX7_prepare_10 : decode cX7_prepare 10 = .ok (.iaload, 1) := by decide +kernel
theorem dX7_prepare_11 : decode cX7_prepare 11 = .ok (.if_icmp .ge 75, 3) := by decide +kernel
theorem dX7_prepare_14 : decode cX7_prepare 14 = .ok (.aload_n 0, 1) := by decide +kernel
theorem dX7_prepare_15 : decode cX7_prepare 15 = .ok (.getfield 58, 3) := by decide +kernel
theorem dX7_prepare_18 : decode cX7_prepare 18 = .ok (.iload 4, 2) := by decide +kernel
theorem dX7_prepare_20 : decode cX7_prepare 20 = .ok (.iconst 0, 1) := by decide +kernel
theorem dX7_prepare_21 : decode cX7_prepare 21 = .ok (.iastore, 1) := by decide +kernel
theorem dX7_prepare_22 : decode cX7_prepare 22 = .ok (.iconst 0, 1) := by decide +kernel
theorem dX7_prepare_23 : decode cX7_prepare 23 = .ok (.istore 5, 2) := by decide +kernel
theorem dX7_prepare_25 : decode cX7_prepare 25 = .ok (.iload 5, 2) := by decide +kernel
theorem dX7_prepare_27 : decode cX7_prepare 27 = .ok (.aload_n 0, 1) := by decide +kernel
theorem dX7_prepare_28 : decode cX7_prepare 28 = .ok (.getfield 22, 3) := by decide +kernel
theorem dX7_prepare_31 : decode cX7_prepare 31 = .ok (.iload_n 1, 1) := by decide +kernel
theorem dX7_prepare_32 : decode cX7_prepare 32 = .ok (.iaload, 1) := by decide +kernel
theorem dX7_prepare_33 : decode cX7_prepare 33 = .ok (.if_icmp .ge 47, 3) := by decide +kernel
theorem dX7_prepare_36 : decode cX7_prepare 36 = .ok (.iload_n 3, 1) := by decide +kernel
theorem dX7_prepare_37 : decode cX7_prepare 37 = .ok (.iload 5, 2) := by decide +kernel
theorem dX7_prepare_39 : decode cX7_prepare 39 = .ok (.ishr, 1) := by decide +kernel
theorem dX7_prepare_40 : decode cX7_prepare 40 = .ok (.iconst 1, 1) := by decide +kernel
theorem dX7_prepare_41 : decode cX7_prepare 41 = .ok (.iand, 1) := by decide +kernel
theorem dX7_prepare_42 : decode cX7_prepare 42 = .ok (.iconst 1, 1) := by decide +kernel
theorem dX7_prepare_43 : decode cX7_prepare 43 = .ok (.if_icmp .ne 31, 3) := by decide +kernel
theorem dX7_prepare_46 : decode cX7_prepare 46 = .ok (.aload_n 0, 1) := by decide +kernel
theorem dX7_prepare_47 : decode cX7_prepare 47 = .ok (.iload_n 1, 1) := by decide +kernel
theorem dX7_prepare_48 : decode cX7_prepare 48 = .ok (.iload_n 2, 1) := by decide +kernel
theorem dX7_prepare_49 : decode cX7_prepare 49 = .ok (.iload_n 3, 1) := by decide +kernel
theorem dX7_prepare_50 : decode cX7_prepare 50 = .ok (.iload 5, 2) := by decide +kernel
theorem dX7_prepare_52 : decode cX7_prepare 52 = .ok (.iload 4, 2) := by decide +kernel
theorem dX7_prepare_54 : decode cX7_prepare 54 = .ok (.invokevirtual 108, 3) := by decide +kernel
theorem dX7_prepare_57 : decode cX7_prepare 57 = .ok (.ifCond .eq 17, 3) := by decide +kernel
theorem dX7_prepare_60 : decode cX7_prepare 60 = .ok (.aload_n 0, 1) := by decide +kernel
theorem dX7_prepare_61 : decode cX7_prepare 61 = .ok (.getfield 58, 3) := by decide +kernel
theorem dX7_prepare_64 : decode cX7_prepare 64 = .ok (.iload 4, 2) := by decide +kernel
theorem dX7_prepare_66 : decode cX7_prepare 66 = .ok (.dup2, 1) := by decide +kernel
theorem dX7_prepare_67 : decode cX7_prepare 67 = .ok (.iaload, 1) := by decide +kernel
theorem dX7_prepare_68 : decode cX7_prepare 68 = .ok (.iconst 1, 1) := by decide +kernel
theorem dX7_prepare_69 : decode cX7_prepare 69 = .ok (.iload 5, 2) := by decide +kernel
theorem dX7_prepare_71 : decode cX7_prepare 71 = .ok (.ishl, 1) := by decide +kernel
theorem dX7_prepare_72 : decode cX7_prepare 72 = .ok (.ior, 1) := by decide +kernel
theorem dX7_prepare_73 : decode cX7_prepare 73 = .ok (.iastore, 1) := by decide +kernel
theorem dX7_prepare_74 : decode cX7_prepare 74 = .ok (.iinc 5 1, 3) := by decide +kernel
theorem dX7_prepare_77 : decode cX7_prepare 77 = .ok (.goto (-52), 3) := by decide +kernel
theorem dX7_prepare_80 : decode cX7_prepare 80 = .ok (.iinc 4 1, 3) := by decide +kernel
theorem dX7_prepare_83 : decode cX7_prepare 83 = .ok (.goto (-80), 3) := by decide +kernel
theorem dX7_prepare_86 : decode cX7_prepare 86 = .ok (.aload_n 0, 1) := by decide +kernel
theorem dX7_prepare_87 : decode cX7_prepare 87 = .ok (.invokevirtual 120, 3) := by decide +kernel
theorem dX7_prepare_90 : decode cX7_prepare 90 = .ok (.return_, 1) := by decide +kernel
theorem dX7_answeredOf_0 : decode cX7_answeredOf 0 = .ok (.iconst 0, 1) := by decide +kernel
theorem dX7_answeredOf_1 : decode cX7_answeredOf 1 = .ok (.istore_n 3, 1) := by decide +kernel
theorem dX7_answeredOf_2 : decode cX7_answeredOf 2 = .ok (.iconst 0, 1) := by decide +kernel
theorem dX7_answeredOf_3 : decode cX7_answeredOf 3 = .ok (.istore 4, 2) := by decide +kernel
theorem dX7_answeredOf_5 : decode cX7_answeredOf 5 = .ok (.iload 4, 2) := by decide +kernel
theorem dX7_answeredOf_7 : decode cX7_answeredOf 7 = .ok (.aload_n 0, 1) := by decide +kernel
theorem dX7_answeredOf_8 : decode cX7_answeredOf 8 = .ok (.getfield 22, 3) := by decide +kernel
theorem dX7_answeredOf_11 : decode cX7_answeredOf 11 = .ok (.iload_n 1, 1) := by decide +kernel
theorem dX7_answeredOf_12 : decode cX7_answeredOf 12 = .ok (.iaload, 1) := by decide +kernel
theorem dX7_answeredOf_13 : decode cX7_answeredOf 13 = .ok (.if_icmp .ge 40, 3) := by decide +kernel
theorem dX7_answeredOf_16 : decode cX7_answeredOf 16 = .ok (.iload_n 3, 1) := by decide +kernel
theorem dX7_answeredOf_17 : decode cX7_answeredOf 17 = .ok (.iload_n 2, 1) := by decide +kernel
theorem dX7_answeredOf_18 : decode cX7_answeredOf 18 = .ok (.iload 4, 2) := by decide +kernel
theorem dX7_answeredOf_20 : decode cX7_answeredOf 20 = .ok (.ishr, 1) := by decide +kernel
theorem dX7_answeredOf_21 : decode cX7_answeredOf 21 = .ok (.iconst 1, 1) := by decide +kernel
theorem dX7_answeredOf_22 : decode cX7_answeredOf 22 = .ok (.iand, 1) := by decide +kernel
theorem dX7_answeredOf_23 : decode cX7_answeredOf 23 = .ok (.iconst 1, 1) := by decide +kernel
theorem dX7_answeredOf_24 : decode cX7_answeredOf 24 = .ok (.if_icmp .ne 20, 3) := by decide +kernel
theorem dX7_answeredOf_27 : decode cX7_answeredOf 27 = .ok (.aload_n 0, 1) := by decide +kernel
theorem dX7_answeredOf_28 : decode cX7_answeredOf 28 = .ok (.iload_n 1, 1) := by decide +kernel
theorem dX7_answeredOf_29 : decode cX7_answeredOf 29 = .ok (.iload 4, 2) := by decide +kernel
theorem dX7_answeredOf_31 : decode cX7_answeredOf 31 = .ok (.invokevirtual 89, 3) := by decide +kernel
theorem dX7_answeredOf_34 : decode cX7_answeredOf 34 = .ok (.ifCond .ne 10, 3) := by decide +kernel
theorem dX7_answeredOf_37 : decode cX7_answeredOf 37 = .ok (.iconst 1, 1) := by decide +kernel
theorem dX7_answeredOf_38 : decode cX7_answeredOf 38 = .ok (.iload 4, 2) := by decide +kernel
theorem dX7_answeredOf_40 : decode cX7_answeredOf 40 = .ok (.ishl, 1) := by decide +kernel
theorem dX7_answeredOf_41 : decode cX7_answeredOf 41 = .ok (.goto 4, 3) := by decide +kernel
theorem dX7_answeredOf_44 : decode cX7_answeredOf 44 = .ok (.iconst 0, 1) := by decide +kernel
theorem dX7_answeredOf_45 : decode cX7_answeredOf 45 = .ok (.ior, 1) := by decide +kernel
theorem dX7_answeredOf_46 : decode cX7_answeredOf 46 = .ok (.istore_n 3, 1) := by decide +kernel
theorem dX7_answeredOf_47 : decode cX7_answeredOf 47 = .ok (.iinc 4 1, 3) := by decide +kernel
theorem dX7_answeredOf_50 : decode cX7_answeredOf 50 = .ok (.goto (-45), 3) := by decide +kernel
theorem dX7_answeredOf_53 : decode cX7_answeredOf 53 = .ok (.iload_n 3, 1) := by decide +kernel
theorem dX7_answeredOf_54 : decode cX7_answeredOf 54 = .ok (.ireturn, 1) := by decide +kernel
theorem dX7_goes_0 : decode cX7_goes 0 = .ok (.iload 4, 2) := by decide +kernel
theorem dX7_goes_2 : decode cX7_goes 2 = .ok (.iload_n 3, 1) := by decide +kernel
theorem dX7_goes_3 : decode cX7_goes 3 = .ok (.iand, 1) := by decide +kernel
theorem dX7_goes_4 : decode cX7_goes 4 = .ok (.iload_n 3, 1) := by decide +kernel
theorem dX7_goes_5 : decode cX7_goes 5 = .ok (.if_icmp .ne 59, 3) := by decide +kernel
theorem dX7_goes_8 : decode cX7_goes 8 = .ok (.aload_n 0, 1) := by decide +kernel
theorem dX7_goes_9 : decode cX7_goes 9 = .ok (.dup, 1) := by decide +kernel
theorem dX7_goes_10 : decode cX7_goes 10 = .ok (.getfield 123, 3) := by decide +kernel
theorem dX7_goes_13 : decode cX7_goes 13 = .ok (.lconst 1, 1) := by decide +kernel
theorem dX7_goes_14 : decode cX7_goes 14 = .ok (.ladd, 1) := by decide +kernel
theorem dX7_goes_15 : decode cX7_goes 15 = .ok (.putfield 123, 3) := by decide +kernel
theorem dX7_goes_18 : decode cX7_goes 18 = .ok (.aload_n 0, 1) := by decide +kernel
theorem dX7_goes_19 : decode cX7_goes 19 = .ok (.getfield 127, 3) := by decide +kernel
theorem dX7_goes_22 : decode cX7_goes 22 = .ok (.ifCond .ne 11, 3) := by decide +kernel
theorem dX7_goes_25 : decode cX7_goes 25 = .ok (.aload_n 0, 1) := by decide +kernel
theorem dX7_goes_26 : decode cX7_goes 26 = .ok (.iload 5, 2) := by decide +kernel
theorem dX7_goes_28 : decode cX7_goes 28 = .ok (.putfield 130, 3) := by decide +kernel
theorem dX7_goes_31 : decode cX7_goes 31 = .ok (.iconst 1, 1) := by decide +kernel
theorem dX7_goes_32 : decode cX7_goes 32 = .ok (.ireturn, 1) := by decide +kernel
theorem dX7_goes_33 : decode cX7_goes 33 = .ok (.aload_n 0, 1) := by decide +kernel
theorem dX7_goes_34 : decode cX7_goes 34 = .ok (.getfield 127, 3) := by decide +kernel
theorem dX7_goes_37 : decode cX7_goes 37 = .ok (.iconst 2, 1) := by decide +kernel
theorem dX7_goes_38 : decode cX7_goes 38 = .ok (.if_icmp .ne 26, 3) := by decide +kernel
theorem dX7_goes_41 : decode cX7_goes 41 = .ok (.iload 4, 2) := by decide +kernel
theorem dX7_goes_43 : decode cX7_goes 43 = .ok (.aload_n 0, 1) := by decide +kernel
theorem dX7_goes_44 : decode cX7_goes 44 = .ok (.getfield 133, 3) := by decide +kernel
theorem dX7_goes_47 : decode cX7_goes 47 = .ok (.ishr, 1) := by decide +kernel
theorem dX7_goes_48 : decode cX7_goes 48 = .ok (.iconst 1, 1) := by decide +kernel
theorem dX7_goes_49 : decode cX7_goes 49 = .ok (.iand, 1) := by decide +kernel
theorem dX7_goes_50 : decode cX7_goes 50 = .ok (.iconst 1, 1) := by decide +kernel
theorem dX7_goes_51 : decode cX7_goes 51 = .ok (.if_icmp .ne 13, 3) := by decide +kernel
theorem dX7_goes_54 : decode cX7_goes 54 = .ok (.aload_n 0, 1) := by decide +kernel
theorem dX7_goes_55 : decode cX7_goes 55 = .ok (.aload_n 0, 1) := by decide +kernel
theorem dX7_goes_56 : decode cX7_goes 56 = .ok (.getfield 55, 3) := by decide +kernel
theorem dX7_goes_59 : decode cX7_goes 59 = .ok (.iload 5, 2) := by decide +kernel
theorem dX7_goes_61 : decode cX7_goes 61 = .ok (.invokevirtual 136, 3) := by decide +kernel
theorem dX7_goes_64 : decode cX7_goes 64 = .ok (.iconst 0, 1) := by decide +kernel
theorem dX7_goes_65 : decode cX7_goes 65 = .ok (.istore 6, 2) := by decide +kernel
theorem dX7_goes_67 : decode cX7_goes 67 = .ok (.iload 6, 2) := by decide +kernel
theorem dX7_goes_69 : decode cX7_goes 69 = .ok (.aload_n 0, 1) := by decide +kernel
theorem dX7_goes_70 : decode cX7_goes 70 = .ok (.getfield 22, 3) := by decide +kernel
theorem dX7_goes_73 : decode cX7_goes 73 = .ok (.iload_n 1, 1) := by decide +kernel
theorem dX7_goes_74 : decode cX7_goes 74 = .ok (.iaload, 1) := by decide +kernel
theorem dX7_goes_75 : decode cX7_goes 75 = .ok (.if_icmp .ge 129, 3) := by decide +kernel
theorem dX7_goes_78 : decode cX7_goes 78 = .ok (.iload_n 2, 1) := by decide +kernel
theorem dX7_goes_79 : decode cX7_goes 79 = .ok (.iload 6, 2) := by decide +kernel
theorem dX7_goes_81 : decode cX7_goes 81 = .ok (.ishr, 1) := by decide +kernel
theorem dX7_goes_82 : decode cX7_goes 82 = .ok (.iconst 1, 1) := by decide +kernel
theorem dX7_goes_83 : decode cX7_goes 83 = .ok (.iand, 1) := by decide +kernel
theorem dX7_goes_84 : decode cX7_goes 84 = .ok (.ifCond .eq 114, 3) := by decide +kernel
theorem dX7_goes_87 : decode cX7_goes 87 = .ok (.iload 4, 2) := by decide +kernel
theorem dX7_goes_89 : decode cX7_goes 89 = .ok (.iload 6, 2) := by decide +kernel
theorem dX7_goes_91 : decode cX7_goes 91 = .ok (.ishr, 1) := by decide +kernel
theorem dX7_goes_92 : decode cX7_goes 92 = .ok (.iconst 1, 1) := by decide +kernel
theorem dX7_goes_93 : decode cX7_goes 93 = .ok (.iand, 1) := by decide +kernel
theorem dX7_goes_94 : decode cX7_goes 94 = .ok (.iconst 1, 1) := by decide +kernel
theorem dX7_goes_95 : decode cX7_goes 95 = .ok (.if_icmp .eq 103, 3) := by decide +kernel
theorem dX7_goes_98 : decode cX7_goes 98 = .ok (.aload_n 0, 1) := by decide +kernel
theorem dX7_goes_99 : decode cX7_goes 99 = .ok (.getfield 58, 3) := by decide +kernel
theorem dX7_goes_102 : decode cX7_goes 102 = .ok (.iload 6, 2) := by decide +kernel
theorem dX7_goes_104 : decode cX7_goes 104 = .ok (.iaload, 1) := by decide +kernel
theorem dX7_goes_105 : decode cX7_goes 105 = .ok (.iload 4, 2) := by decide +kernel
theorem dX7_goes_107 : decode cX7_goes 107 = .ok (.iconst (-1), 1) := by decide +kernel
theorem dX7_goes_108 : decode cX7_goes 108 = .ok (.ixor, 1) := by decide +kernel
theorem dX7_goes_109 : decode cX7_goes 109 = .ok (.iand, 1) := by decide +kernel
theorem dX7_goes_110 : decode cX7_goes 110 = .ok (.ifCond .eq 6, 3) := by decide +kernel
theorem dX7_goes_113 : decode cX7_goes 113 = .ok (.goto 85, 3) := by decide +kernel
theorem dX7_goes_116 : decode cX7_goes 116 = .ok (.aload_n 0, 1) := by decide +kernel
theorem dX7_goes_117 : decode cX7_goes 117 = .ok (.iload_n 1, 1) := by decide +kernel
theorem dX7_goes_118 : decode cX7_goes 118 = .ok (.iload 6, 2) := by decide +kernel
theorem dX7_goes_120 : decode cX7_goes 120 = .ok (.iload 5, 2) := by decide +kernel
theorem dX7_goes_122 : decode cX7_goes 122 = .ok (.invokevirtual 140, 3) := by decide +kernel
theorem dX7_goes_125 : decode cX7_goes 125 = .ok (.istore 7, 2) := by decide +kernel
theorem dX7_goes_127 : decode cX7_goes 127 = .ok (.aload_n 0, 1) := by decide +kernel
theorem dX7_goes_128 : decode cX7_goes 128 = .ok (.iload_n 1, 1) := by decide +kernel
theorem dX7_goes_129 : decode cX7_goes 129 = .ok (.iload 6, 2) := by decide +kernel
theorem dX7_goes_131 : decode cX7_goes 131 = .ok (.invokevirtual 89, 3) := by decide +kernel
theorem dX7_goes_134 : decode cX7_goes 134 = .ok (.ifCond .ne 23, 3) := by decide +kernel
theorem dX7_goes_137 : decode cX7_goes 137 = .ok (.iload 7, 2) := by decide +kernel
theorem dX7_goes_139 : decode cX7_goes 139 = .ok (.aload_n 0, 1) := by decide +kernel
theorem dX7_goes_140 : decode cX7_goes 140 = .ok (.getfield 46, 3) := by decide +kernel
theorem dX7_goes_143 : decode cX7_goes 143 = .ok (.bipush 10, 2) := by decide +kernel
theorem dX7_goes_145 : decode cX7_goes 145 = .ok (.iload_n 1, 1) := by decide +kernel
theorem dX7_goes_146 : decode cX7_goes 146 = .ok (.imul, 1) := by decide +kernel
theorem dX7_goes_147 : decode cX7_goes 147 = .ok (.iload 6, 2) := by decide +kernel
theorem dX7_goes_149 : decode cX7_goes 149 = .ok (.iadd, 1) := by decide +kernel
theorem dX7_goes_150 : decode cX7_goes 150 = .ok (.iaload, 1) := by decide +kernel
theorem dX7_goes_151 : decode cX7_goes 151 = .ok (.if_icmp .eq 6, 3) := by decide +kernel
theorem dX7_goes_154 : decode cX7_goes 154 = .ok (.goto 44, 3) := by decide +kernel
theorem dX7_goes_157 : decode cX7_goes 157 = .ok (.aload_n 0, 1) := by decide +kernel
theorem dX7_goes_158 : decode cX7_goes 158 = .ok (.getfield 52, 3) := by decide +kernel
theorem dX7_goes_161 : decode cX7_goes 161 = .ok (.iload 5, 2) := by decide +kernel
theorem dX7_goes_163 : decode cX7_goes 163 = .ok (.iload 6, 2) := by decide +kernel
theorem dX7_goes_165 : decode cX7_goes 165 = .ok (.iastore, 1) := by decide +kernel
theorem dX7_goes_166 : decode cX7_goes 166 = .ok (.aload_n 0, 1) := by decide +kernel
theorem dX7_goes_167 : decode cX7_goes 167 = .ok (.getfield 55, 3) := by decide +kernel
theorem dX7_goes_170 : decode cX7_goes 170 = .ok (.iload 5, 2) := by decide +kernel
theorem dX7_goes_172 : decode cX7_goes 172 = .ok (.iload 7, 2) := by decide +kernel
theorem dX7_goes_174 : decode cX7_goes 174 = .ok (.iastore, 1) := by decide +kernel
theorem dX7_goes_175 : decode cX7_goes 175 = .ok (.aload_n 0, 1) := by decide +kernel
theorem dX7_goes_176 : decode cX7_goes 176 = .ok (.iload_n 1, 1) := by decide +kernel
theorem dX7_goes_177 : decode cX7_goes 177 = .ok (.iload_n 2, 1) := by decide +kernel
theorem dX7_goes_178 : decode cX7_goes 178 = .ok (.iload_n 3, 1) := by decide +kernel
theorem dX7_goes_179 : decode cX7_goes 179 = .ok (.iload 4, 2) := by decide +kernel
theorem dX7_goes_181 : decode cX7_goes 181 = .ok (.iconst 1, 1) := by decide +kernel
theorem dX7_goes_182 : decode cX7_goes 182 = .ok (.iload 6, 2) := by decide +kernel
theorem dX7_goes_184 : decode cX7_goes 184 = .ok (.ishl, 1) := by decide +kernel
theorem dX7_goes_185 : decode cX7_goes 185 = .ok (.ior, 1) := by decide +kernel
theorem dX7_goes_186 : decode cX7_goes 186 = .ok (.iload 5, 2) := by decide +kernel
theorem dX7_goes_188 : decode cX7_goes 188 = .ok (.iconst 1, 1) := by decide +kernel
theorem dX7_goes_189 : decode cX7_goes 189 = .ok (.iadd, 1) := by decide +kernel
theorem dX7_goes_190 : decode cX7_goes 190 = .ok (.invokevirtual 144, 3) := by decide +kernel
theorem dX7_goes_193 : decode cX7_goes 193 = .ok (.ifCond .eq 5, 3) := by decide +kernel
theorem dX7_goes_196 : decode cX7_goes 196 = .ok (.iconst 1, 1) := by decide +kernel
theorem dX7_goes_197 : decode cX7_goes 197 = .ok (.ireturn, 1) := by decide +kernel
theorem dX7_goes_198 : decode cX7_goes 198 = .ok (.iinc 6 1, 3) := by decide +kernel
theorem dX7_goes_201 : decode cX7_goes 201 = .ok (.goto (-134), 3) := by decide +kernel
theorem dX7_goes_204 : decode cX7_goes 204 = .ok (.iconst 0, 1) := by decide +kernel
theorem dX7_goes_205 : decode cX7_goes 205 = .ok (.ireturn, 1) := by decide +kernel
theorem dX7_fill_0 : decode cX7_fill 0 = .ok (.iconst 0, 1) := by decide +kernel
theorem dX7_fill_1 : decode cX7_fill 1 = .ok (.istore_n 3, 1) := by decide +kernel
theorem dX7_fill_2 : decode cX7_fill 2 = .ok (.aload_n 0, 1) := by decide +kernel
theorem dX7_fill_3 : decode cX7_fill 3 = .ok (.getfield 52, 3) := by decide +kernel
theorem dX7_fill_6 : decode cX7_fill 6 = .ok (.iload_n 3, 1) := by decide +kernel
theorem dX7_fill_7 : decode cX7_fill 7 = .ok (.iaload, 1) := by decide +kernel
theorem dX7_fill_8 : decode cX7_fill 8 = .ok (.aload_n 0, 1) := by decide +kernel
theorem dX7_fill_9 : decode cX7_fill 9 = .ok (.getfield 133, 3) := by decide +kernel
theorem dX7_fill_12 : decode cX7_fill 12 = .ok (.if_icmp .eq 9, 3) := by decide +kernel
theorem dX7_fill_15 : decode cX7_fill 15 = .ok (.iinc 3 1, 3) := by decide +kernel
theorem dX7_fill_18 : decode cX7_fill 18 = .ok (.goto (-16), 3) := by decide +kernel
theorem dX7_fill_21 : decode cX7_fill 21 = .ok (.aload_n 1, 1) := by decide +kernel
theorem dX7_fill_22 : decode cX7_fill 22 = .ok (.iload_n 3, 1) := by decide +kernel
theorem dX7_fill_23 : decode cX7_fill 23 = .ok (.iaload, 1) := by decide +kernel
theorem dX7_fill_24 : decode cX7_fill 24 = .ok (.istore 4, 2) := by decide +kernel
theorem dX7_fill_26 : decode cX7_fill 26 = .ok (.iconst 0, 1) := by decide +kernel
theorem dX7_fill_27 : decode cX7_fill 27 = .ok (.istore 5, 2) := by decide +kernel
theorem dX7_fill_29 : decode cX7_fill 29 = .ok (.iload 5, 2) := by decide +kernel
theorem dX7_fill_31 : decode cX7_fill 31 = .ok (.aload_n 0, 1) := by decide +kernel
theorem dX7_fill_32 : decode cX7_fill 32 = .ok (.getfield 147, 3) := by decide +kernel
theorem dX7_fill_35 : decode cX7_fill 35 = .ok (.if_icmp .ge 21, 3) := by decide +kernel
theorem dX7_fill_38 : decode cX7_fill 38 = .ok (.aload_n 0, 1) := by decide +kernel
theorem dX7_fill_39 : decode cX7_fill 39 = .ok (.getfield 61, 3) := by decide +kernel
theorem dX7_fill_42 : decode cX7_fill 42 = .ok (.iload 5, 2) := by decide +kernel
theorem dX7_fill_44 : decode cX7_fill 44 = .ok (.iaload, 1) := by decide +kernel
theorem dX7_fill_45 : decode cX7_fill 45 = .ok (.iload 4, 2) := by decide +kernel
theorem dX7_fill_47 : decode cX7_fill 47 = .ok (.if_icmp .ge 9, 3) := by decide +kernel
theorem dX7_fill_50 : decode cX7_fill 50 = .ok (.iinc 5 1, 3) := by decide +kernel
theorem dX7_fill_53 : decode cX7_fill 53 = .ok (.goto (-24), 3) := by decide +kernel
theorem dX7_fill_56 : decode cX7_fill 56 = .ok (.iload 5, 2) := by decide +kernel
theorem dX7_fill_58 : decode cX7_fill 58 = .ok (.aload_n 0, 1) := by decide +kernel
theorem dX7_fill_59 : decode cX7_fill 59 = .ok (.getfield 147, 3) := by decide +kernel
theorem dX7_fill_62 : decode cX7_fill 62 = .ok (.if_icmp .ge 16, 3) := by decide +kernel
theorem dX7_fill_65 : decode cX7_fill 65 = .ok (.aload_n 0, 1) := by decide +kernel
theorem dX7_fill_66 : decode cX7_fill 66 = .ok (.getfield 61, 3) := by decide +kernel
theorem dX7_fill_69 : decode cX7_fill 69 = .ok (.iload 5, 2) := by decide +kernel
theorem dX7_fill_71 : decode cX7_fill 71 = .ok (.iaload, 1) := by decide +kernel
theorem dX7_fill_72 : decode cX7_fill 72 = .ok (.iload 4, 2) := by decide +kernel
theorem dX7_fill_74 : decode cX7_fill 74 = .ok (.if_icmp .ne 4, 3) := by decide +kernel
theorem dX7_fill_77 : decode cX7_fill 77 = .ok (.return_, 1) := by decide +kernel
theorem dX7_fill_78 : decode cX7_fill 78 = .ok (.aload_n 0, 1) := by decide +kernel
theorem dX7_fill_79 : decode cX7_fill 79 = .ok (.getfield 147, 3) := by decide +kernel
theorem dX7_fill_82 : decode cX7_fill 82 = .ok (.istore 6, 2) := by decide +kernel
theorem dX7_fill_84 : decode cX7_fill 84 = .ok (.iload 6, 2) := by decide +kernel
theorem dX7_fill_86 : decode cX7_fill 86 = .ok (.iload 5, 2) := by decide +kernel
theorem dX7_fill_88 : decode cX7_fill 88 = .ok (.if_icmp .le 25, 3) := by decide +kernel
theorem dX7_fill_91 : decode cX7_fill 91 = .ok (.aload_n 0, 1) := by decide +kernel
theorem dX7_fill_92 : decode cX7_fill 92 = .ok (.getfield 61, 3) := by decide +kernel
theorem dX7_fill_95 : decode cX7_fill 95 = .ok (.iload 6, 2) := by decide +kernel
theorem dX7_fill_97 : decode cX7_fill 97 = .ok (.aload_n 0, 1) := by decide +kernel
theorem dX7_fill_98 : decode cX7_fill 98 = .ok (.getfield 61, 3) := by decide +kernel
theorem dX7_fill_101 : decode cX7_fill 101 = .ok (.iload 6, 2) := by decide +kernel
theorem dX7_fill_103 : decode cX7_fill 103 = .ok (.iconst 1, 1) := by decide +kernel
theorem dX7_fill_104 : decode cX7_fill 104 = .ok (.isub, 1) := by decide +kernel
theorem dX7_fill_105 : decode cX7_fill 105 = .ok (.iaload, 1) := by decide +kernel
theorem dX7_fill_106 : decode cX7_fill 106 = .ok (.iastore, 1) := by decide +kernel
theorem dX7_fill_107 : decode cX7_fill 107 = .ok (.iinc 6 (-1), 3) := by decide +kernel
theorem dX7_fill_110 : decode cX7_fill 110 = .ok (.goto (-26), 3) := by decide +kernel
theorem dX7_fill_113 : decode cX7_fill 113 = .ok (.aload_n 0, 1) := by decide +kernel
theorem dX7_fill_114 : decode cX7_fill 114 = .ok (.getfield 61, 3) := by decide +kernel
theorem dX7_fill_117 : decode cX7_fill 117 = .ok (.iload 5, 2) := by decide +kernel
theorem dX7_fill_119 : decode cX7_fill 119 = .ok (.iload 4, 2) := by decide +kernel
theorem dX7_fill_121 : decode cX7_fill 121 = .ok (.iastore, 1) := by decide +kernel
theorem dX7_fill_122 : decode cX7_fill 122 = .ok (.aload_n 0, 1) := by decide +kernel
theorem dX7_fill_123 : decode cX7_fill 123 = .ok (.dup, 1) := by decide +kernel
theorem dX7_fill_124 : decode cX7_fill 124 = .ok (.getfield 147, 3) := by decide +kernel
theorem dX7_fill_127 : decode cX7_fill 127 = .ok (.iconst 1, 1) := by decide +kernel
theorem dX7_fill_128 : decode cX7_fill 128 = .ok (.iadd, 1) := by decide +kernel
theorem dX7_fill_129 : decode cX7_fill 129 = .ok (.putfield 147, 3) := by decide +kernel
theorem dX7_fill_132 : decode cX7_fill 132 = .ok (.return_, 1) := by decide +kernel
theorem dX7_isTaken_0 : decode cX7_isTaken 0 = .ok (.aload_n 0, 1) := by decide +kernel
theorem dX7_isTaken_1 : decode cX7_isTaken 1 = .ok (.iload_n 1, 1) := by decide +kernel
theorem dX7_isTaken_2 : decode cX7_isTaken 2 = .ok (.iload_n 2, 1) := by decide +kernel
theorem dX7_isTaken_3 : decode cX7_isTaken 3 = .ok (.iload_n 3, 1) := by decide +kernel
theorem dX7_isTaken_4 : decode cX7_isTaken 4 = .ok (.invokevirtual 150, 3) := by decide +kernel
theorem dX7_isTaken_7 : decode cX7_isTaken 7 = .ok (.aload_n 0, 1) := by decide +kernel
theorem dX7_isTaken_8 : decode cX7_isTaken 8 = .ok (.iconst 0, 1) := by decide +kernel
theorem dX7_isTaken_9 : decode cX7_isTaken 9 = .ok (.putfield 127, 3) := by decide +kernel
theorem dX7_isTaken_12 : decode cX7_isTaken 12 = .ok (.aload_n 0, 1) := by decide +kernel
theorem dX7_isTaken_13 : decode cX7_isTaken 13 = .ok (.iload_n 1, 1) := by decide +kernel
theorem dX7_isTaken_14 : decode cX7_isTaken 14 = .ok (.iload_n 3, 1) := by decide +kernel
theorem dX7_isTaken_15 : decode cX7_isTaken 15 = .ok (.aload_n 0, 1) := by decide +kernel
theorem dX7_isTaken_16 : decode cX7_isTaken 16 = .ok (.iload_n 1, 1) := by decide +kernel
theorem dX7_isTaken_17 : decode cX7_isTaken 17 = .ok (.iload_n 3, 1) := by decide +kernel
theorem dX7_isTaken_18 : decode cX7_isTaken 18 = .ok (.invokevirtual 154, 3) := by decide +kernel
theorem dX7_isTaken_21 : decode cX7_isTaken 21 = .ok (.iconst 0, 1) := by decide +kernel
theorem dX7_isTaken_22 : decode cX7_isTaken 22 = .ok (.iconst 0, 1) := by decide +kernel
theorem dX7_isTaken_23 : decode cX7_isTaken 23 = .ok (.invokevirtual 144, 3) := by decide +kernel
theorem dX7_isTaken_26 : decode cX7_isTaken 26 = .ok (.ireturn, 1) := by decide +kernel
theorem dX7_judge_0 : decode cX7_judge 0 = .ok (.aload_n 0, 1) := by decide +kernel
theorem dX7_judge_1 : decode cX7_judge 1 = .ok (.iload_n 1, 1) := by decide +kernel
theorem dX7_judge_2 : decode cX7_judge 2 = .ok (.invokevirtual 81, 3) := by decide +kernel
theorem dX7_judge_5 : decode cX7_judge 5 = .ok (.ifCond .eq 10, 3) := by decide +kernel
theorem dX7_judge_8 : decode cX7_judge 8 = .ok (.iload_n 2, 1) := by decide +kernel
theorem dX7_judge_9 : decode cX7_judge 9 = .ok (.invokestatic 102, 3) := by decide +kernel
theorem dX7_judge_12 : decode cX7_judge 12 = .ok (.ifCond .ne 5, 3) := by decide +kernel
theorem dX7_judge_15 : decode cX7_judge 15 = .ok (.iconst (-1), 1) := by decide +kernel
theorem dX7_judge_16 : decode cX7_judge 16 = .ok (.ireturn, 1) := by decide +kernel
theorem dX7_judge_17 : decode cX7_judge 17 = .ok (.aload_n 0, 1) := by decide +kernel
theorem dX7_judge_18 : decode cX7_judge 18 = .ok (.iload_n 1, 1) := by decide +kernel
theorem dX7_judge_19 : decode cX7_judge 19 = .ok (.iload_n 2, 1) := by decide +kernel
theorem dX7_judge_20 : decode cX7_judge 20 = .ok (.aload_n 0, 1) := by decide +kernel
theorem dX7_judge_21 : decode cX7_judge 21 = .ok (.iload_n 1, 1) := by decide +kernel
theorem dX7_judge_22 : decode cX7_judge 22 = .ok (.invokevirtual 105, 3) := by decide +kernel
theorem dX7_judge_25 : decode cX7_judge 25 = .ok (.invokevirtual 158, 3) := by decide +kernel
theorem dX7_judge_28 : decode cX7_judge 28 = .ok (.ifCond .eq 7, 3) := by decide +kernel
theorem dX7_judge_31 : decode cX7_judge 31 = .ok (.iconst 1, 1) := by decide +kernel
theorem dX7_judge_32 : decode cX7_judge 32 = .ok (.goto 4, 3) := by decide +kernel
theorem dX7_judge_35 : decode cX7_judge 35 = .ok (.iconst 0, 1) := by decide +kernel
theorem dX7_judge_36 : decode cX7_judge 36 = .ok (.ireturn, 1) := by decide +kernel
theorem dX7_first_0 : decode cX7_first 0 = .ok (.aload_n 0, 1) := by decide +kernel
theorem dX7_first_1 : decode cX7_first 1 = .ok (.iload_n 1, 1) := by decide +kernel
theorem dX7_first_2 : decode cX7_first 2 = .ok (.invokevirtual 81, 3) := by decide +kernel
theorem dX7_first_5 : decode cX7_first 5 = .ok (.ifCond .eq 24, 3) := by decide +kernel
theorem dX7_first_8 : decode cX7_first 8 = .ok (.iload_n 2, 1) := by decide +kernel
theorem dX7_first_9 : decode cX7_first 9 = .ok (.invokestatic 102, 3) := by decide +kernel
theorem dX7_first_12 : decode cX7_first 12 = .ok (.ifCond .eq 17, 3) := by decide +kernel
theorem dX7_first_15 : decode cX7_first 15 = .ok (.aload_n 0, 1) := by decide +kernel
theorem dX7_first_16 : decode cX7_first 16 = .ok (.iload_n 1, 1) := by decide +kernel
theorem dX7_first_17 : decode cX7_first 17 = .ok (.iload_n 2, 1) := by decide +kernel
theorem dX7_first_18 : decode cX7_first 18 = .ok (.aload_n 0, 1) := by decide +kernel
theorem dX7_first_19 : decode cX7_first 19 = .ok (.iload_n 1, 1) := by decide +kernel
theorem dX7_first_20 : decode cX7_first 20 = .ok (.invokevirtual 105, 3) := by decide +kernel
theorem dX7_first_23 : decode cX7_first 23 = .ok (.invokevirtual 158, 3) := by decide +kernel
theorem dX7_first_26 : decode cX7_first 26 = .ok (.ifCond .ne 5, 3) := by decide +kernel
theorem dX7_first_29 : decode cX7_first 29 = .ok (.iconst (-1), 1) := by decide +kernel
theorem dX7_first_30 : decode cX7_first 30 = .ok (.ireturn, 1) := by decide +kernel
theorem dX7_first_31 : decode cX7_first 31 = .ok (.iload_n 3, 1) := by decide +kernel
theorem dX7_first_32 : decode cX7_first 32 = .ok (.iconst 0, 1) := by decide +kernel
theorem dX7_first_33 : decode cX7_first 33 = .ok (.aload_n 0, 1) := by decide +kernel
theorem dX7_first_34 : decode cX7_first 34 = .ok (.getfield 130, 3) := by decide +kernel
theorem dX7_first_37 : decode cX7_first 37 = .ok (.iconst 1, 1) := by decide +kernel
theorem dX7_first_38 : decode cX7_first 38 = .ok (.isub, 1) := by decide +kernel
theorem dX7_first_39 : decode cX7_first 39 = .ok (.invokestatic 74, 3) := by decide +kernel
theorem dX7_first_42 : decode cX7_first 42 = .ok (.ifCond .eq 12, 3) := by decide +kernel
theorem dX7_first_45 : decode cX7_first 45 = .ok (.aload_n 0, 1) := by decide +kernel
theorem dX7_first_46 : decode cX7_first 46 = .ok (.getfield 52, 3) := by decide +kernel
theorem dX7_first_49 : decode cX7_first 49 = .ok (.iload_n 3, 1) := by decide +kernel
theorem dX7_first_50 : decode cX7_first 50 = .ok (.iaload, 1) := by decide +kernel
theorem dX7_first_51 : decode cX7_first 51 = .ok (.goto 4, 3) := by decide +kernel
theorem dX7_first_54 : decode cX7_first 54 = .ok (.iconst (-1), 1) := by decide +kernel
theorem dX7_first_55 : decode cX7_first 55 = .ok (.ireturn, 1) := by decide +kernel
theorem dX7_orders_0 : decode cX7_orders 0 = .ok (.aload_n 0, 1) := by decide +kernel
theorem dX7_orders_1 : decode cX7_orders 1 = .ok (.iload_n 1, 1) := by decide +kernel
theorem dX7_orders_2 : decode cX7_orders 2 = .ok (.invokevirtual 81, 3) := by decide +kernel
theorem dX7_orders_5 : decode cX7_orders 5 = .ok (.ifCond .eq 10, 3) := by decide +kernel
theorem dX7_orders_8 : decode cX7_orders 8 = .ok (.iload_n 2, 1) := by decide +kernel
theorem dX7_orders_9 : decode cX7_orders 9 = .ok (.invokestatic 102, 3) := by decide +kernel
theorem dX7_orders_12 : decode cX7_orders 12 = .ok (.ifCond .ne 7, 3) := by decide +kernel
theorem dX7_orders_15 : decode cX7_orders 15 = .ok (.ldc2_w 161, 3) := by decide +kernel
theorem dX7_orders_18 : decode cX7_orders 18 = .ok (.lreturn, 1) := by decide +kernel
theorem dX7_orders_19 : decode cX7_orders 19 = .ok (.aload_n 0, 1) := by decide +kernel
theorem dX7_orders_20 : decode cX7_orders 20 = .ok (.iload_n 1, 1) := by decide +kernel
theorem dX7_orders_21 : decode cX7_orders 21 = .ok (.iload_n 2, 1) := by decide +kernel
theorem dX7_orders_22 : decode cX7_orders 22 = .ok (.aload_n 0, 1) := by decide +kernel
theorem dX7_orders_23 : decode cX7_orders 23 = .ok (.iload_n 1, 1) := by decide +kernel
theorem dX7_orders_24 : decode cX7_orders 24 = .ok (.invokevirtual 105, 3) := by decide +kernel
theorem dX7_orders_27 : decode cX7_orders 27 = .ok (.invokevirtual 150, 3) := by decide +kernel
theorem dX7_orders_30 : decode cX7_orders 30 = .ok (.aload_n 0, 1) := by decide +kernel
theorem dX7_orders_31 : decode cX7_orders 31 = .ok (.iconst 1, 1) := by decide +kernel
theorem dX7_orders_32 : decode cX7_orders 32 = .ok (.putfield 127, 3) := by decide +kernel
theorem dX7_orders_35 : decode cX7_orders 35 = .ok (.aload_n 0, 1) := by decide +kernel
theorem dX7_orders_36 : decode cX7_orders 36 = .ok (.lconst 0, 1) := by decide +kernel
theorem dX7_orders_37 : decode cX7_orders 37 = .ok (.putfield 123, 3) := by decide +kernel
theorem dX7_orders_40 : decode cX7_orders 40 = .ok (.aload_n 0, 1) := by decide +kernel
theorem dX7_orders_41 : decode cX7_orders 41 = .ok (.iload_n 1, 1) := by decide +kernel
theorem dX7_orders_42 : decode cX7_orders 42 = .ok (.aload_n 0, 1) := by decide +kernel
theorem dX7_orders_43 : decode cX7_orders 43 = .ok (.iload_n 1, 1) := by decide +kernel
theorem dX7_orders_44 : decode cX7_orders 44 = .ok (.invokevirtual 105, 3) := by decide +kernel
theorem dX7_orders_47 : decode cX7_orders 47 = .ok (.aload_n 0, 1) := by decide +kernel
theorem dX7_orders_48 : decode cX7_orders 48 = .ok (.iload_n 1, 1) := by decide +kernel
theorem dX7_orders_49 : decode cX7_orders 49 = .ok (.aload_n 0, 1) := by decide +kernel
theorem dX7_orders_50 : decode cX7_orders 50 = .ok (.iload_n 1, 1) := by decide +kernel
theorem dX7_orders_51 : decode cX7_orders 51 = .ok (.invokevirtual 105, 3) := by decide +kernel
theorem dX7_orders_54 : decode cX7_orders 54 = .ok (.invokevirtual 154, 3) := by decide +kernel
theorem dX7_orders_57 : decode cX7_orders 57 = .ok (.iconst 0, 1) := by decide +kernel
theorem dX7_orders_58 : decode cX7_orders 58 = .ok (.iconst 0, 1) := by decide +kernel
theorem dX7_orders_59 : decode cX7_orders 59 = .ok (.invokevirtual 144, 3) := by decide +kernel
theorem dX7_orders_62 : decode cX7_orders 62 = .ok (.istore_n 3, 1) := by decide +kernel
theorem dX7_orders_63 : decode cX7_orders 63 = .ok (.aload_n 0, 1) := by decide +kernel
theorem dX7_orders_64 : decode cX7_orders 64 = .ok (.getfield 123, 3) := by decide +kernel
theorem dX7_orders_67 : decode cX7_orders 67 = .ok (.lreturn, 1) := by decide +kernel
theorem dX7_least_0 : decode cX7_least 0 = .ok (.aload_n 0, 1) := by decide +kernel
theorem dX7_least_1 : decode cX7_least 1 = .ok (.iload_n 1, 1) := by decide +kernel
theorem dX7_least_2 : decode cX7_least 2 = .ok (.invokevirtual 81, 3) := by decide +kernel
theorem dX7_least_5 : decode cX7_least 5 = .ok (.ifCond .eq 10, 3) := by decide +kernel
theorem dX7_least_8 : decode cX7_least 8 = .ok (.iload_n 2, 1) := by decide +kernel
theorem dX7_least_9 : decode cX7_least 9 = .ok (.invokestatic 102, 3) := by decide +kernel
theorem dX7_least_12 : decode cX7_least 12 = .ok (.ifCond .ne 5, 3) := by decide +kernel
theorem dX7_least_15 : decode cX7_least 15 = .ok (.iconst (-1), 1) := by decide +kernel
theorem dX7_least_16 : decode cX7_least 16 = .ok (.ireturn, 1) := by decide +kernel
theorem dX7_least_17 : decode cX7_least 17 = .ok (.aload_n 0, 1) := by decide +kernel
theorem dX7_least_18 : decode cX7_least 18 = .ok (.iload_n 1, 1) := by decide +kernel
theorem dX7_least_19 : decode cX7_least 19 = .ok (.invokevirtual 105, 3) := by decide +kernel
theorem dX7_least_22 : decode cX7_least 22 = .ok (.istore_n 3, 1) := by decide +kernel
theorem dX7_least_23 : decode cX7_least 23 = .ok (.aload_n 0, 1) := by decide +kernel
theorem dX7_least_24 : decode cX7_least 24 = .ok (.iconst 0, 1) := by decide +kernel
theorem dX7_least_25 : decode cX7_least 25 = .ok (.putfield 163, 3) := by decide +kernel
theorem dX7_least_28 : decode cX7_least 28 = .ok (.aload_n 0, 1) := by decide +kernel
theorem dX7_least_29 : decode cX7_least 29 = .ok (.iload_n 1, 1) := by decide +kernel
theorem dX7_least_30 : decode cX7_least 30 = .ok (.iload_n 2, 1) := by decide +kernel
theorem dX7_least_31 : decode cX7_least 31 = .ok (.iload_n 3, 1) := by decide +kernel
theorem dX7_least_32 : decode cX7_least 32 = .ok (.invokevirtual 158, 3) := by decide +kernel
theorem dX7_least_35 : decode cX7_least 35 = .ok (.ifCond .eq 5, 3) := by decide +kernel
theorem dX7_least_38 : decode cX7_least 38 = .ok (.iconst 0, 1) := by decide +kernel
theorem dX7_least_39 : decode cX7_least 39 = .ok (.ireturn, 1) := by decide +kernel
theorem dX7_least_40 : decode cX7_least 40 = .ok (.iconst 0, 1) := by decide +kernel
theorem dX7_least_41 : decode cX7_least 41 = .ok (.istore 4, 2) := by decide +kernel
theorem dX7_least_43 : decode cX7_least 43 = .ok (.iload_n 3, 1) := by decide +kernel
theorem dX7_least_44 : decode cX7_least 44 = .ok (.iload 4, 2) := by decide +kernel
theorem dX7_least_46 : decode cX7_least 46 = .ok (.if_icmp .eq 65, 3) := by decide +kernel
theorem dX7_least_49 : decode cX7_least 49 = .ok (.iload_n 3, 1) := by decide +kernel
theorem dX7_least_50 : decode cX7_least 50 = .ok (.istore 4, 2) := by decide +kernel
theorem dX7_least_52 : decode cX7_least 52 = .ok (.iconst 0, 1) := by decide +kernel
theorem dX7_least_53 : decode cX7_least 53 = .ok (.istore 5, 2) := by decide +kernel
theorem dX7_least_55 : decode cX7_least 55 = .ok (.iload 5, 2) := by decide +kernel
theorem dX7_least_57 : decode cX7_least 57 = .ok (.aload_n 0, 1) := by decide +kernel
theorem dX7_least_58 : decode cX7_least 58 = .ok (.getfield 22, 3) := by decide +kernel
theorem dX7_least_61 : decode cX7_least 61 = .ok (.iload_n 1, 1) := by decide +kernel
theorem dX7_least_62 : decode cX7_least 62 = .ok (.iaload, 1) := by decide +kernel
theorem dX7_least_63 : decode cX7_least 63 = .ok (.if_icmp .ge 45, 3) := by decide +kernel
theorem dX7_least_66 : decode cX7_least 66 = .ok (.iload_n 3, 1) := by decide +kernel
theorem dX7_least_67 : decode cX7_least 67 = .ok (.iload 5, 2) := by decide +kernel
theorem dX7_least_69 : decode cX7_least 69 = .ok (.ishr, 1) := by decide +kernel
theorem dX7_least_70 : decode cX7_least 70 = .ok (.iconst 1, 1) := by decide +kernel
theorem dX7_least_71 : decode cX7_least 71 = .ok (.iand, 1) := by decide +kernel
theorem dX7_least_72 : decode cX7_least 72 = .ok (.iconst 1, 1) := by decide +kernel
theorem dX7_least_73 : decode cX7_least 73 = .ok (.if_icmp .ne 29, 3) := by decide +kernel
theorem dX7_least_76 : decode cX7_least 76 = .ok (.aload_n 0, 1) := by decide +kernel
theorem dX7_least_77 : decode cX7_least 77 = .ok (.iload_n 1, 1) := by decide +kernel
theorem dX7_least_78 : decode cX7_least 78 = .ok (.iload_n 2, 1) := by decide +kernel
theorem dX7_least_79 : decode cX7_least 79 = .ok (.iload_n 3, 1) := by decide +kernel
theorem dX7_least_80 : decode cX7_least 80 = .ok (.iconst 1, 1) := by decide +kernel
theorem dX7_least_81 : decode cX7_least 81 = .ok (.iload 5, 2) := by decide +kernel
theorem dX7_least_83 : decode cX7_least 83 = .ok (.ishl, 1) := by decide +kernel
theorem dX7_least_84 : decode cX7_least 84 = .ok (.iconst (-1), 1) := by decide +kernel
theorem dX7_least_85 : decode cX7_least 85 = .ok (.ixor, 1) := by decide +kernel
theorem dX7_least_86 : decode cX7_least 86 = .ok (.iand, 1) := by decide +kernel
theorem dX7_least_87 : decode cX7_least 87 = .ok (.invokevirtual 158, 3) := by decide +kernel
theorem dX7_least_90 : decode cX7_least 90 = .ok (.ifCond .ne 12, 3) := by decide +kernel
theorem dX7_least_93 : decode cX7_least 93 = .ok (.iload_n 3, 1) := by decide +kernel
theorem dX7_least_94 : decode cX7_least 94 = .ok (.iconst 1, 1) := by decide +kernel
theorem dX7_least_95 : decode cX7_least 95 = .ok (.iload 5, 2) := by decide +kernel
theorem dX7_least_97 : decode cX7_least 97 = .ok (.ishl, 1) := by decide +kernel
theorem dX7_least_98 : decode cX7_least 98 = .ok (.iconst (-1), 1) := by decide +kernel
theorem dX7_least_99 : decode cX7_least 99 = .ok (.ixor, 1) := by decide +kernel
theorem dX7_least_100 : decode cX7_least 100 = .ok (.iand, 1) := by decide +kernel
theorem dX7_least_101 : decode cX7_least 101 = .ok (.istore_n 3, 1) := by decide +kernel
theorem dX7_least_102 : decode cX7_least 102 = .ok (.iinc 5 1, 3) := by decide +kernel
theorem dX7_least_105 : decode cX7_least 105 = .ok (.goto (-50), 3) := by decide +kernel
theorem dX7_least_108 : decode cX7_least 108 = .ok (.goto (-65), 3) := by decide +kernel
theorem dX7_least_111 : decode cX7_least 111 = .ok (.aload_n 0, 1) := by decide +kernel
theorem dX7_least_112 : decode cX7_least 112 = .ok (.iload_n 3, 1) := by decide +kernel
theorem dX7_least_113 : decode cX7_least 113 = .ok (.putfield 163, 3) := by decide +kernel
theorem dX7_least_116 : decode cX7_least 116 = .ok (.iconst 0, 1) := by decide +kernel
theorem dX7_least_117 : decode cX7_least 117 = .ok (.istore 5, 2) := by decide +kernel
theorem dX7_least_119 : decode cX7_least 119 = .ok (.iconst 0, 1) := by decide +kernel
theorem dX7_least_120 : decode cX7_least 120 = .ok (.istore 6, 2) := by decide +kernel
theorem dX7_least_122 : decode cX7_least 122 = .ok (.iload 6, 2) := by decide +kernel
theorem dX7_least_124 : decode cX7_least 124 = .ok (.bipush 10, 2) := by decide +kernel
theorem dX7_least_126 : decode cX7_least 126 = .ok (.if_icmp .ge 20, 3) := by decide +kernel
theorem dX7_least_129 : decode cX7_least 129 = .ok (.iload 5, 2) := by decide +kernel
theorem dX7_least_131 : decode cX7_least 131 = .ok (.iload_n 3, 1) := by decide +kernel
theorem dX7_least_132 : decode cX7_least 132 = .ok (.iload 6, 2) := by decide +kernel
theorem dX7_least_134 : decode cX7_least 134 = .ok (.ishr, 1) := by decide +kernel
theorem dX7_least_135 : decode cX7_least 135 = .ok (.iconst 1, 1) := by decide +kernel
theorem dX7_least_136 : decode cX7_least 136 = .ok (.iand, 1) := by decide +kernel
theorem dX7_least_137 : decode cX7_least 137 = .ok (.iadd, 1) := by decide +kernel
theorem dX7_least_138 : decode cX7_least 138 = .ok (.istore 5, 2) := by decide +kernel
theorem dX7_least_140 : decode cX7_least 140 = .ok (.iinc 6 1, 3) := by decide +kernel
theorem dX7_least_143 : decode cX7_least 143 = .ok (.goto (-21), 3) := by decide +kernel
theorem dX7_least_146 : decode cX7_least 146 = .ok (.iload 5, 2) := by decide +kernel
theorem dX7_least_148 : decode cX7_least 148 = .ok (.ireturn, 1) := by decide +kernel
theorem dX7_part_0 : decode cX7_part 0 = .ok (.iconst 0, 1) := by decide +kernel
theorem dX7_part_1 : decode cX7_part 1 = .ok (.istore_n 2, 1) := by decide +kernel
theorem dX7_part_2 : decode cX7_part 2 = .ok (.iconst 0, 1) := by decide +kernel
theorem dX7_part_3 : decode cX7_part 3 = .ok (.istore_n 3, 1) := by decide +kernel
theorem dX7_part_4 : decode cX7_part 4 = .ok (.iload_n 3, 1) := by decide +kernel
theorem dX7_part_5 : decode cX7_part 5 = .ok (.bipush 10, 2) := by decide +kernel
theorem dX7_part_7 : decode cX7_part 7 = .ok (.if_icmp .ge 33, 3) := by decide +kernel
theorem dX7_part_10 : decode cX7_part 10 = .ok (.aload_n 0, 1) := by decide +kernel
theorem dX7_part_11 : decode cX7_part 11 = .ok (.getfield 163, 3) := by decide +kernel
theorem dX7_part_14 : decode cX7_part 14 = .ok (.iload_n 3, 1) := by decide +kernel
theorem dX7_part_15 : decode cX7_part 15 = .ok (.ishr, 1) := by decide +kernel
theorem dX7_part_16 : decode cX7_part 16 = .ok (.iconst 1, 1) := by decide +kernel
theorem dX7_part_17 : decode cX7_part 17 = .ok (.iand, 1) := by decide +kernel
theorem dX7_part_18 : decode cX7_part 18 = .ok (.ifCond .ne 6, 3) := by decide +kernel
theorem dX7_part_21 : decode cX7_part 21 = .ok (.goto 13, 3) := by decide +kernel
theorem dX7_part_24 : decode cX7_part 24 = .ok (.iload_n 2, 1) := by decide +kernel
theorem dX7_part_25 : decode cX7_part 25 = .ok (.iload_n 1, 1) := by decide +kernel
theorem dX7_part_26 : decode cX7_part 26 = .ok (.if_icmp .ne 5, 3) := by decide +kernel
theorem dX7_part_29 : decode cX7_part 29 = .ok (.iload_n 3, 1) := by decide +kernel
theorem dX7_part_30 : decode cX7_part 30 = .ok (.ireturn, 1) := by decide +kernel
theorem dX7_part_31 : decode cX7_part 31 = .ok (.iinc 2 1, 3) := by decide +kernel
theorem dX7_part_34 : decode cX7_part 34 = .ok (.iinc 3 1, 3) := by decide +kernel
theorem dX7_part_37 : decode cX7_part 37 = .ok (.goto (-33), 3) := by decide +kernel
theorem dX7_part_40 : decode cX7_part 40 = .ok (.iconst (-1), 1) := by decide +kernel
theorem dX7_part_41 : decode cX7_part 41 = .ok (.ireturn, 1) := by decide +kernel
theorem dX7_fills_0 : decode cX7_fills 0 = .ok (.aload_n 0, 1) := by decide +kernel
theorem dX7_fills_1 : decode cX7_fills 1 = .ok (.iload_n 1, 1) := by decide +kernel
theorem dX7_fills_2 : decode cX7_fills 2 = .ok (.iload_n 3, 1) := by decide +kernel
theorem dX7_fills_3 : decode cX7_fills 3 = .ok (.invokevirtual 93, 3) := by decide +kernel
theorem dX7_fills_6 : decode cX7_fills 6 = .ok (.ifCond .eq 10, 3) := by decide +kernel
theorem dX7_fills_9 : decode cX7_fills 9 = .ok (.iload_n 2, 1) := by decide +kernel
theorem dX7_fills_10 : decode cX7_fills 10 = .ok (.invokestatic 102, 3) := by decide +kernel
theorem dX7_fills_13 : decode cX7_fills 13 = .ok (.ifCond .ne 5, 3) := by decide +kernel
theorem dX7_fills_16 : decode cX7_fills 16 = .ok (.iconst (-1), 1) := by decide +kernel
theorem dX7_fills_17 : decode cX7_fills 17 = .ok (.ireturn, 1) := by decide +kernel
theorem dX7_fills_18 : decode cX7_fills 18 = .ok (.aload_n 0, 1) := by decide +kernel
theorem dX7_fills_19 : decode cX7_fills 19 = .ok (.iload_n 1, 1) := by decide +kernel
theorem dX7_fills_20 : decode cX7_fills 20 = .ok (.iload_n 3, 1) := by decide +kernel
theorem dX7_fills_21 : decode cX7_fills 21 = .ok (.invokevirtual 89, 3) := by decide +kernel
theorem dX7_fills_24 : decode cX7_fills 24 = .ok (.ifCond .ne 6, 3) := by decide +kernel
theorem dX7_fills_27 : decode cX7_fills 27 = .ok (.bipush (-3), 2) := by decide +kernel
theorem dX7_fills_29 : decode cX7_fills 29 = .ok (.ireturn, 1) := by decide +kernel
theorem dX7_fills_30 : decode cX7_fills 30 = .ok (.aload_n 0, 1) := by decide +kernel
theorem dX7_fills_31 : decode cX7_fills 31 = .ok (.iload_n 1, 1) := by decide +kernel
theorem dX7_fills_32 : decode cX7_fills 32 = .ok (.iload_n 2, 1) := by decide +kernel
theorem dX7_fills_33 : decode cX7_fills 33 = .ok (.aload_n 0, 1) := by decide +kernel
theorem dX7_fills_34 : decode cX7_fills 34 = .ok (.iload_n 1, 1) := by decide +kernel
theorem dX7_fills_35 : decode cX7_fills 35 = .ok (.invokevirtual 105, 3) := by decide +kernel
theorem dX7_fills_38 : decode cX7_fills 38 = .ok (.invokevirtual 150, 3) := by decide +kernel
theorem dX7_fills_41 : decode cX7_fills 41 = .ok (.aload_n 0, 1) := by decide +kernel
theorem dX7_fills_42 : decode cX7_fills 42 = .ok (.iconst 2, 1) := by decide +kernel
theorem dX7_fills_43 : decode cX7_fills 43 = .ok (.putfield 127, 3) := by decide +kernel
theorem dX7_fills_46 : decode cX7_fills 46 = .ok (.aload_n 0, 1) := by decide +kernel
theorem dX7_fills_47 : decode cX7_fills 47 = .ok (.iload_n 3, 1) := by decide +kernel
theorem dX7_fills_48 : decode cX7_fills 48 = .ok (.putfield 133, 3) := by decide +kernel
theorem dX7_fills_51 : decode cX7_fills 51 = .ok (.aload_n 0, 1) := by decide +kernel
theorem dX7_fills_52 : decode cX7_fills 52 = .ok (.iconst 0, 1) := by decide +kernel
theorem dX7_fills_53 : decode cX7_fills 53 = .ok (.putfield 147, 3) := by decide +kernel
theorem dX7_fills_56 : decode cX7_fills 56 = .ok (.aload_n 0, 1) := by decide +kernel
theorem dX7_fills_57 : decode cX7_fills 57 = .ok (.iload_n 1, 1) := by decide +kernel
theorem dX7_fills_58 : decode cX7_fills 58 = .ok (.aload_n 0, 1) := by decide +kernel
theorem dX7_fills_59 : decode cX7_fills 59 = .ok (.iload_n 1, 1) := by decide +kernel
theorem dX7_fills_60 : decode cX7_fills 60 = .ok (.invokevirtual 105, 3) := by decide +kernel
theorem dX7_fills_63 : decode cX7_fills 63 = .ok (.aload_n 0, 1) := by decide +kernel
theorem dX7_fills_64 : decode cX7_fills 64 = .ok (.iload_n 1, 1) := by decide +kernel
theorem dX7_fills_65 : decode cX7_fills 65 = .ok (.aload_n 0, 1) := by decide +kernel
theorem dX7_fills_66 : decode cX7_fills 66 = .ok (.iload_n 1, 1) := by decide +kernel
theorem dX7_fills_67 : decode cX7_fills 67 = .ok (.invokevirtual 105, 3) := by decide +kernel
theorem dX7_fills_70 : decode cX7_fills 70 = .ok (.invokevirtual 154, 3) := by decide +kernel
theorem dX7_fills_73 : decode cX7_fills 73 = .ok (.iconst 0, 1) := by decide +kernel
theorem dX7_fills_74 : decode cX7_fills 74 = .ok (.iconst 0, 1) := by decide +kernel
theorem dX7_fills_75 : decode cX7_fills 75 = .ok (.invokevirtual 144, 3) := by decide +kernel
theorem dX7_fills_78 : decode cX7_fills 78 = .ok (.istore 4, 2) := by decide +kernel
theorem dX7_fills_80 : decode cX7_fills 80 = .ok (.aload_n 0, 1) := by decide +kernel
theorem dX7_fills_81 : decode cX7_fills 81 = .ok (.getfield 147, 3) := by decide +kernel
theorem dX7_fills_84 : decode cX7_fills 84 = .ok (.ireturn, 1) := by decide +kernel
theorem dX7_fill__0 : decode cX7_fill_ 0 = .ok (.aload_n 0, 1) := by decide +kernel
theorem dX7_fill__1 : decode cX7_fill_ 1 = .ok (.iload_n 1, 1) := by decide +kernel
theorem dX7_fill__2 : decode cX7_fill_ 2 = .ok (.iconst 0, 1) := by decide +kernel
theorem dX7_fill__3 : decode cX7_fill_ 3 = .ok (.aload_n 0, 1) := by decide +kernel
theorem dX7_fill__4 : decode cX7_fill_ 4 = .ok (.getfield 147, 3) := by decide +kernel
theorem dX7_fill__7 : decode cX7_fill_ 7 = .ok (.iconst 1, 1) := by decide +kernel
theorem dX7_fill__8 : decode cX7_fill_ 8 = .ok (.isub, 1) := by decide +kernel
theorem dX7_fill__9 : decode cX7_fill_ 9 = .ok (.invokestatic 74, 3) := by decide +kernel
theorem dX7_fill__12 : decode cX7_fill_ 12 = .ok (.ifCond .eq 7, 3) := by decide +kernel
theorem dX7_fill__15 : decode cX7_fill_ 15 = .ok (.iconst 0, 1) := by decide +kernel
theorem dX7_fill__16 : decode cX7_fill_ 16 = .ok (.goto 4, 3) := by decide +kernel
theorem dX7_fill__19 : decode cX7_fill_ 19 = .ok (.iconst (-1), 1) := by decide +kernel
theorem dX7_fill__20 : decode cX7_fill_ 20 = .ok (.putfield 96, 3) := by decide +kernel
theorem dX7_fill__23 : decode cX7_fill_ 23 = .ok (.aload_n 0, 1) := by decide +kernel
theorem dX7_fill__24 : decode cX7_fill_ 24 = .ok (.getfield 96, 3) := by decide +kernel
theorem dX7_fill__27 : decode cX7_fill_ 27 = .ok (.ifCond .ne 12, 3) := by decide +kernel
theorem dX7_fill__30 : decode cX7_fill_ 30 = .ok (.aload_n 0, 1) := by decide +kernel
theorem dX7_fill__31 : decode cX7_fill_ 31 = .ok (.getfield 61, 3) := by decide +kernel
theorem dX7_fill__34 : decode cX7_fill_ 34 = .ok (.iload_n 1, 1) := by decide +kernel
theorem dX7_fill__35 : decode cX7_fill_ 35 = .ok (.iaload, 1) := by decide +kernel
theorem dX7_fill__36 : decode cX7_fill_ 36 = .ok (.goto 4, 3) := by decide +kernel
theorem dX7_fill__39 : decode cX7_fill_ 39 = .ok (.iconst 0, 1) := by decide +kernel
theorem dX7_fill__40 : decode cX7_fill_ 40 = .ok (.ireturn, 1) := by decide +kernel
theorem dX7_apart_0 : decode cX7_apart 0 = .ok (.aload_n 0, 1) := by decide +kernel
theorem dX7_apart_1 : decode cX7_apart 1 = .ok (.iload_n 1, 1) := by decide +kernel
theorem dX7_apart_2 : decode cX7_apart 2 = .ok (.invokevirtual 81, 3) := by decide +kernel
theorem dX7_apart_5 : decode cX7_apart 5 = .ok (.ifCond .eq 29, 3) := by decide +kernel
theorem dX7_apart_8 : decode cX7_apart 8 = .ok (.iload_n 2, 1) := by decide +kernel
theorem dX7_apart_9 : decode cX7_apart 9 = .ok (.invokestatic 102, 3) := by decide +kernel
theorem dX7_apart_12 : decode cX7_apart 12 = .ok (.ifCond .eq 22, 3) := by decide +kernel
theorem dX7_apart_15 : decode cX7_apart 15 = .ok (.aload_n 0, 1) := by decide +kernel
theorem dX7_apart_16 : decode cX7_apart 16 = .ok (.getfield 16, 3) := by decide +kernel
theorem dX7_apart_19 : decode cX7_apart 19 = .ok (.iload_n 1, 1) := by decide +kernel
theorem dX7_apart_20 : decode cX7_apart 20 = .ok (.iaload, 1) := by decide +kernel
theorem dX7_apart_21 : decode cX7_apart 21 = .ok (.iconst 5, 1) := by decide +kernel
theorem dX7_apart_22 : decode cX7_apart 22 = .ok (.if_icmp .ne 12, 3) := by decide +kernel
theorem dX7_apart_25 : decode cX7_apart 25 = .ok (.iload_n 3, 1) := by decide +kernel
theorem dX7_apart_26 : decode cX7_apart 26 = .ok (.iconst 0, 1) := by decide +kernel
theorem dX7_apart_27 : decode cX7_apart 27 = .ok (.iconst 3, 1) := by decide +kernel
theorem dX7_apart_28 : decode cX7_apart 28 = .ok (.invokestatic 74, 3) := by decide +kernel
theorem dX7_apart_31 : decode cX7_apart 31 = .ok (.ifCond .ne 5, 3) := by decide +kernel
theorem dX7_apart_34 : decode cX7_apart 34 = .ok (.iconst (-1), 1) := by decide +kernel
theorem dX7_apart_35 : decode cX7_apart 35 = .ok (.ireturn, 1) := by decide +kernel
theorem dX7_apart_36 : decode cX7_apart 36 = .ok (.iconst 0, 1) := by decide +kernel
theorem dX7_apart_37 : decode cX7_apart 37 = .ok (.istore 4, 2) := by decide +kernel
theorem dX7_apart_39 : decode cX7_apart 39 = .ok (.iconst 0, 1) := by decide +kernel
theorem dX7_apart_40 : decode cX7_apart 40 = .ok (.istore 5, 2) := by decide +kernel
theorem dX7_apart_42 : decode cX7_apart 42 = .ok (.iload 5, 2) := by decide +kernel
theorem dX7_apart_44 : decode cX7_apart 44 = .ok (.aload_n 0, 1) := by decide +kernel
theorem dX7_apart_45 : decode cX7_apart 45 = .ok (.getfield 22, 3) := by decide +kernel
theorem dX7_apart_48 : decode cX7_apart 48 = .ok (.iload_n 1, 1) := by decide +kernel
theorem dX7_apart_49 : decode cX7_apart 49 = .ok (.iaload, 1) := by decide +kernel
theorem dX7_apart_50 : decode cX7_apart 50 = .ok (.if_icmp .ge 38, 3) := by decide +kernel
theorem dX7_apart_53 : decode cX7_apart 53 = .ok (.iload 4, 2) := by decide +kernel
theorem dX7_apart_55 : decode cX7_apart 55 = .ok (.aload_n 0, 1) := by decide +kernel
theorem dX7_apart_56 : decode cX7_apart 56 = .ok (.getfield 34, 3) := by decide +kernel
theorem dX7_apart_59 : decode cX7_apart 59 = .ok (.bipush 10, 2) := by decide +kernel
theorem dX7_apart_61 : decode cX7_apart 61 = .ok (.iload_n 1, 1) := by decide +kernel
theorem dX7_apart_62 : decode cX7_apart 62 = .ok (.imul, 1) := by decide +kernel
theorem dX7_apart_63 : decode cX7_apart 63 = .ok (.iload 5, 2) := by decide +kernel
theorem dX7_apart_65 : decode cX7_apart 65 = .ok (.iadd, 1) := by decide +kernel
theorem dX7_apart_66 : decode cX7_apart 66 = .ok (.iaload, 1) := by decide +kernel
theorem dX7_apart_67 : decode cX7_apart 67 = .ok (.iload_n 3, 1) := by decide +kernel
theorem dX7_apart_68 : decode cX7_apart 68 = .ok (.if_icmp .ne 10, 3) := by decide +kernel
theorem dX7_apart_71 : decode cX7_apart 71 = .ok (.iconst 1, 1) := by decide +kernel
theorem dX7_apart_72 : decode cX7_apart 72 = .ok (.iload 5, 2) := by decide +kernel
theorem dX7_apart_74 : decode cX7_apart 74 = .ok (.ishl, 1) := by decide +kernel
theorem dX7_apart_75 : decode cX7_apart 75 = .ok (.goto 4, 3) := by decide +kernel
theorem dX7_apart_78 : decode cX7_apart 78 = .ok (.iconst 0, 1) := by decide +kernel
theorem dX7_apart_79 : decode cX7_apart 79 = .ok (.ior, 1) := by decide +kernel
theorem dX7_apart_80 : decode cX7_apart 80 = .ok (.istore 4, 2) := by decide +kernel
theorem dX7_apart_82 : decode cX7_apart 82 = .ok (.iinc 5 1, 3) := by decide +kernel
theorem dX7_apart_85 : decode cX7_apart 85 = .ok (.goto (-43), 3) := by decide +kernel
theorem dX7_apart_88 : decode cX7_apart 88 = .ok (.aload_n 0, 1) := by decide +kernel
theorem dX7_apart_89 : decode cX7_apart 89 = .ok (.iload_n 1, 1) := by decide +kernel
theorem dX7_apart_90 : decode cX7_apart 90 = .ok (.iload_n 2, 1) := by decide +kernel
theorem dX7_apart_91 : decode cX7_apart 91 = .ok (.iload 4, 2) := by decide +kernel
theorem dX7_apart_93 : decode cX7_apart 93 = .ok (.invokevirtual 158, 3) := by decide +kernel
theorem dX7_apart_96 : decode cX7_apart 96 = .ok (.ifCond .eq 7, 3) := by decide +kernel
theorem dX7_apart_99 : decode cX7_apart 99 = .ok (.iconst 1, 1) := by decide +kernel
theorem dX7_apart_100 : decode cX7_apart 100 = .ok (.goto 4, 3) := by decide +kernel
theorem dX7_apart_103 : decode cX7_apart 103 = .ok (.iconst 0, 1) := by decide +kernel
theorem dX7_apart_104 : decode cX7_apart 104 = .ok (.ireturn, 1) := by decide +kernel
theorem dX7_rules_0 : decode cX7_rules 0 = .ok (.aload_n 0, 1) := by decide +kernel
theorem dX7_rules_1 : decode cX7_rules 1 = .ok (.iload_n 1, 1) := by decide +kernel
theorem dX7_rules_2 : decode cX7_rules 2 = .ok (.invokevirtual 81, 3) := by decide +kernel
theorem dX7_rules_5 : decode cX7_rules 5 = .ok (.ifCond .ne 5, 3) := by decide +kernel
theorem dX7_rules_8 : decode cX7_rules 8 = .ok (.iconst (-1), 1) := by decide +kernel
theorem dX7_rules_9 : decode cX7_rules 9 = .ok (.ireturn, 1) := by decide +kernel
theorem dX7_rules_10 : decode cX7_rules 10 = .ok (.iconst 0, 1) := by decide +kernel
theorem dX7_rules_11 : decode cX7_rules 11 = .ok (.istore_n 2, 1) := by decide +kernel
theorem dX7_rules_12 : decode cX7_rules 12 = .ok (.iconst 0, 1) := by decide +kernel
theorem dX7_rules_13 : decode cX7_rules 13 = .ok (.istore_n 3, 1) := by decide +kernel
theorem dX7_rules_14 : decode cX7_rules 14 = .ok (.iload_n 3, 1) := by decide +kernel
theorem dX7_rules_15 : decode cX7_rules 15 = .ok (.iconst 3, 1) := by decide +kernel
theorem dX7_rules_16 : decode cX7_rules 16 = .ok (.if_icmp .ge 33, 3) := by decide +kernel
theorem dX7_rules_19 : decode cX7_rules 19 = .ok (.iload_n 2, 1) := by decide +kernel
theorem dX7_rules_20 : decode cX7_rules 20 = .ok (.aload_n 0, 1) := by decide +kernel
theorem dX7_rules_21 : decode cX7_rules 21 = .ok (.iload_n 1, 1) := by decide +kernel
theorem dX7_rules_22 : decode cX7_rules 22 = .ok (.iload_n 3, 1) := by decide +kernel
theorem dX7_rules_23 : decode cX7_rules 23 = .ok (.aload_n 0, 1) := by decide +kernel
theorem dX7_rules_24 : decode cX7_rules 24 = .ok (.iload_n 1, 1) := by decide +kernel
theorem dX7_rules_25 : decode cX7_rules 25 = .ok (.invokevirtual 105, 3) := by decide +kernel
theorem dX7_rules_28 : decode cX7_rules 28 = .ok (.invokevirtual 158, 3) := by decide +kernel
theorem dX7_rules_31 : decode cX7_rules 31 = .ok (.ifCond .eq 9, 3) := by decide +kernel
theorem dX7_rules_34 : decode cX7_rules 34 = .ok (.iconst 1, 1) := by decide +kernel
theorem dX7_rules_35 : decode cX7_rules 35 = .ok (.iload_n 3, 1) := by decide +kernel
theorem dX7_rules_36 : decode cX7_rules 36 = .ok (.ishl, 1) := by decide +kernel
theorem dX7_rules_37 : decode cX7_rules 37 = .ok (.goto 4, 3) := by decide +kernel
theorem dX7_rules_40 : decode cX7_rules 40 = .ok (.iconst 0, 1) := by decide +kernel
theorem dX7_rules_41 : decode cX7_rules 41 = .ok (.ior, 1) := by decide +kernel
theorem dX7_rules_42 : decode cX7_rules 42 = .ok (.istore_n 2, 1) := by decide +kernel
theorem dX7_rules_43 : decode cX7_rules 43 = .ok (.iinc 3 1, 3) := by decide +kernel
theorem dX7_rules_46 : decode cX7_rules 46 = .ok (.goto (-32), 3) := by decide +kernel
theorem dX7_rules_49 : decode cX7_rules 49 = .ok (.iload_n 2, 1) := by decide +kernel
theorem dX7_rules_50 : decode cX7_rules 50 = .ok (.ireturn, 1) := by decide +kernel
theorem dX7_say_0 : decode cX7_say 0 = .ok (.iload_n 1, 1) := by decide +kernel
theorem dX7_say_1 : decode cX7_say 1 = .ok (.iconst 0, 1) := by decide +kernel
theorem dX7_say_2 : decode cX7_say 2 = .ok (.bipush 9, 2) := by decide +kernel
theorem dX7_say_4 : decode cX7_say 4 = .ok (.invokestatic 74, 3) := by decide +kernel
theorem dX7_say_7 : decode cX7_say 7 = .ok (.ifCond .ne 6, 3) := by decide +kernel
theorem dX7_say_10 : decode cX7_say 10 = .ok (.bipush (-2), 2) := by decide +kernel
theorem dX7_say_12 : decode cX7_say 12 = .ok (.ireturn, 1) := by decide +kernel
theorem dX7_say_13 : decode cX7_say 13 = .ok (.aload_n 0, 1) := by decide +kernel
theorem dX7_say_14 : decode cX7_say 14 = .ok (.getfield 166, 3) := by decide +kernel
theorem dX7_say_17 : decode cX7_say 17 = .ok (.bipush 10, 2) := by decide +kernel
theorem dX7_say_19 : decode cX7_say 19 = .ok (.if_icmp .ne 6, 3) := by decide +kernel
theorem dX7_say_22 : decode cX7_say 22 = .ok (.bipush (-4), 2) := by decide +kernel
theorem dX7_say_24 : decode cX7_say 24 = .ok (.ireturn, 1) := by decide +kernel
theorem dX7_say_25 : decode cX7_say 25 = .ok (.aload_n 0, 1) := by decide +kernel
theorem dX7_say_26 : decode cX7_say 26 = .ok (.getfield 64, 3) := by decide +kernel
theorem dX7_say_29 : decode cX7_say 29 = .ok (.aload_n 0, 1) := by decide +kernel
theorem dX7_say_30 : decode cX7_say 30 = .ok (.getfield 166, 3) := by decide +kernel
theorem dX7_say_33 : decode cX7_say 33 = .ok (.iload_n 1, 1) := by decide +kernel
theorem dX7_say_34 : decode cX7_say 34 = .ok (.iastore, 1) := by decide +kernel
theorem dX7_say_35 : decode cX7_say 35 = .ok (.aload_n 0, 1) := by decide +kernel
theorem dX7_say_36 : decode cX7_say 36 = .ok (.dup, 1) := by decide +kernel
theorem dX7_say_37 : decode cX7_say 37 = .ok (.getfield 166, 3) := by decide +kernel
theorem dX7_say_40 : decode cX7_say 40 = .ok (.iconst 1, 1) := by decide +kernel
theorem dX7_say_41 : decode cX7_say 41 = .ok (.iadd, 1) := by decide +kernel
theorem dX7_say_42 : decode cX7_say 42 = .ok (.putfield 166, 3) := by decide +kernel
theorem dX7_say_45 : decode cX7_say 45 = .ok (.aload_n 0, 1) := by decide +kernel
theorem dX7_say_46 : decode cX7_say 46 = .ok (.getfield 166, 3) := by decide +kernel
theorem dX7_say_49 : decode cX7_say 49 = .ok (.ireturn, 1) := by decide +kernel
theorem dX7_check_0 : decode cX7_check 0 = .ok (.aload_n 0, 1) := by decide +kernel
theorem dX7_check_1 : decode cX7_check 1 = .ok (.iload_n 1, 1) := by decide +kernel
theorem dX7_check_2 : decode cX7_check 2 = .ok (.invokevirtual 81, 3) := by decide +kernel
theorem dX7_check_5 : decode cX7_check 5 = .ok (.ifCond .eq 10, 3) := by decide +kernel
theorem dX7_check_8 : decode cX7_check 8 = .ok (.iload_n 2, 1) := by decide +kernel
theorem dX7_check_9 : decode cX7_check 9 = .ok (.invokestatic 102, 3) := by decide +kernel
theorem dX7_check_12 : decode cX7_check 12 = .ok (.ifCond .ne 5, 3) := by decide +kernel
theorem dX7_check_15 : decode cX7_check 15 = .ok (.iconst (-1), 1) := by decide +kernel
theorem dX7_check_16 : decode cX7_check 16 = .ok (.ireturn, 1) := by decide +kernel
theorem dX7_check_17 : decode cX7_check 17 = .ok (.aload_n 0, 1) := by decide +kernel
theorem dX7_check_18 : decode cX7_check 18 = .ok (.getfield 166, 3) := by decide +kernel
theorem dX7_check_21 : decode cX7_check 21 = .ok (.istore_n 3, 1) := by decide +kernel
theorem dX7_check_22 : decode cX7_check 22 = .ok (.aload_n 0, 1) := by decide +kernel
theorem dX7_check_23 : decode cX7_check 23 = .ok (.iconst 0, 1) := by decide +kernel
theorem dX7_check_24 : decode cX7_check 24 = .ok (.putfield 166, 3) := by decide +kernel
theorem dX7_check_27 : decode cX7_check 27 = .ok (.aload_n 0, 1) := by decide +kernel
theorem dX7_check_28 : decode cX7_check 28 = .ok (.iload_n 1, 1) := by decide +kernel
theorem dX7_check_29 : decode cX7_check 29 = .ok (.iload_n 2, 1) := by decide +kernel
theorem dX7_check_30 : decode cX7_check 30 = .ok (.aload_n 0, 1) := by decide +kernel
theorem dX7_check_31 : decode cX7_check 31 = .ok (.iload_n 1, 1) := by decide +kernel
theorem dX7_check_32 : decode cX7_check 32 = .ok (.invokevirtual 105, 3) := by decide +kernel
theorem dX7_check_35 : decode cX7_check 35 = .ok (.invokevirtual 150, 3) := by decide +kernel
theorem dX7_check_38 : decode cX7_check 38 = .ok (.iconst 0, 1) := by decide +kernel
theorem dX7_check_39 : decode cX7_check 39 = .ok (.istore 4, 2) := by decide +kernel
theorem dX7_check_41 : decode cX7_check 41 = .ok (.iconst 0, 1) := by decide +kernel
theorem dX7_check_42 : decode cX7_check 42 = .ok (.istore 5, 2) := by decide +kernel
theorem dX7_check_44 : decode cX7_check 44 = .ok (.iload 5, 2) := by decide +kernel
theorem dX7_check_46 : decode cX7_check 46 = .ok (.iload_n 3, 1) := by decide +kernel
theorem dX7_check_47 : decode cX7_check 47 = .ok (.if_icmp .ge 108, 3) := by decide +kernel
theorem dX7_check_50 : decode cX7_check 50 = .ok (.aload_n 0, 1) := by decide +kernel
theorem dX7_check_51 : decode cX7_check 51 = .ok (.getfield 64, 3) := by decide +kernel
theorem dX7_check_54 : decode cX7_check 54 = .ok (.iload 5, 2) := by decide +kernel
theorem dX7_check_56 : decode cX7_check 56 = .ok (.iaload, 1) := by decide +kernel
theorem dX7_check_57 : decode cX7_check 57 = .ok (.istore 6, 2) := by decide +kernel
theorem dX7_check_59 : decode cX7_check 59 = .ok (.iload 6, 2) := by decide +kernel
theorem dX7_check_61 : decode cX7_check 61 = .ok (.aload_n 0, 1) := by decide +kernel
theorem dX7_check_62 : decode cX7_check 62 = .ok (.getfield 22, 3) := by decide +kernel
theorem dX7_check_65 : decode cX7_check 65 = .ok (.iload_n 1, 1) := by decide +kernel
theorem dX7_check_66 : decode cX7_check 66 = .ok (.iaload, 1) := by decide +kernel
theorem dX7_check_67 : decode cX7_check 67 = .ok (.if_icmp .ge 29, 3) := by decide +kernel
theorem dX7_check_70 : decode cX7_check 70 = .ok (.iload 4, 2) := by decide +kernel
theorem dX7_check_72 : decode cX7_check 72 = .ok (.iload 6, 2) := by decide +kernel
theorem dX7_check_74 : decode cX7_check 74 = .ok (.ishr, 1) := by decide +kernel
theorem dX7_check_75 : decode cX7_check 75 = .ok (.iconst 1, 1) := by decide +kernel
theorem dX7_check_76 : decode cX7_check 76 = .ok (.iand, 1) := by decide +kernel
theorem dX7_check_77 : decode cX7_check 77 = .ok (.iconst 1, 1) := by decide +kernel
theorem dX7_check_78 : decode cX7_check 78 = .ok (.if_icmp .eq 18, 3) := by decide +kernel
theorem dX7_check_81 : decode cX7_check 81 = .ok (.aload_n 0, 1) := by decide +kernel
theorem dX7_check_82 : decode cX7_check 82 = .ok (.getfield 58, 3) := by decide +kernel
theorem dX7_check_85 : decode cX7_check 85 = .ok (.iload 6, 2) := by decide +kernel
theorem dX7_check_87 : decode cX7_check 87 = .ok (.iaload, 1) := by decide +kernel
theorem dX7_check_88 : decode cX7_check 88 = .ok (.iload 4, 2) := by decide +kernel
theorem dX7_check_90 : decode cX7_check 90 = .ok (.iconst (-1), 1) := by decide +kernel
theorem dX7_check_91 : decode cX7_check 91 = .ok (.ixor, 1) := by decide +kernel
theorem dX7_check_92 : decode cX7_check 92 = .ok (.iand, 1) := by decide +kernel
theorem dX7_check_93 : decode cX7_check 93 = .ok (.ifCond .eq 6, 3) := by decide +kernel
theorem dX7_check_96 : decode cX7_check 96 = .ok (.iload 5, 2) := by decide +kernel
theorem dX7_check_98 : decode cX7_check 98 = .ok (.ireturn, 1) := by decide +kernel
theorem dX7_check_99 : decode cX7_check 99 = .ok (.aload_n 0, 1) := by decide +kernel
theorem dX7_check_100 : decode cX7_check 100 = .ok (.iload_n 1, 1) := by decide +kernel
theorem dX7_check_101 : decode cX7_check 101 = .ok (.iload 6, 2) := by decide +kernel
theorem dX7_check_103 : decode cX7_check 103 = .ok (.iload 5, 2) := by decide +kernel
theorem dX7_check_105 : decode cX7_check 105 = .ok (.invokevirtual 140, 3) := by decide +kernel
theorem dX7_check_108 : decode cX7_check 108 = .ok (.istore 7, 2) := by decide +kernel
theorem dX7_check_110 : decode cX7_check 110 = .ok (.aload_n 0, 1) := by decide +kernel
theorem dX7_check_111 : decode cX7_check 111 = .ok (.iload_n 1, 1) := by decide +kernel
theorem dX7_check_112 : decode cX7_check 112 = .ok (.iload 6, 2) := by decide +kernel
theorem dX7_check_114 : decode cX7_check 114 = .ok (.invokevirtual 89, 3) := by decide +kernel
theorem dX7_check_117 : decode cX7_check 117 = .ok (.ifCond .ne 23, 3) := by decide +kernel
theorem dX7_check_120 : decode cX7_check 120 = .ok (.iload 7, 2) := by decide +kernel
theorem dX7_check_122 : decode cX7_check 122 = .ok (.aload_n 0, 1) := by decide +kernel
theorem dX7_check_123 : decode cX7_check 123 = .ok (.getfield 46, 3) := by decide +kernel
theorem dX7_check_126 : decode cX7_check 126 = .ok (.bipush 10, 2) := by decide +kernel
theorem dX7_check_128 : decode cX7_check 128 = .ok (.iload_n 1, 1) := by decide +kernel
theorem dX7_check_129 : decode cX7_check 129 = .ok (.imul, 1) := by decide +kernel
theorem dX7_check_130 : decode cX7_check 130 = .ok (.iload 6, 2) := by decide +kernel
theorem dX7_check_132 : decode cX7_check 132 = .ok (.iadd, 1) := by decide +kernel
theorem dX7_check_133 : decode cX7_check 133 = .ok (.iaload, 1) := by decide +kernel
theorem dX7_check_134 : decode cX7_check 134 = .ok (.if_icmp .eq 6, 3) := by decide +kernel
theorem dX7_check_137 : decode cX7_check 137 = .ok (.iload 5, 2) := by decide +kernel
theorem dX7_check_139 : decode cX7_check 139 = .ok (.ireturn, 1) := by decide +kernel
theorem dX7_check_140 : decode cX7_check 140 = .ok (.iload 4, 2) := by decide +kernel
theorem dX7_check_142 : decode cX7_check 142 = .ok (.iconst 1, 1) := by decide +kernel
theorem dX7_check_143 : decode cX7_check 143 = .ok (.iload 6, 2) := by decide +kernel
theorem dX7_check_145 : decode cX7_check 145 = .ok (.ishl, 1) := by decide +kernel
theorem dX7_check_146 : decode cX7_check 146 = .ok (.ior, 1) := by decide +kernel
theorem dX7_check_147 : decode cX7_check 147 = .ok (.istore 4, 2) := by decide +kernel
theorem dX7_check_149 : decode cX7_check 149 = .ok (.iinc 5 1, 3) := by decide +kernel
theorem dX7_check_152 : decode cX7_check 152 = .ok (.goto (-108), 3) := by decide +kernel
theorem dX7_check_155 : decode cX7_check 155 = .ok (.aload_n 0, 1) := by decide +kernel
theorem dX7_check_156 : decode cX7_check 156 = .ok (.iload_n 1, 1) := by decide +kernel
theorem dX7_check_157 : decode cX7_check 157 = .ok (.aload_n 0, 1) := by decide +kernel
theorem dX7_check_158 : decode cX7_check 158 = .ok (.iload_n 1, 1) := by decide +kernel
theorem dX7_check_159 : decode cX7_check 159 = .ok (.invokevirtual 105, 3) := by decide +kernel
theorem dX7_check_162 : decode cX7_check 162 = .ok (.invokevirtual 154, 3) := by decide +kernel
theorem dX7_check_165 : decode cX7_check 165 = .ok (.istore 5, 2) := by decide +kernel
theorem dX7_check_167 : decode cX7_check 167 = .ok (.iload 4, 2) := by decide +kernel
theorem dX7_check_169 : decode cX7_check 169 = .ok (.iload 5, 2) := by decide +kernel
theorem dX7_check_171 : decode cX7_check 171 = .ok (.iand, 1) := by decide +kernel
theorem dX7_check_172 : decode cX7_check 172 = .ok (.iload 5, 2) := by decide +kernel
theorem dX7_check_174 : decode cX7_check 174 = .ok (.if_icmp .ne 8, 3) := by decide +kernel
theorem dX7_check_177 : decode cX7_check 177 = .ok (.bipush 100, 2) := by decide +kernel
theorem dX7_check_179 : decode cX7_check 179 = .ok (.goto 4, 3) := by decide +kernel
theorem dX7_check_182 : decode cX7_check 182 = .ok (.iload_n 3, 1) := by decide +kernel
theorem dX7_check_183 : decode cX7_check 183 = .ok (.ireturn, 1) := by decide +kernel
