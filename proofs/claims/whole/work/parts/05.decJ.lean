theorem dX0_init_0 : decode cX0_init 0 = .ok (.aload_n 0, 1) := by decide +kernel
theorem dX0_init_1 : decode cX0_init 1 = .ok (.invokespecial 1, 3) := by decide +kernel
theorem dX0_init_4 : decode cX0_init 4 = .ok (.aload_n 0, 1) := by decide +kernel
theorem dX0_init_5 : decode cX0_init 5 = .ok (.bipush 64, 2) := by decide +kernel
theorem dX0_init_7 : decode cX0_init 7 = .ok (.newarray .int, 2) := by decide +kernel
theorem dX0_init_9 : decode cX0_init 9 = .ok (.putfield 9, 3) := by decide +kernel
theorem dX0_init_12 : decode cX0_init 12 = .ok (.return_, 1) := by decide +kernel
theorem dX0_add_0 : decode cX0_add 0 = .ok (.iconst 0, 1) := by decide +kernel
theorem dX0_add_1 : decode cX0_add 1 = .ok (.istore_n 2, 1) := by decide +kernel
theorem dX0_add_2 : decode cX0_add 2 = .ok (.iload_n 2, 1) := by decide +kernel
theorem dX0_add_3 : decode cX0_add 3 = .ok (.aload_n 0, 1) := by decide +kernel
theorem dX0_add_4 : decode cX0_add 4 = .ok (.getfield 13, 3) := by decide +kernel
theorem dX0_add_7 : decode cX0_add 7 = .ok (.if_icmp .ge 19, 3) := by decide +kernel
theorem dX0_add_10 : decode cX0_add 10 = .ok (.aload_n 0, 1) := by decide +kernel
theorem dX0_add_11 : decode cX0_add 11 = .ok (.getfield 9, 3) := by decide +kernel
theorem dX0_add_14 : decode cX0_add 14 = .ok (.iload_n 2, 1) := by decide +kernel
theorem dX0_add_15 : decode cX0_add 15 = .ok (.iaload, 1) := by decide +kernel
theorem dX0_add_16 : decode cX0_add 16 = .ok (.iload_n 1, 1) := by decide +kernel
theorem dX0_add_17 : decode cX0_add 17 = .ok (.if_icmp .ge 9, 3) := by decide +kernel
theorem dX0_add_20 : decode cX0_add 20 = .ok (.iinc 2 1, 3) := by decide +kernel
theorem dX0_add_23 : decode cX0_add 23 = .ok (.goto (-21), 3) := by decide +kernel
theorem dX0_add_26 : decode cX0_add 26 = .ok (.aload_n 0, 1) := by decide +kernel
theorem dX0_add_27 : decode cX0_add 27 = .ok (.getfield 13, 3) := by decide +kernel
theorem dX0_add_30 : decode cX0_add 30 = .ok (.bipush 64, 2) := by decide +kernel
theorem dX0_add_32 : decode cX0_add 32 = .ok (.if_icmp .ge 21, 3) := by decide +kernel
theorem dX0_add_35 : decode cX0_add 35 = .ok (.iload_n 2, 1) := by decide +kernel
theorem dX0_add_36 : decode cX0_add 36 = .ok (.aload_n 0, 1) := by decide +kernel
theorem dX0_add_37 : decode cX0_add 37 = .ok (.getfield 13, 3) := by decide +kernel
theorem dX0_add_40 : decode cX0_add 40 = .ok (.if_icmp .ge 14, 3) := by decide +kernel
theorem dX0_add_43 : decode cX0_add 43 = .ok (.aload_n 0, 1) := by decide +kernel
theorem dX0_add_44 : decode cX0_add 44 = .ok (.getfield 9, 3) := by decide +kernel
theorem dX0_add_47 : decode cX0_add 47 = .ok (.iload_n 2, 1) := by decide +kernel
theorem dX0_add_48 : decode cX0_add 48 = .ok (.iaload, 1) := by decide +kernel
theorem dX0_add_49 : decode cX0_add 49 = .ok (.iload_n 1, 1) := by decide +kernel
theorem dX0_add_50 : decode cX0_add 50 = .ok (.if_icmp .ne 4, 3) := by decide +kernel
theorem dX0_add_53 : decode cX0_add 53 = .ok (.return_, 1) := by decide +kernel
theorem dX0_add_54 : decode cX0_add 54 = .ok (.aload_n 0, 1) := by decide +kernel
theorem dX0_add_55 : decode cX0_add 55 = .ok (.getfield 13, 3) := by decide +kernel
theorem dX0_add_58 : decode cX0_add 58 = .ok (.istore_n 3, 1) := by decide +kernel
theorem dX0_add_59 : decode cX0_add 59 = .ok (.iload_n 3, 1) := by decide +kernel
theorem dX0_add_60 : decode cX0_add 60 = .ok (.iload_n 2, 1) := by decide +kernel
theorem dX0_add_61 : decode cX0_add 61 = .ok (.if_icmp .le 23, 3) := by decide +kernel
theorem dX0_add_64 : decode cX0_add 64 = .ok (.aload_n 0, 1) := by decide +kernel
theorem dX0_add_65 : decode cX0_add 65 = .ok (.getfield 9, 3) := by decide +kernel
theorem dX0_add_68 : decode cX0_add 68 = .ok (.iload_n 3, 1) := by decide +kernel
theorem dX0_add_69 : decode cX0_add 69 = .ok (.aload_n 0, 1) := by decide +kernel
theorem dX0_add_70 : decode cX0_add 70 = .ok (.getfield 9, 3) := by decide +kernel
theorem dX0_add_73 : decode cX0_add 73 = .ok (.iload_n 3, 1) := by decide +kernel
theorem dX0_add_74 : decode cX0_add 74 = .ok (.iconst 1, 1) := by decide +kernel
theorem dX0_add_75 : decode cX0_add 75 = .ok (.isub, 1) := by decide +kernel
theorem dX0_add_76 : decode cX0_add 76 = .ok (.iaload, 1) := by decide +kernel
theorem dX0_add_77 : decode cX0_add 77 = .ok (.iastore, 1) := by decide +kernel
theorem dX0_add_78 : decode cX0_add 78 = .ok (.iinc 3 (-1), 3) := by decide +kernel
theorem dX0_add_81 : decode cX0_add 81 = .ok (.goto (-22), 3) := by decide +kernel
theorem dX0_add_84 : decode cX0_add 84 = .ok (.aload_n 0, 1) := by decide +kernel
theorem dX0_add_85 : decode cX0_add 85 = .ok (.getfield 9, 3) := by decide +kernel
theorem dX0_add_88 : decode cX0_add 88 = .ok (.iload_n 2, 1) := by decide +kernel
theorem dX0_add_89 : decode cX0_add 89 = .ok (.iload_n 1, 1) := by decide +kernel
theorem dX0_add_90 : decode cX0_add 90 = .ok (.iastore, 1) := by decide +kernel
theorem dX0_add_91 : decode cX0_add 91 = .ok (.aload_n 0, 1) := by decide +kernel
theorem dX0_add_92 : decode cX0_add 92 = .ok (.dup, 1) := by decide +kernel
theorem dX0_add_93 : decode cX0_add 93 = .ok (.getfield 13, 3) := by decide +kernel
theorem dX0_add_96 : decode cX0_add 96 = .ok (.iconst 1, 1) := by decide +kernel
theorem dX0_add_97 : decode cX0_add 97 = .ok (.iadd, 1) := by decide +kernel
theorem dX0_add_98 : decode cX0_add 98 = .ok (.putfield 13, 3) := by decide +kernel
theorem dX0_add_101 : decode cX0_add 101 = .ok (.return_, 1) := by decide +kernel
theorem dX1_init_0 : decode cX1_init 0 = .ok (.aload_n 0, 1) := by decide +kernel
theorem dX1_init_1 : decode cX1_init 1 = .ok (.invokespecial 3, 3) := by decide +kernel
theorem dX1_init_4 : decode cX1_init 4 = .ok (.aload_n 0, 1) := by decide +kernel
theorem dX1_init_5 : decode cX1_init 5 = .ok (.bipush 10, 2) := by decide +kernel
theorem dX1_init_7 : decode cX1_init 7 = .ok (.newarray .int, 2) := by decide +kernel
theorem dX1_init_9 : decode cX1_init 9 = .ok (.putfield 9, 3) := by decide +kernel
theorem dX1_init_12 : decode cX1_init 12 = .ok (.aload_n 0, 1) := by decide +kernel
theorem dX1_init_13 : decode cX1_init 13 = .ok (.bipush 10, 2) := by decide +kernel
theorem dX1_init_15 : decode cX1_init 15 = .ok (.newarray .int, 2) := by decide +kernel
theorem dX1_init_17 : decode cX1_init 17 = .ok (.putfield 15, 3) := by decide +kernel
theorem dX1_init_20 : decode cX1_init 20 = .ok (.aload_n 0, 1) := by decide +kernel
theorem dX1_init_21 : decode cX1_init 21 = .ok (.bipush 10, 2) := by decide +kernel
theorem dX1_init_23 : decode cX1_init 23 = .ok (.newarray .int, 2) := by decide +kernel
theorem dX1_init_25 : decode cX1_init 25 = .ok (.putfield 18, 3) := by decide +kernel
theorem dX1_init_28 : decode cX1_init 28 = .ok (.aload_n 0, 1) := by decide +kernel
theorem dX1_init_29 : decode cX1_init 29 = .ok (.bipush 10, 2) := by decide +kernel
theorem dX1_init_31 : decode cX1_init 31 = .ok (.newarray .int, 2) := by decide +kernel
theorem dX1_init_33 : decode cX1_init 33 = .ok (.putfield 21, 3) := by decide +kernel
theorem dX1_init_36 : decode cX1_init 36 = .ok (.aload_n 0, 1) := by decide +kernel
theorem dX1_init_37 : decode cX1_init 37 = .ok (.bipush 10, 2) := by decide +kernel
theorem dX1_init_39 : decode cX1_init 39 = .ok (.newarray .int, 2) := by decide +kernel
theorem dX1_init_41 : decode cX1_init 41 = .ok (.putfield 24, 3) := by decide +kernel
theorem dX1_init_44 : decode cX1_init 44 = .ok (.aload_n 0, 1) := by decide +kernel
theorem dX1_init_45 : decode cX1_init 45 = .ok (.bipush 10, 2) := by decide +kernel
theorem dX1_init_47 : decode cX1_init 47 = .ok (.newarray .int, 2) := by decide +kernel
theorem dX1_init_49 : decode cX1_init 49 = .ok (.putfield 27, 3) := by decide +kernel
theorem dX1_init_52 : decode cX1_init 52 = .ok (.aload_n 0, 1) := by decide +kernel
theorem dX1_init_53 : decode cX1_init 53 = .ok (.bipush 10, 2) := by decide +kernel
theorem dX1_init_55 : decode cX1_init 55 = .ok (.newarray .int, 2) := by decide +kernel
theorem dX1_init_57 : decode cX1_init 57 = .ok (.putfield 30, 3) := by decide +kernel
theorem dX1_init_60 : decode cX1_init 60 = .ok (.aload_n 0, 1) := by decide +kernel
theorem dX1_init_61 : decode cX1_init 61 = .ok (.iload_n 1, 1) := by decide +kernel
theorem dX1_init_62 : decode cX1_init 62 = .ok (.putfield 33, 3) := by decide +kernel
theorem dX1_init_65 : decode cX1_init 65 = .ok (.aload_n 0, 1) := by decide +kernel
theorem dX1_init_66 : decode cX1_init 66 = .ok (.aload_n 2, 1) := by decide +kernel
theorem dX1_init_67 : decode cX1_init 67 = .ok (.putfield 37, 3) := by decide +kernel
theorem dX1_init_70 : decode cX1_init 70 = .ok (.return_, 1) := by decide +kernel
theorem dX1_twin_0 : decode cX1_twin 0 = .ok (.new 10, 3) := by decide +kernel
theorem dX1_twin_3 : decode cX1_twin 3 = .ok (.dup, 1) := by decide +kernel
theorem dX1_twin_4 : decode cX1_twin 4 = .ok (.aload_n 0, 1) := by decide +kernel
theorem dX1_twin_5 : decode cX1_twin 5 = .ok (.getfield 33, 3) := by decide +kernel
theorem dX1_twin_8 : decode cX1_twin 8 = .ok (.aload_n 0, 1) := by decide +kernel
theorem dX1_twin_9 : decode cX1_twin 9 = .ok (.getfield 37, 3) := by decide +kernel
theorem dX1_twin_12 : decode cX1_twin 12 = .ok (.invokespecial 41, 3) := by decide +kernel
theorem dX1_twin_15 : decode cX1_twin 15 = .ok (.astore_n 1, 1) := by decide +kernel
theorem dX1_twin_16 : decode cX1_twin 16 = .ok (.aload_n 1, 1) := by decide +kernel
theorem dX1_twin_17 : decode cX1_twin 17 = .ok (.aload_n 0, 1) := by decide +kernel
theorem dX1_twin_18 : decode cX1_twin 18 = .ok (.getfield 44, 3) := by decide +kernel
theorem dX1_twin_21 : decode cX1_twin 21 = .ok (.putfield 44, 3) := by decide +kernel
theorem dX1_twin_24 : decode cX1_twin 24 = .ok (.aload_n 1, 1) := by decide +kernel
theorem dX1_twin_25 : decode cX1_twin 25 = .ok (.aload_n 0, 1) := by decide +kernel
theorem dX1_twin_26 : decode cX1_twin 26 = .ok (.getfield 47, 3) := by decide +kernel
theorem dX1_twin_29 : decode cX1_twin 29 = .ok (.putfield 47, 3) := by decide +kernel
theorem dX1_twin_32 : decode cX1_twin 32 = .ok (.aload_n 0, 1) := by decide +kernel
theorem dX1_twin_33 : decode cX1_twin 33 = .ok (.getfield 9, 3) := by decide +kernel
theorem dX1_twin_36 : decode cX1_twin 36 = .ok (.iconst 0, 1) := by decide +kernel
theorem dX1_twin_37 : decode cX1_twin 37 = .ok (.aload_n 1, 1) := by decide +kernel
theorem dX1_twin_38 : decode cX1_twin 38 = .ok (.getfield 9, 3) := by decide +kernel
theorem dX1_twin_41 : decode cX1_twin 41 = .ok (.iconst 0, 1) := by decide +kernel
theorem dX1_twin_42 : decode cX1_twin 42 = .ok (.bipush 10, 2) := by decide +kernel
theorem dX1_twin_44 : decode cX1_twin 44 = .ok (.invokestatic 50, 3) := by decide +kernel
theorem dX1_twin_47 : decode cX1_twin 47 = .ok (.aload_n 0, 1) := by decide +kernel
theorem dX1_twin_48 : decode cX1_twin 48 = .ok (.getfield 15, 3) := by decide +kernel
theorem dX1_twin_51 : decode cX1_twin 51 = .ok (.iconst 0, 1) := by decide +kernel
theorem dX1_twin_52 : decode cX1_twin 52 = .ok (.aload_n 1, 1) := by decide +kernel
theorem dX1_twin_53 : decode cX1_twin 53 = .ok (.getfield 15, 3) := by decide +kernel
theorem dX1_twin_56 : decode cX1_twin 56 = .ok (.iconst 0, 1) := by decide +kernel
theorem dX1_twin_57 : decode cX1_twin 57 = .ok (.bipush 10, 2) := by decide +kernel
theorem dX1_twin_59 : decode cX1_twin 59 = .ok (.invokestatic 50, 3) := by decide +kernel
theorem dX1_twin_62 : decode cX1_twin 62 = .ok (.aload_n 0, 1) := by decide +kernel
theorem dX1_twin_63 : decode cX1_twin 63 = .ok (.getfield 18, 3) := by decide +kernel
theorem dX1_twin_66 : decode cX1_twin 66 = .ok (.iconst 0, 1) := by decide +kernel
theorem dX1_twin_67 : decode cX1_twin 67 = .ok (.aload_n 1, 1) := by decide +kernel
theorem dX1_twin_68 : decode cX1_twin 68 = .ok (.getfield 18, 3) := by decide +kernel
theorem dX1_twin_71 : decode cX1_twin 71 = .ok (.iconst 0, 1) := by decide +kernel
theorem dX1_twin_72 : decode cX1_twin 72 = .ok (.bipush 10, 2) := by decide +kernel
theorem dX1_twin_74 : decode cX1_twin 74 = .ok (.invokestatic 50, 3) := by decide +kernel
theorem dX1_twin_77 : decode cX1_twin 77 = .ok (.aload_n 0, 1) := by decide +kernel
theorem dX1_twin_78 : decode cX1_twin 78 = .ok (.getfield 21, 3) := by decide +kernel
theorem dX1_twin_81 : decode cX1_twin 81 = .ok (.iconst 0, 1) := by decide +kernel
theorem dX1_twin_82 : decode cX1_twin 82 = .ok (.aload_n 1, 1) := by decide +kernel
theorem dX1_twin_83 : decode cX1_twin 83 = .ok (.getfield 21, 3) := by decide +kernel
theorem dX1_twin_86 : decode cX1_twin 86 = .ok (.iconst 0, 1) := by decide +kernel
theorem dX1_twin_87 : decode cX1_twin 87 = .ok (.bipush 10, 2) := by decide +kernel
theorem dX1_twin_89 : decode cX1_twin 89 = .ok (.invokestatic 50, 3) := by decide +kernel
theorem dX1_twin_92 : decode cX1_twin 92 = .ok (.aload_n 0, 1) := by decide +kernel
theorem dX1_twin_93 : decode cX1_twin 93 = .ok (.getfield 24, 3) := by decide +kernel
theorem dX1_twin_96 : decode cX1_twin 96 = .ok (.iconst 0, 1) := by decide +kernel
theorem dX1_twin_97 : decode cX1_twin 97 = .ok (.aload_n 1, 1) := by decide +kernel
theorem dX1_twin_98 : decode cX1_twin 98 = .ok (.getfield 24, 3) := by decide +kernel
theorem dX1_twin_101 : decode cX1_twin 101 = .ok (.iconst 0, 1) := by decide +kernel
theorem dX1_twin_102 : decode cX1_twin 102 = .ok (.bipush 10, 2) := by decide +kernel
theorem dX1_twin_104 : decode cX1_twin 104 = .ok (.invokestatic 50, 3) := by decide +kernel
theorem dX1_twin_107 : decode cX1_twin 107 = .ok (.aload_n 0, 1) := by decide +kernel
theorem dX1_twin_108 : decode cX1_twin 108 = .ok (.getfield 27, 3) := by decide +kernel
theorem dX1_twin_111 : decode cX1_twin 111 = .ok (.iconst 0, 1) := by decide +kernel
theorem dX1_twin_112 : decode cX1_twin 112 = .ok (.aload_n 1, 1) := by decide +kernel
theorem dX1_twin_113 : decode cX1_twin 113 = .ok (.getfield 27, 3) := by decide +kernel
theorem dX1_twin_116 : decode cX1_twin 116 = .ok (.iconst 0, 1) := by decide +kernel
theorem dX1_twin_117 : decode cX1_twin 117 = .ok (.bipush 10, 2) := by decide +kernel
theorem dX1_twin_119 : decode cX1_twin 119 = .ok (.invokestatic 50, 3) := by decide +kernel
theorem dX1_twin_122 : decode cX1_twin 122 = .ok (.aload_n 0, 1) := by decide +kernel
theorem dX1_twin_123 : decode cX1_twin 123 = .ok (.getfield 30, 3) := by decide +kernel
theorem dX1_twin_126 : decode cX1_twin 126 = .ok (.iconst 0, 1) := by decide +kernel
theorem dX1_twin_127 : decode cX1_twin 127 = .ok (.aload_n 1, 1) := by decide +kernel
theorem dX1_twin_128 : decode cX1_twin 128 = .ok (.getfield 30, 3) := by decide +kernel
theorem dX1_twin_131 : decode cX1_twin 131 = .ok (.iconst 0, 1) := by decide +kernel
theorem dX1_twin_132 : decode cX1_twin 132 = .ok (.bipush 10, 2) := by decide +kernel
theorem dX1_twin_134 : decode cX1_twin 134 = .ok (.invokestatic 50, 3) := by decide +kernel
theorem dX1_twin_137 : decode cX1_twin 137 = .ok (.aload_n 1, 1) := by decide +kernel
theorem dX1_twin_138 : decode cX1_twin 138 = .ok (.areturn, 1) := by decide +kernel
theorem dX1_hasCall_0 : decode cX1_hasCall 0 = .ok (.iload_n 1, 1) := by decide +kernel
theorem dX1_hasCall_1 : decode cX1_hasCall 1 = .ok (.ifCond .lt 15, 3) := by decide +kernel
theorem dX1_hasCall_4 : decode cX1_hasCall 4 = .ok (.iload_n 1, 1) := by decide +kernel
theorem dX1_hasCall_5 : decode cX1_hasCall 5 = .ok (.aload_n 0, 1) := by decide +kernel
theorem dX1_hasCall_6 : decode cX1_hasCall 6 = .ok (.getfield 44, 3) := by decide +kernel
theorem dX1_hasCall_9 : decode cX1_hasCall 9 = .ok (.if_icmp .ge 7, 3) := by decide +kernel
theorem dX1_hasCall_12 : decode cX1_hasCall 12 = .ok (.iconst 1, 1) := by decide +kernel
theorem dX1_hasCall_13 : decode cX1_hasCall 13 = .ok (.goto 4, 3) := by decide +kernel
theorem dX1_hasCall_16 : decode cX1_hasCall 16 = .ok (.iconst 0, 1) := by decide +kernel
theorem dX1_hasCall_17 : decode cX1_hasCall 17 = .ok (.ireturn, 1) := by decide +kernel
theorem dX1_isOpen_0 : decode cX1_isOpen 0 = .ok (.aload_n 0, 1) := by decide +kernel
theorem dX1_isOpen_1 : decode cX1_isOpen 1 = .ok (.iload_n 1, 1) := by decide +kernel
theorem dX1_isOpen_2 : decode cX1_isOpen 2 = .ok (.invokevirtual 56, 3) := by decide +kernel
theorem dX1_isOpen_5 : decode cX1_isOpen 5 = .ok (.ifCond .eq 16, 3) := by decide +kernel
theorem dX1_isOpen_8 : decode cX1_isOpen 8 = .ok (.aload_n 0, 1) := by decide +kernel
theorem dX1_isOpen_9 : decode cX1_isOpen 9 = .ok (.getfield 27, 3) := by decide +kernel
theorem dX1_isOpen_12 : decode cX1_isOpen 12 = .ok (.iload_n 1, 1) := by decide +kernel
theorem dX1_isOpen_13 : decode cX1_isOpen 13 = .ok (.iaload, 1) := by decide +kernel
theorem dX1_isOpen_14 : decode cX1_isOpen 14 = .ok (.ifCond .ne 7, 3) := by decide +kernel
theorem dX1_isOpen_17 : decode cX1_isOpen 17 = .ok (.iconst 1, 1) := by decide +kernel
theorem dX1_isOpen_18 : decode cX1_isOpen 18 = .ok (.goto 4, 3) := by decide +kernel
theorem dX1_isOpen_21 : decode cX1_isOpen 21 = .ok (.iconst 0, 1) := by decide +kernel
theorem dX1_isOpen_22 : decode cX1_isOpen 22 = .ok (.ireturn, 1) := by decide +kernel
theorem dX1_isWaiting_0 : decode cX1_isWaiting 0 = .ok (.iconst 0, 1) := by decide +kernel
theorem dX1_isWaiting_1 : decode cX1_isWaiting 1 = .ok (.istore_n 2, 1) := by decide +kernel
theorem dX1_isWaiting_2 : decode cX1_isWaiting 2 = .ok (.iload_n 2, 1) := by decide +kernel
theorem dX1_isWaiting_3 : decode cX1_isWaiting 3 = .ok (.aload_n 0, 1) := by decide +kernel
theorem dX1_isWaiting_4 : decode cX1_isWaiting 4 = .ok (.getfield 44, 3) := by decide +kernel
theorem dX1_isWaiting_7 : decode cX1_isWaiting 7 = .ok (.if_icmp .ge 30, 3) := by decide +kernel
theorem dX1_isWaiting_10 : decode cX1_isWaiting 10 = .ok (.aload_n 0, 1) := by decide +kernel
theorem dX1_isWaiting_11 : decode cX1_isWaiting 11 = .ok (.getfield 9, 3) := by decide +kernel
theorem dX1_isWaiting_14 : decode cX1_isWaiting 14 = .ok (.iload_n 2, 1) := by decide +kernel
theorem dX1_isWaiting_15 : decode cX1_isWaiting 15 = .ok (.iaload, 1) := by decide +kernel
theorem dX1_isWaiting_16 : decode cX1_isWaiting 16 = .ok (.iload_n 1, 1) := by decide +kernel
theorem dX1_isWaiting_17 : decode cX1_isWaiting 17 = .ok (.if_icmp .ne 14, 3) := by decide +kernel
theorem dX1_isWaiting_20 : decode cX1_isWaiting 20 = .ok (.aload_n 0, 1) := by decide +kernel
theorem dX1_isWaiting_21 : decode cX1_isWaiting 21 = .ok (.getfield 27, 3) := by decide +kernel
theorem dX1_isWaiting_24 : decode cX1_isWaiting 24 = .ok (.iload_n 2, 1) := by decide +kernel
theorem dX1_isWaiting_25 : decode cX1_isWaiting 25 = .ok (.iaload, 1) := by decide +kernel
theorem dX1_isWaiting_26 : decode cX1_isWaiting 26 = .ok (.ifCond .ne 5, 3) := by decide +kernel
theorem dX1_isWaiting_29 : decode cX1_isWaiting 29 = .ok (.iconst 1, 1) := by decide +kernel
theorem dX1_isWaiting_30 : decode cX1_isWaiting 30 = .ok (.ireturn, 1) := by decide +kernel
theorem dX1_isWaiting_31 : decode cX1_isWaiting 31 = .ok (.iinc 2 1, 3) := by decide +kernel
theorem dX1_isWaiting_34 : decode cX1_isWaiting 34 = .ok (.goto (-32), 3) := by decide +kernel
theorem dX1_isWaiting_37 : decode cX1_isWaiting 37 = .ok (.iconst 0, 1) := by decide +kernel
theorem dX1_isWaiting_38 : decode cX1_isWaiting 38 = .ok (.ireturn, 1) := by decide +kernel
theorem dX1_start_0 : decode cX1_start 0 = .ok (.aload_n 0, 1) := by decide +kernel
theorem dX1_start_1 : decode cX1_start 1 = .ok (.getfield 44, 3) := by decide +kernel
theorem dX1_start_4 : decode cX1_start 4 = .ok (.bipush 10, 2) := by decide +kernel
theorem dX1_start_6 : decode cX1_start 6 = .ok (.if_icmp .lt 6, 3) := by decide +kernel
theorem dX1_start_9 : decode cX1_start 9 = .ok (.bipush (-4), 2) := by decide +kernel
theorem dX1_start_11 : decode cX1_start 11 = .ok (.ireturn, 1) := by decide +kernel
theorem dX1_start_12 : decode cX1_start 12 = .ok (.aload_n 0, 1) := by decide +kernel
theorem dX1_start_13 : decode cX1_start 13 = .ok (.dup, 1) := by decide +kernel
theorem dX1_start_14 : decode cX1_start 14 = .ok (.getfield 47, 3) := by decide +kernel
theorem dX1_start_17 : decode cX1_start 17 = .ok (.iconst 1, 1) := by decide +kernel
theorem dX1_start_18 : decode cX1_start 18 = .ok (.iadd, 1) := by decide +kernel
theorem dX1_start_19 : decode cX1_start 19 = .ok (.putfield 47, 3) := by decide +kernel
theorem dX1_start_22 : decode cX1_start 22 = .ok (.aload_n 0, 1) := by decide +kernel
theorem dX1_start_23 : decode cX1_start 23 = .ok (.getfield 9, 3) := by decide +kernel
theorem dX1_start_26 : decode cX1_start 26 = .ok (.aload_n 0, 1) := by decide +kernel
theorem dX1_start_27 : decode cX1_start 27 = .ok (.getfield 44, 3) := by decide +kernel
theorem dX1_start_30 : decode cX1_start 30 = .ok (.iload_n 1, 1) := by decide +kernel
theorem dX1_start_31 : decode cX1_start 31 = .ok (.iastore, 1) := by decide +kernel
theorem dX1_start_32 : decode cX1_start 32 = .ok (.aload_n 0, 1) := by decide +kernel
theorem dX1_start_33 : decode cX1_start 33 = .ok (.getfield 15, 3) := by decide +kernel
theorem dX1_start_36 : decode cX1_start 36 = .ok (.aload_n 0, 1) := by decide +kernel
theorem dX1_start_37 : decode cX1_start 37 = .ok (.getfield 44, 3) := by decide +kernel
theorem dX1_start_40 : decode cX1_start 40 = .ok (.iload_n 2, 1) := by decide +kernel
theorem dX1_start_41 : decode cX1_start 41 = .ok (.iastore, 1) := by decide +kernel
theorem dX1_start_42 : decode cX1_start 42 = .ok (.aload_n 0, 1) := by decide +kernel
theorem dX1_start_43 : decode cX1_start 43 = .ok (.getfield 18, 3) := by decide +kernel
theorem dX1_start_46 : decode cX1_start 46 = .ok (.aload_n 0, 1) := by decide +kernel
theorem dX1_start_47 : decode cX1_start 47 = .ok (.getfield 44, 3) := by decide +kernel
theorem dX1_start_50 : decode cX1_start 50 = .ok (.iload_n 3, 1) := by decide +kernel
theorem dX1_start_51 : decode cX1_start 51 = .ok (.iastore, 1) := by decide +kernel
theorem dX1_start_52 : decode cX1_start 52 = .ok (.aload_n 0, 1) := by decide +kernel
theorem dX1_start_53 : decode cX1_start 53 = .ok (.getfield 21, 3) := by decide +kernel
theorem dX1_start_56 : decode cX1_start 56 = .ok (.aload_n 0, 1) := by decide +kernel
theorem dX1_start_57 : decode cX1_start 57 = .ok (.getfield 44, 3) := by decide +kernel
theorem dX1_start_60 : decode cX1_start 60 = .ok (.iload 4, 2) := by decide +kernel
theorem dX1_start_62 : decode cX1_start 62 = .ok (.iastore, 1) := by decide +kernel
theorem dX1_start_63 : decode cX1_start 63 = .ok (.aload_n 0, 1) := by decide +kernel
theorem dX1_start_64 : decode cX1_start 64 = .ok (.getfield 24, 3) := by decide +kernel
theorem dX1_start_67 : decode cX1_start 67 = .ok (.aload_n 0, 1) := by decide +kernel
theorem dX1_start_68 : decode cX1_start 68 = .ok (.getfield 44, 3) := by decide +kernel
theorem dX1_start_71 : decode cX1_start 71 = .ok (.aload_n 0, 1) := by decide +kernel
theorem dX1_start_72 : decode cX1_start 72 = .ok (.getfield 47, 3) := by decide +kernel
theorem dX1_start_75 : decode cX1_start 75 = .ok (.iastore, 1) := by decide +kernel
theorem dX1_start_76 : decode cX1_start 76 = .ok (.aload_n 0, 1) := by decide +kernel
theorem dX1_start_77 : decode cX1_start 77 = .ok (.dup, 1) := by decide +kernel
theorem dX1_start_78 : decode cX1_start 78 = .ok (.getfield 44, 3) := by decide +kernel
theorem dX1_start_81 : decode cX1_start 81 = .ok (.iconst 1, 1) := by decide +kernel
theorem dX1_start_82 : decode cX1_start 82 = .ok (.iadd, 1) := by decide +kernel
theorem dX1_start_83 : decode cX1_start 83 = .ok (.putfield 44, 3) := by decide +kernel
theorem dX1_start_86 : decode cX1_start 86 = .ok (.aload_n 0, 1) := by decide +kernel
theorem dX1_start_87 : decode cX1_start 87 = .ok (.getfield 44, 3) := by decide +kernel
theorem dX1_start_90 : decode cX1_start 90 = .ok (.iconst 1, 1) := by decide +kernel
theorem dX1_start_91 : decode cX1_start 91 = .ok (.isub, 1) := by decide +kernel
theorem dX1_start_92 : decode cX1_start 92 = .ok (.ireturn, 1) := by decide +kernel
theorem dX1_end_0 : decode cX1_end 0 = .ok (.aload_n 0, 1) := by decide +kernel
theorem dX1_end_1 : decode cX1_end 1 = .ok (.iload_n 1, 1) := by decide +kernel
theorem dX1_end_2 : decode cX1_end 2 = .ok (.invokevirtual 56, 3) := by decide +kernel
theorem dX1_end_5 : decode cX1_end 5 = .ok (.ifCond .ne 5, 3) := by decide +kernel
theorem dX1_end_8 : decode cX1_end 8 = .ok (.iconst (-1), 1) := by decide +kernel
theorem dX1_end_9 : decode cX1_end 9 = .ok (.ireturn, 1) := by decide +kernel
theorem dX1_end_10 : decode cX1_end 10 = .ok (.aload_n 0, 1) := by decide +kernel
theorem dX1_end_11 : decode cX1_end 11 = .ok (.dup, 1) := by decide +kernel
theorem dX1_end_12 : decode cX1_end 12 = .ok (.getfield 47, 3) := by decide +kernel
theorem dX1_end_15 : decode cX1_end 15 = .ok (.iconst 1, 1) := by decide +kernel
theorem dX1_end_16 : decode cX1_end 16 = .ok (.iadd, 1) := by decide +kernel
theorem dX1_end_17 : decode cX1_end 17 = .ok (.putfield 47, 3) := by decide +kernel
theorem dX1_end_20 : decode cX1_end 20 = .ok (.aload_n 0, 1) := by decide +kernel
theorem dX1_end_21 : decode cX1_end 21 = .ok (.getfield 27, 3) := by decide +kernel
theorem dX1_end_24 : decode cX1_end 24 = .ok (.iload_n 1, 1) := by decide +kernel
theorem dX1_end_25 : decode cX1_end 25 = .ok (.aload_n 0, 1) := by decide +kernel
theorem dX1_end_26 : decode cX1_end 26 = .ok (.getfield 47, 3) := by decide +kernel
theorem dX1_end_29 : decode cX1_end 29 = .ok (.iastore, 1) := by decide +kernel
theorem dX1_end_30 : decode cX1_end 30 = .ok (.aload_n 0, 1) := by decide +kernel
theorem dX1_end_31 : decode cX1_end 31 = .ok (.getfield 30, 3) := by decide +kernel
theorem dX1_end_34 : decode cX1_end 34 = .ok (.iload_n 1, 1) := by decide +kernel
theorem dX1_end_35 : decode cX1_end 35 = .ok (.iload_n 2, 1) := by decide +kernel
theorem dX1_end_36 : decode cX1_end 36 = .ok (.iastore, 1) := by decide +kernel
theorem dX1_end_37 : decode cX1_end 37 = .ok (.aload_n 0, 1) := by decide +kernel
theorem dX1_end_38 : decode cX1_end 38 = .ok (.getfield 47, 3) := by decide +kernel
theorem dX1_end_41 : decode cX1_end 41 = .ok (.ireturn, 1) := by decide +kernel
theorem dX1_allCalls_0 : decode cX1_allCalls 0 = .ok (.iconst 1, 1) := by decide +kernel
theorem dX1_allCalls_1 : decode cX1_allCalls 1 = .ok (.aload_n 0, 1) := by decide +kernel
theorem dX1_allCalls_2 : decode cX1_allCalls 2 = .ok (.getfield 44, 3) := by decide +kernel
theorem dX1_allCalls_5 : decode cX1_allCalls 5 = .ok (.ishl, 1) := by decide +kernel
theorem dX1_allCalls_6 : decode cX1_allCalls 6 = .ok (.iconst 1, 1) := by decide +kernel
theorem dX1_allCalls_7 : decode cX1_allCalls 7 = .ok (.isub, 1) := by decide +kernel
theorem dX1_allCalls_8 : decode cX1_allCalls 8 = .ok (.ireturn, 1) := by decide +kernel
theorem dX1_endedCalls_0 : decode cX1_endedCalls 0 = .ok (.iconst 0, 1) := by decide +kernel
theorem dX1_endedCalls_1 : decode cX1_endedCalls 1 = .ok (.istore_n 1, 1) := by decide +kernel
theorem dX1_endedCalls_2 : decode cX1_endedCalls 2 = .ok (.iconst 0, 1) := by decide +kernel
theorem dX1_endedCalls_3 : decode cX1_endedCalls 3 = .ok (.istore_n 2, 1) := by decide +kernel
theorem dX1_endedCalls_4 : decode cX1_endedCalls 4 = .ok (.iload_n 2, 1) := by decide +kernel
theorem dX1_endedCalls_5 : decode cX1_endedCalls 5 = .ok (.aload_n 0, 1) := by decide +kernel
theorem dX1_endedCalls_6 : decode cX1_endedCalls 6 = .ok (.getfield 44, 3) := by decide +kernel
theorem dX1_endedCalls_9 : decode cX1_endedCalls 9 = .ok (.if_icmp .ge 24, 3) := by decide +kernel
theorem dX1_endedCalls_12 : decode cX1_endedCalls 12 = .ok (.aload_n 0, 1) := by decide +kernel
theorem dX1_endedCalls_13 : decode cX1_endedCalls 13 = .ok (.getfield 27, 3) := by decide +kernel
theorem dX1_endedCalls_16 : decode cX1_endedCalls 16 = .ok (.iload_n 2, 1) := by decide +kernel
theorem dX1_endedCalls_17 : decode cX1_endedCalls 17 = .ok (.iaload, 1) := by decide +kernel
theorem dX1_endedCalls_18 : decode cX1_endedCalls 18 = .ok (.ifCond .eq 9, 3) := by decide +kernel
theorem dX1_endedCalls_21 : decode cX1_endedCalls 21 = .ok (.iload_n 1, 1) := by decide +kernel
theorem dX1_endedCalls_22 : decode cX1_endedCalls 22 = .ok (.iconst 1, 1) := by decide +kernel
theorem dX1_endedCalls_23 : decode cX1_endedCalls 23 = .ok (.iload_n 2, 1) := by decide +kernel
theorem dX1_endedCalls_24 : decode cX1_endedCalls 24 = .ok (.ishl, 1) := by decide +kernel
theorem dX1_endedCalls_25 : decode cX1_endedCalls 25 = .ok (.ior, 1) := by decide +kernel
theorem dX1_endedCalls_26 : decode cX1_endedCalls 26 = .ok (.istore_n 1, 1) := by decide +kernel
theorem dX1_endedCalls_27 : decode cX1_endedCalls 27 = .ok (.iinc 2 1, 3) := by decide +kernel
theorem dX1_endedCalls_30 : decode cX1_endedCalls 30 = .ok (.goto (-26), 3) := by decide +kernel
theorem dX1_endedCalls_33 : decode cX1_endedCalls 33 = .ok (.iload_n 1, 1) := by decide +kernel
theorem dX1_endedCalls_34 : decode cX1_endedCalls 34 = .ok (.ireturn, 1) := by decide +kernel
theorem dX1_callsWith_0 : decode cX1_callsWith 0 = .ok (.iconst 0, 1) := by decide +kernel
theorem dX1_callsWith_1 : decode cX1_callsWith 1 = .ok (.istore_n 2, 1) := by decide +kernel
theorem dX1_callsWith_2 : decode cX1_callsWith 2 = .ok (.iconst 0, 1) := by decide +kernel
theorem dX1_callsWith_3 : decode cX1_callsWith 3 = .ok (.istore_n 3, 1) := by decide +kernel
theorem dX1_callsWith_4 : decode cX1_callsWith 4 = .ok (.iload_n 3, 1) := by decide +kernel
theorem dX1_callsWith_5 : decode cX1_callsWith 5 = .ok (.aload_n 0, 1) := by decide +kernel
theorem dX1_callsWith_6 : decode cX1_callsWith 6 = .ok (.getfield 44, 3) := by decide +kernel
theorem dX1_callsWith_9 : decode cX1_callsWith 9 = .ok (.if_icmp .ge 25, 3) := by decide +kernel
theorem dX1_callsWith_12 : decode cX1_callsWith 12 = .ok (.aload_n 0, 1) := by decide +kernel
theorem dX1_callsWith_13 : decode cX1_callsWith 13 = .ok (.getfield 18, 3) := by decide +kernel
theorem dX1_callsWith_16 : decode cX1_callsWith 16 = .ok (.iload_n 3, 1) := by decide +kernel
theorem dX1_callsWith_17 : decode cX1_callsWith 17 = .ok (.iaload, 1) := by decide +kernel
theorem dX1_callsWith_18 : decode cX1_callsWith 18 = .ok (.iload_n 1, 1) := by decide +kernel
theorem dX1_callsWith_19 : decode cX1_callsWith 19 = .ok (.if_icmp .ne 9, 3) := by decide +kernel
theorem dX1_callsWith_22 : decode cX1_callsWith 22 = .ok (.iload_n 2, 1) := by decide +kernel
theorem dX1_callsWith_23 : decode cX1_callsWith 23 = .ok (.iconst 1, 1) := by decide +kernel
theorem dX1_callsWith_24 : decode cX1_callsWith 24 = .ok (.iload_n 3, 1) := by decide +kernel
theorem dX1_callsWith_25 : decode cX1_callsWith 25 = .ok (.ishl, 1) := by decide +kernel
theorem dX1_callsWith_26 : decode cX1_callsWith 26 = .ok (.ior, 1) := by decide +kernel
theorem dX1_callsWith_27 : decode cX1_callsWith 27 = .ok (.istore_n 2, 1) := by decide +kernel
theorem dX1_callsWith_28 : decode cX1_callsWith 28 = .ok (.iinc 3 1, 3) := by decide +kernel
theorem dX1_callsWith_31 : decode cX1_callsWith 31 = .ok (.goto (-27), 3) := by decide +kernel
theorem dX1_callsWith_34 : decode cX1_callsWith 34 = .ok (.iload_n 2, 1) := by decide +kernel
theorem dX1_callsWith_35 : decode cX1_callsWith 35 = .ok (.ireturn, 1) := by decide +kernel
theorem dX1_quietTicks_0 : decode cX1_quietTicks 0 = .ok (.iconst 0, 1) := by decide +kernel
theorem dX1_quietTicks_1 : decode cX1_quietTicks 1 = .ok (.istore_n 2, 1) := by decide +kernel
theorem dX1_quietTicks_2 : decode cX1_quietTicks 2 = .ok (.iconst 1, 1) := by decide +kernel
theorem dX1_quietTicks_3 : decode cX1_quietTicks 3 = .ok (.istore_n 3, 1) := by decide +kernel
theorem dX1_quietTicks_4 : decode cX1_quietTicks 4 = .ok (.iload_n 3, 1) := by decide +kernel
theorem dX1_quietTicks_5 : decode cX1_quietTicks 5 = .ok (.aload_n 0, 1) := by decide +kernel
theorem dX1_quietTicks_6 : decode cX1_quietTicks 6 = .ok (.getfield 47, 3) := by decide +kernel
theorem dX1_quietTicks_9 : decode cX1_quietTicks 9 = .ok (.if_icmp .gt 24, 3) := by decide +kernel
theorem dX1_quietTicks_12 : decode cX1_quietTicks 12 = .ok (.aload_n 0, 1) := by decide +kernel
theorem dX1_quietTicks_13 : decode cX1_quietTicks 13 = .ok (.iload_n 1, 1) := by decide +kernel
theorem dX1_quietTicks_14 : decode cX1_quietTicks 14 = .ok (.iload_n 3, 1) := by decide +kernel
theorem dX1_quietTicks_15 : decode cX1_quietTicks 15 = .ok (.invokevirtual 60, 3) := by decide +kernel
theorem dX1_quietTicks_18 : decode cX1_quietTicks 18 = .ok (.ifCond .eq 9, 3) := by decide +kernel
theorem dX1_quietTicks_21 : decode cX1_quietTicks 21 = .ok (.iload_n 2, 1) := by decide +kernel
theorem dX1_quietTicks_22 : decode cX1_quietTicks 22 = .ok (.iconst 1, 1) := by decide +kernel
theorem dX1_quietTicks_23 : decode cX1_quietTicks 23 = .ok (.iload_n 3, 1) := by decide +kernel
theorem dX1_quietTicks_24 : decode cX1_quietTicks 24 = .ok (.ishl, 1) := by decide +kernel
theorem dX1_quietTicks_25 : decode cX1_quietTicks 25 = .ok (.ior, 1) := by decide +kernel
theorem dX1_quietTicks_26 : decode cX1_quietTicks 26 = .ok (.istore_n 2, 1) := by decide +kernel
theorem dX1_quietTicks_27 : decode cX1_quietTicks 27 = .ok (.iinc 3 1, 3) := by decide +kernel
theorem dX1_quietTicks_30 : decode cX1_quietTicks 30 = .ok (.goto (-26), 3) := by decide +kernel
theorem dX1_quietTicks_33 : decode cX1_quietTicks 33 = .ok (.iload_n 2, 1) := by decide +kernel
theorem dX1_quietTicks_34 : decode cX1_quietTicks 34 = .ok (.ireturn, 1) := by decide +kernel
theorem dX1_isQuiet_0 : decode cX1_isQuiet 0 = .ok (.iconst 0, 1) := by decide +kernel
theorem dX1_isQuiet_1 : decode cX1_isQuiet 1 = .ok (.istore_n 3, 1) := by decide +kernel
theorem dX1_isQuiet_2 : decode cX1_isQuiet 2 = .ok (.iload_n 3, 1) := by decide +kernel
theorem dX1_isQuiet_3 : decode cX1_isQuiet 3 = .ok (.aload_n 0, 1) := by decide +kernel
theorem dX1_isQuiet_4 : decode cX1_isQuiet 4 = .ok (.getfield 44, 3) := by decide +kernel
theorem dX1_isQuiet_7 : decode cX1_isQuiet 7 = .ok (.if_icmp .ge 60, 3) := by decide +kernel
theorem dX1_isQuiet_10 : decode cX1_isQuiet 10 = .ok (.aload_n 0, 1) := by decide +kernel
theorem dX1_isQuiet_11 : decode cX1_isQuiet 11 = .ok (.getfield 27, 3) := by decide +kernel
theorem dX1_isQuiet_14 : decode cX1_isQuiet 14 = .ok (.iload_n 3, 1) := by decide +kernel
theorem dX1_isQuiet_15 : decode cX1_isQuiet 15 = .ok (.iaload, 1) := by decide +kernel
theorem dX1_isQuiet_16 : decode cX1_isQuiet 16 = .ok (.ifCond .eq 17, 3) := by decide +kernel
theorem dX1_isQuiet_19 : decode cX1_isQuiet 19 = .ok (.aload_n 0, 1) := by decide +kernel
theorem dX1_isQuiet_20 : decode cX1_isQuiet 20 = .ok (.getfield 27, 3) := by decide +kernel
theorem dX1_isQuiet_23 : decode cX1_isQuiet 23 = .ok (.iload_n 3, 1) := by decide +kernel
theorem dX1_isQuiet_24 : decode cX1_isQuiet 24 = .ok (.iaload, 1) := by decide +kernel
theorem dX1_isQuiet_25 : decode cX1_isQuiet 25 = .ok (.iload_n 2, 1) := by decide +kernel
theorem dX1_isQuiet_26 : decode cX1_isQuiet 26 = .ok (.if_icmp .gt 7, 3) := by decide +kernel
theorem dX1_isQuiet_29 : decode cX1_isQuiet 29 = .ok (.iconst 1, 1) := by decide +kernel
theorem dX1_isQuiet_30 : decode cX1_isQuiet 30 = .ok (.goto 4, 3) := by decide +kernel
theorem dX1_isQuiet_33 : decode cX1_isQuiet 33 = .ok (.iconst 0, 1) := by decide +kernel
theorem dX1_isQuiet_34 : decode cX1_isQuiet 34 = .ok (.istore 4, 2) := by decide +kernel
theorem dX1_isQuiet_36 : decode cX1_isQuiet 36 = .ok (.iload_n 1, 1) := by decide +kernel
theorem dX1_isQuiet_37 : decode cX1_isQuiet 37 = .ok (.iload_n 3, 1) := by decide +kernel
theorem dX1_isQuiet_38 : decode cX1_isQuiet 38 = .ok (.invokestatic 64, 3) := by decide +kernel
theorem dX1_isQuiet_41 : decode cX1_isQuiet 41 = .ok (.ifCond .eq 20, 3) := by decide +kernel
theorem dX1_isQuiet_44 : decode cX1_isQuiet 44 = .ok (.aload_n 0, 1) := by decide +kernel
theorem dX1_isQuiet_45 : decode cX1_isQuiet 45 = .ok (.getfield 24, 3) := by decide +kernel
theorem dX1_isQuiet_48 : decode cX1_isQuiet 48 = .ok (.iload_n 3, 1) := by decide +kernel
theorem dX1_isQuiet_49 : decode cX1_isQuiet 49 = .ok (.iaload, 1) := by decide +kernel
theorem dX1_isQuiet_50 : decode cX1_isQuiet 50 = .ok (.iload_n 2, 1) := by decide +kernel
theorem dX1_isQuiet_51 : decode cX1_isQuiet 51 = .ok (.if_icmp .gt 10, 3) := by decide +kernel
theorem dX1_isQuiet_54 : decode cX1_isQuiet 54 = .ok (.iload 4, 2) := by decide +kernel
theorem dX1_isQuiet_56 : decode cX1_isQuiet 56 = .ok (.ifCond .ne 5, 3) := by decide +kernel
theorem dX1_isQuiet_59 : decode cX1_isQuiet 59 = .ok (.iconst 0, 1) := by decide +kernel
theorem dX1_isQuiet_60 : decode cX1_isQuiet 60 = .ok (.ireturn, 1) := by decide +kernel
theorem dX1_isQuiet_61 : decode cX1_isQuiet 61 = .ok (.iinc 3 1, 3) := by decide +kernel
theorem dX1_isQuiet_64 : decode cX1_isQuiet 64 = .ok (.goto (-62), 3) := by decide +kernel
theorem dX1_isQuiet_67 : decode cX1_isQuiet 67 = .ok (.iconst 1, 1) := by decide +kernel
theorem dX1_isQuiet_68 : decode cX1_isQuiet 68 = .ok (.ireturn, 1) := by decide +kernel
theorem dX1_isAhead_0 : decode cX1_isAhead 0 = .ok (.aload_n 0, 1) := by decide +kernel
theorem dX1_isAhead_1 : decode cX1_isAhead 1 = .ok (.iload_n 3, 1) := by decide +kernel
theorem dX1_isAhead_2 : decode cX1_isAhead 2 = .ok (.invokevirtual 67, 3) := by decide +kernel
theorem dX1_isAhead_5 : decode cX1_isAhead 5 = .ok (.ifCond .ne 19, 3) := by decide +kernel
theorem dX1_isAhead_8 : decode cX1_isAhead 8 = .ok (.aload_n 0, 1) := by decide +kernel
theorem dX1_isAhead_9 : decode cX1_isAhead 9 = .ok (.getfield 27, 3) := by decide +kernel
theorem dX1_isAhead_12 : decode cX1_isAhead 12 = .ok (.iload_n 3, 1) := by decide +kernel
theorem dX1_isAhead_13 : decode cX1_isAhead 13 = .ok (.iaload, 1) := by decide +kernel
theorem dX1_isAhead_14 : decode cX1_isAhead 14 = .ok (.aload_n 0, 1) := by decide +kernel
theorem dX1_isAhead_15 : decode cX1_isAhead 15 = .ok (.getfield 24, 3) := by decide +kernel
theorem dX1_isAhead_18 : decode cX1_isAhead 18 = .ok (.iload 4, 2) := by decide +kernel
theorem dX1_isAhead_20 : decode cX1_isAhead 20 = .ok (.iaload, 1) := by decide +kernel
theorem dX1_isAhead_21 : decode cX1_isAhead 21 = .ok (.if_icmp .lt 5, 3) := by decide +kernel
theorem dX1_isAhead_24 : decode cX1_isAhead 24 = .ok (.iconst 0, 1) := by decide +kernel
theorem dX1_isAhead_25 : decode cX1_isAhead 25 = .ok (.ireturn, 1) := by decide +kernel
theorem dX1_isAhead_26 : decode cX1_isAhead 26 = .ok (.iload_n 1, 1) := by decide +kernel
theorem dX1_isAhead_27 : decode cX1_isAhead 27 = .ok (.ifCond .eq 19, 3) := by decide +kernel
theorem dX1_isAhead_30 : decode cX1_isAhead 30 = .ok (.aload_n 0, 1) := by decide +kernel
theorem dX1_isAhead_31 : decode cX1_isAhead 31 = .ok (.getfield 9, 3) := by decide +kernel
theorem dX1_isAhead_34 : decode cX1_isAhead 34 = .ok (.iload_n 3, 1) := by decide +kernel
theorem dX1_isAhead_35 : decode cX1_isAhead 35 = .ok (.iaload, 1) := by decide +kernel
theorem dX1_isAhead_36 : decode cX1_isAhead 36 = .ok (.aload_n 0, 1) := by decide +kernel
theorem dX1_isAhead_37 : decode cX1_isAhead 37 = .ok (.getfield 9, 3) := by decide +kernel
theorem dX1_isAhead_40 : decode cX1_isAhead 40 = .ok (.iload 4, 2) := by decide +kernel
theorem dX1_isAhead_42 : decode cX1_isAhead 42 = .ok (.iaload, 1) := by decide +kernel
theorem dX1_isAhead_43 : decode cX1_isAhead 43 = .ok (.if_icmp .ne 5, 3) := by decide +kernel
theorem dX1_isAhead_46 : decode cX1_isAhead 46 = .ok (.iconst 1, 1) := by decide +kernel
theorem dX1_isAhead_47 : decode cX1_isAhead 47 = .ok (.ireturn, 1) := by decide +kernel
theorem dX1_isAhead_48 : decode cX1_isAhead 48 = .ok (.iconst 1, 1) := by decide +kernel
theorem dX1_isAhead_49 : decode cX1_isAhead 49 = .ok (.aload_n 0, 1) := by decide +kernel
theorem dX1_isAhead_50 : decode cX1_isAhead 50 = .ok (.getfield 24, 3) := by decide +kernel
theorem dX1_isAhead_53 : decode cX1_isAhead 53 = .ok (.iload 4, 2) := by decide +kernel
theorem dX1_isAhead_55 : decode cX1_isAhead 55 = .ok (.iaload, 1) := by decide +kernel
theorem dX1_isAhead_56 : decode cX1_isAhead 56 = .ok (.ishl, 1) := by decide +kernel
theorem dX1_isAhead_57 : decode cX1_isAhead 57 = .ok (.iconst 1, 1) := by decide +kernel
theorem dX1_isAhead_58 : decode cX1_isAhead 58 = .ok (.aload_n 0, 1) := by decide +kernel
theorem dX1_isAhead_59 : decode cX1_isAhead 59 = .ok (.getfield 27, 3) := by decide +kernel
theorem dX1_isAhead_62 : decode cX1_isAhead 62 = .ok (.iload_n 3, 1) := by decide +kernel
theorem dX1_isAhead_63 : decode cX1_isAhead 63 = .ok (.iaload, 1) := by decide +kernel
theorem dX1_isAhead_64 : decode cX1_isAhead 64 = .ok (.ishl, 1) := by decide +kernel
theorem dX1_isAhead_65 : decode cX1_isAhead 65 = .ok (.isub, 1) := by decide +kernel
theorem dX1_isAhead_66 : decode cX1_isAhead 66 = .ok (.istore 5, 2) := by decide +kernel
theorem dX1_isAhead_68 : decode cX1_isAhead 68 = .ok (.iload_n 1, 1) := by decide +kernel
theorem dX1_isAhead_69 : decode cX1_isAhead 69 = .ok (.iconst 1, 1) := by decide +kernel
theorem dX1_isAhead_70 : decode cX1_isAhead 70 = .ok (.if_icmp .ne 14, 3) := by decide +kernel
theorem dX1_isAhead_73 : decode cX1_isAhead 73 = .ok (.iload_n 2, 1) := by decide +kernel
theorem dX1_isAhead_74 : decode cX1_isAhead 74 = .ok (.iload 5, 2) := by decide +kernel
theorem dX1_isAhead_76 : decode cX1_isAhead 76 = .ok (.iand, 1) := by decide +kernel
theorem dX1_isAhead_77 : decode cX1_isAhead 77 = .ok (.ifCond .eq 7, 3) := by decide +kernel
theorem dX1_isAhead_80 : decode cX1_isAhead 80 = .ok (.iconst 1, 1) := by decide +kernel
theorem dX1_isAhead_81 : decode cX1_isAhead 81 = .ok (.goto 4, 3) := by decide +kernel
theorem dX1_isAhead_84 : decode cX1_isAhead 84 = .ok (.iconst 0, 1) := by decide +kernel
theorem dX1_isAhead_85 : decode cX1_isAhead 85 = .ok (.ireturn, 1) := by decide +kernel
theorem dX2_init_0 : decode cX2_init 0 = .ok (.aload_n 0, 1) := by decide +kernel
theorem dX2_init_1 : decode cX2_init 1 = .ok (.invokespecial 3, 3) := by decide +kernel
theorem dX2_init_4 : decode cX2_init 4 = .ok (.aload_n 0, 1) := by decide +kernel
theorem dX2_init_5 : decode cX2_init 5 = .ok (.sipush 1024, 3) := by decide +kernel
theorem dX2_init_8 : decode cX2_init 8 = .ok (.newarray .long, 2) := by decide +kernel
theorem dX2_init_10 : decode cX2_init 10 = .ok (.putfield 11, 3) := by decide +kernel
theorem dX2_init_13 : decode cX2_init 13 = .ok (.aload_n 0, 1) := by decide +kernel
theorem dX2_init_14 : decode cX2_init 14 = .ok (.sipush 1024, 3) := by decide +kernel
theorem dX2_init_17 : decode cX2_init 17 = .ok (.newarray .long, 2) := by decide +kernel
theorem dX2_init_19 : decode cX2_init 19 = .ok (.putfield 15, 3) := by decide +kernel
theorem dX2_init_22 : decode cX2_init 22 = .ok (.aload_n 0, 1) := by decide +kernel
theorem dX2_init_23 : decode cX2_init 23 = .ok (.sipush 1024, 3) := by decide +kernel
theorem dX2_init_26 : decode cX2_init 26 = .ok (.newarray .int, 2) := by decide +kernel
theorem dX2_init_28 : decode cX2_init 28 = .ok (.putfield 18, 3) := by decide +kernel
theorem dX2_init_31 : decode cX2_init 31 = .ok (.return_, 1) := by decide +kernel
theorem dX2_forget_0 : decode cX2_forget 0 = .ok (.aload_n 0, 1) := by decide +kernel
theorem dX2_forget_1 : decode cX2_forget 1 = .ok (.dup, 1) := by decide +kernel
theorem dX2_forget_2 : decode cX2_forget 2 = .ok (.getfield 22, 3) := by decide +kernel
theorem dX2_forget_5 : decode cX2_forget 5 = .ok (.iconst 1, 1) := by decide +kernel
theorem dX2_forget_6 : decode cX2_forget 6 = .ok (.iadd, 1) := by decide +kernel
theorem dX2_forget_7 : decode cX2_forget 7 = .ok (.putfield 22, 3) := by decide +kernel
theorem dX2_forget_10 : decode cX2_forget 10 = .ok (.return_, 1) := by decide +kernel
theorem dX2_placeOf_0 : decode cX2_placeOf 0 = .ok (.lload_n 0, 1) := by decide +kernel
theorem dX2_placeOf_1 : decode cX2_placeOf 1 = .ok (.ldc2_w 26, 3) := by decide +kernel
theorem dX2_placeOf_4 : decode cX2_placeOf 4 = .ok (.lmul, 1) := by decide +kernel
theorem dX2_placeOf_5 : decode cX2_placeOf 5 = .ok (.bipush 54, 2) := by decide +kernel
theorem dX2_placeOf_7 : decode cX2_placeOf 7 = .ok (.lushr, 1) := by decide +kernel
theorem dX2_placeOf_8 : decode cX2_placeOf 8 = .ok (.l2i, 1) := by decide +kernel
theorem dX2_placeOf_9 : decode cX2_placeOf 9 = .ok (.ireturn, 1) := by decide +kernel
theorem dX2_valueOf_0 : decode cX2_valueOf 0 = .ok (.lload_n 1, 1) := by decide +kernel
theorem dX2_valueOf_1 : decode cX2_valueOf 1 = .ok (.invokestatic 28, 3) := by decide +kernel
theorem dX2_valueOf_4 : decode cX2_valueOf 4 = .ok (.istore_n 3, 1) := by decide +kernel
theorem dX2_valueOf_5 : decode cX2_valueOf 5 = .ok (.aload_n 0, 1) := by decide +kernel
theorem dX2_valueOf_6 : decode cX2_valueOf 6 = .ok (.getfield 18, 3) := by decide +kernel
theorem dX2_valueOf_9 : decode cX2_valueOf 9 = .ok (.iload_n 3, 1) := by decide +kernel
theorem dX2_valueOf_10 : decode cX2_valueOf 10 = .ok (.iaload, 1) := by decide +kernel
theorem dX2_valueOf_11 : decode cX2_valueOf 11 = .ok (.aload_n 0, 1) := by decide +kernel
theorem dX2_valueOf_12 : decode cX2_valueOf 12 = .ok (.getfield 22, 3) := by decide +kernel
theorem dX2_valueOf_15 : decode cX2_valueOf 15 = .ok (.if_icmp .ne 23, 3) := by decide +kernel
theorem dX2_valueOf_18 : decode cX2_valueOf 18 = .ok (.aload_n 0, 1) := by decide +kernel
theorem dX2_valueOf_19 : decode cX2_valueOf 19 = .ok (.getfield 11, 3) := by decide +kernel
theorem dX2_valueOf_22 : decode cX2_valueOf 22 = .ok (.iload_n 3, 1) := by decide +kernel
theorem dX2_valueOf_23 : decode cX2_valueOf 23 = .ok (.laload, 1) := by decide +kernel
theorem dX2_valueOf_24 : decode cX2_valueOf 24 = .ok (.lload_n 1, 1) := by decide +kernel
theorem dX2_valueOf_25 : decode cX2_valueOf 25 = .ok (.lcmp, 1) := by decide +kernel
theorem dX2_valueOf_26 : decode cX2_valueOf 26 = .ok (.ifCond .ne 12, 3) := by decide +kernel
theorem dX2_valueOf_29 : decode cX2_valueOf 29 = .ok (.aload_n 0, 1) := by decide +kernel
theorem dX2_valueOf_30 : decode cX2_valueOf 30 = .ok (.getfield 15, 3) := by decide +kernel
theorem dX2_valueOf_33 : decode cX2_valueOf 33 = .ok (.iload_n 3, 1) := by decide +kernel
theorem dX2_valueOf_34 : decode cX2_valueOf 34 = .ok (.laload, 1) := by decide +kernel
theorem dX2_valueOf_35 : decode cX2_valueOf 35 = .ok (.goto 6, 3) := by decide +kernel
theorem dX2_valueOf_38 : decode cX2_valueOf 38 = .ok (.ldc2_w 32, 3) := by decide +kernel
theorem dX2_valueOf_41 : decode cX2_valueOf 41 = .ok (.lreturn, 1) := by decide +kernel
theorem dX2_put_0 : decode cX2_put 0 = .ok (.lload_n 1, 1) := by decide +kernel
theorem dX2_put_1 : decode cX2_put 1 = .ok (.invokestatic 28, 3) := by decide +kernel
theorem dX2_put_4 : decode cX2_put 4 = .ok (.istore 5, 2) := by decide +kernel
theorem dX2_put_6 : decode cX2_put 6 = .ok (.aload_n 0, 1) := by decide +kernel
theorem dX2_put_7 : decode cX2_put 7 = .ok (.getfield 18, 3) := by decide +kernel
theorem dX2_put_10 : decode cX2_put 10 = .ok (.iload 5, 2) := by decide +kernel
theorem dX2_put_12 : decode cX2_put 12 = .ok (.aload_n 0, 1) := by decide +kernel
theorem dX2_put_13 : decode cX2_put 13 = .ok (.getfield 22, 3) := by decide +kernel
theorem dX2_put_16 : decode cX2_put 16 = .ok (.iastore, 1) := by decide +kernel
theorem dX2_put_17 : decode cX2_put 17 = .ok (.aload_n 0, 1) := by decide +kernel
theorem dX2_put_18 : decode cX2_put 18 = .ok (.getfield 11, 3) := by decide +kernel
theorem dX2_put_21 : decode cX2_put 21 = .ok (.iload 5, 2) := by decide +kernel
theorem dX2_put_23 : decode cX2_put 23 = .ok (.lload_n 1, 1) := by decide +kernel
theorem dX2_put_24 : decode cX2_put 24 = .ok (.lastore, 1) := by decide +kernel
theorem dX2_put_25 : decode cX2_put 25 = .ok (.aload_n 0, 1) := by decide +kernel
theorem dX2_put_26 : decode cX2_put 26 = .ok (.getfield 15, 3) := by decide +kernel
theorem dX2_put_29 : decode cX2_put 29 = .ok (.iload 5, 2) := by decide +kernel
theorem dX2_put_31 : decode cX2_put 31 = .ok (.lload_n 3, 1) := by decide +kernel
theorem dX2_put_32 : decode cX2_put 32 = .ok (.lastore, 1) := by decide +kernel
theorem dX2_put_33 : decode cX2_put 33 = .ok (.return_, 1) := by decide +kernel
theorem dX3_isKind_0 : decode cX3_isKind 0 = .ok (.iload_n 0, 1) := by decide +kernel
theorem dX3_isKind_1 : decode cX3_isKind 1 = .ok (.ifCond .lt 13, 3) := by decide +kernel
theorem dX3_isKind_4 : decode cX3_isKind 4 = .ok (.iload_n 0, 1) := by decide +kernel
theorem dX3_isKind_5 : decode cX3_isKind 5 = .ok (.bipush 7, 2) := by decide +kernel
theorem dX3_isKind_7 : decode cX3_isKind 7 = .ok (.if_icmp .ge 7, 3) := by decide +kernel
theorem dX3_isKind_10 : decode cX3_isKind 10 = .ok (.iconst 1, 1) := by decide +kernel
theorem dX3_isKind_11 : decode cX3_isKind 11 = .ok (.goto 4, 3) := by decide +kernel
theorem dX3_isKind_14 : decode cX3_isKind 14 = .ok (.iconst 0, 1) := by decide +kernel
theorem dX3_isKind_15 : decode cX3_isKind 15 = .ok (.ireturn, 1) := by decide +kernel
theorem dX3_allows_0 : decode cX3_allows 0 = .ok (.iload_n 0, 1) := by decide +kernel
theorem dX3_allows_1 : decode cX3_allows 1 = .ok (.invokestatic 11, 3) := by decide +kernel
theorem dX3_allows_4 : decode cX3_allows 4 = .ok (.ifCond .eq 16, 3) := by decide +kernel
theorem dX3_allows_7 : decode cX3_allows 7 = .ok (.iload_n 1, 1) := by decide +kernel
theorem dX3_allows_8 : decode cX3_allows 8 = .ok (.ifCond .lt 12, 3) := by decide +kernel
theorem dX3_allows_11 : decode cX3_allows 11 = .ok (.iload_n 1, 1) := by decide +kernel
theorem dX3_allows_12 : decode cX3_allows 12 = .ok (.getstatic 15, 3) := by decide +kernel
theorem dX3_allows_15 : decode cX3_allows 15 = .ok (.iload_n 0, 1) := by decide +kernel
theorem dX3_allows_16 : decode cX3_allows 16 = .ok (.iaload, 1) := by decide +kernel
theorem dX3_allows_17 : decode cX3_allows 17 = .ok (.if_icmp .lt 5, 3) := by decide +kernel
theorem dX3_allows_20 : decode cX3_allows 20 = .ok (.iconst 0, 1) := by decide +kernel
theorem dX3_allows_21 : decode cX3_allows 21 = .ok (.ireturn, 1) := by decide +kernel
theorem dX3_allows_22 : decode cX3_allows 22 = .ok (.iload_n 0, 1) := by decide +kernel
theorem dX3_allows_23 : decode cX3_allows 23 = .ok (.iconst 4, 1) := by decide +kernel
theorem dX3_allows_24 : decode cX3_allows 24 = .ok (.if_icmp .ne 19, 3) := by decide +kernel
theorem dX3_allows_27 : decode cX3_allows 27 = .ok (.iload_n 2, 1) := by decide +kernel
theorem dX3_allows_28 : decode cX3_allows 28 = .ok (.ifCond .lt 13, 3) := by decide +kernel
theorem dX3_allows_31 : decode cX3_allows 31 = .ok (.iload_n 2, 1) := by decide +kernel
theorem dX3_allows_32 : decode cX3_allows 32 = .ok (.bipush 16, 2) := by decide +kernel
theorem dX3_allows_34 : decode cX3_allows 34 = .ok (.if_icmp .ge 7, 3) := by decide +kernel
theorem dX3_allows_37 : decode cX3_allows 37 = .ok (.iconst 1, 1) := by decide +kernel
theorem dX3_allows_38 : decode cX3_allows 38 = .ok (.goto 4, 3) := by decide +kernel
theorem dX3_allows_41 : decode cX3_allows 41 = .ok (.iconst 0, 1) := by decide +kernel
theorem dX3_allows_42 : decode cX3_allows 42 = .ok (.ireturn, 1) := by decide +kernel
theorem dX3_allows_43 : decode cX3_allows 43 = .ok (.iload_n 0, 1) := by decide +kernel
theorem dX3_allows_44 : decode cX3_allows 44 = .ok (.iconst 5, 1) := by decide +kernel
theorem dX3_allows_45 : decode cX3_allows 45 = .ok (.if_icmp .ne 12, 3) := by decide +kernel
theorem dX3_allows_48 : decode cX3_allows 48 = .ok (.iload_n 2, 1) := by decide +kernel
theorem dX3_allows_49 : decode cX3_allows 49 = .ok (.ifCond .lt 12, 3) := by decide +kernel
theorem dX3_allows_52 : decode cX3_allows 52 = .ok (.iload_n 2, 1) := by decide +kernel
theorem dX3_allows_53 : decode cX3_allows 53 = .ok (.iconst 4, 1) := by decide +kernel
theorem dX3_allows_54 : decode cX3_allows 54 = .ok (.if_icmp .ge 7, 3) := by decide +kernel
theorem dX3_allows_57 : decode cX3_allows 57 = .ok (.iconst 1, 1) := by decide +kernel
theorem dX3_allows_58 : decode cX3_allows 58 = .ok (.goto 4, 3) := by decide +kernel
theorem dX3_allows_61 : decode cX3_allows 61 = .ok (.iconst 0, 1) := by decide +kernel
theorem dX3_allows_62 : decode cX3_allows 62 = .ok (.ireturn, 1) := by decide +kernel
theorem dX3_reply_0 : decode cX3_reply 0 = .ok (.aload_n 0, 1) := by decide +kernel
theorem dX3_reply_1 : decode cX3_reply 1 = .ok (.getfield 19, 3) := by decide +kernel
theorem dX3_reply_4 : decode cX3_reply 4 = .ok (.tableswitch 196 0 6 #[44, 62, 86, 86, 110, 140, 170], 44) := by decide +kernel
theorem dX3_reply_48 : decode cX3_reply 48 = .ok (.aload_n 0, 1) := by decide +kernel
theorem dX3_reply_49 : decode cX3_reply 49 = .ok (.getfield 25, 3) := by decide +kernel
theorem dX3_reply_52 : decode cX3_reply 52 = .ok (.iload_n 1, 1) := by decide +kernel
theorem dX3_reply_53 : decode cX3_reply 53 = .ok (.iaload, 1) := by decide +kernel
theorem dX3_reply_54 : decode cX3_reply 54 = .ok (.lload_n 2, 1) := by decide +kernel
theorem dX3_reply_55 : decode cX3_reply 55 = .ok (.l2i, 1) := by decide +kernel
theorem dX3_reply_56 : decode cX3_reply 56 = .ok (.aload_n 0, 1) := by decide +kernel
theorem dX3_reply_57 : decode cX3_reply 57 = .ok (.getfield 28, 3) := by decide +kernel
theorem dX3_reply_60 : decode cX3_reply 60 = .ok (.iload_n 1, 1) := by decide +kernel
theorem dX3_reply_61 : decode cX3_reply 61 = .ok (.iaload, 1) := by decide +kernel
theorem dX3_reply_62 : decode cX3_reply 62 = .ok (.invokestatic 31, 3) := by decide +kernel
theorem dX3_reply_65 : decode cX3_reply 65 = .ok (.ireturn, 1) := by decide +kernel
theorem dX3_reply_66 : decode cX3_reply 66 = .ok (.aload_n 0, 1) := by decide +kernel
theorem dX3_reply_67 : decode cX3_reply 67 = .ok (.getfield 25, 3) := by decide +kernel
theorem dX3_reply_70 : decode cX3_reply 70 = .ok (.iload_n 1, 1) := by decide +kernel
theorem dX3_reply_71 : decode cX3_reply 71 = .ok (.iaload, 1) := by decide +kernel
theorem dX3_reply_72 : decode cX3_reply 72 = .ok (.ifCond .ne 8, 3) := by decide +kernel
theorem dX3_reply_75 : decode cX3_reply 75 = .ok (.lload_n 2, 1) := by decide +kernel
theorem dX3_reply_76 : decode cX3_reply 76 = .ok (.l2i, 1) := by decide +kernel
theorem dX3_reply_77 : decode cX3_reply 77 = .ok (.goto 12, 3) := by decide +kernel
theorem dX3_reply_80 : decode cX3_reply 80 = .ok (.lload_n 2, 1) := by decide +kernel
theorem dX3_reply_81 : decode cX3_reply 81 = .ok (.l2i, 1) := by decide +kernel
theorem dX3_reply_82 : decode cX3_reply 82 = .ok (.aload_n 0, 1) := by decide +kernel
theorem dX3_reply_83 : decode cX3_reply 83 = .ok (.getfield 28, 3) := by decide +kernel
theorem dX3_reply_86 : decode cX3_reply 86 = .ok (.iload_n 1, 1) := by decide +kernel
theorem dX3_reply_87 : decode cX3_reply 87 = .ok (.iaload, 1) := by decide +kernel
theorem dX3_reply_88 : decode cX3_reply 88 = .ok (.iadd, 1) := by decide +kernel
theorem dX3_reply_89 : decode cX3_reply 89 = .ok (.ireturn, 1) := by decide +kernel
theorem dX3_reply_90 : decode cX3_reply 90 = .ok (.aload_n 0, 1) := by decide +kernel
theorem dX3_reply_91 : decode cX3_reply 91 = .ok (.getfield 25, 3) := by decide +kernel
theorem dX3_reply_94 : decode cX3_reply 94 = .ok (.iload_n 1, 1) := by decide +kernel
theorem dX3_reply_95 : decode cX3_reply 95 = .ok (.iaload, 1) := by decide +kernel
theorem dX3_reply_96 : decode cX3_reply 96 = .ok (.ifCond .ne 12, 3) := by decide +kernel
theorem dX3_reply_99 : decode cX3_reply 99 = .ok (.lload_n 2, 1) := by decide +kernel
theorem dX3_reply_100 : decode cX3_reply 100 = .ok (.invokestatic 35, 3) := by decide +kernel
theorem dX3_reply_103 : decode cX3_reply 103 = .ok (.iconst 1, 1) := by decide +kernel
theorem dX3_reply_104 : decode cX3_reply 104 = .ok (.iadd, 1) := by decide +kernel
theorem dX3_reply_105 : decode cX3_reply 105 = .ok (.goto 8, 3) := by decide +kernel
theorem dX3_reply_108 : decode cX3_reply 108 = .ok (.aload_n 0, 1) := by decide +kernel
theorem dX3_reply_109 : decode cX3_reply 109 = .ok (.lload_n 2, 1) := by decide +kernel
theorem dX3_reply_110 : decode cX3_reply 110 = .ok (.invokestatic 39, 3) := by decide +kernel
theorem dX3_reply_113 : decode cX3_reply 113 = .ok (.ireturn, 1) := by decide +kernel
theorem dX3_reply_114 : decode cX3_reply 114 = .ok (.aload_n 0, 1) := by decide +kernel
theorem dX3_reply_115 : decode cX3_reply 115 = .ok (.getfield 25, 3) := by decide +kernel
theorem dX3_reply_118 : decode cX3_reply 118 = .ok (.iload_n 1, 1) := by decide +kernel
theorem dX3_reply_119 : decode cX3_reply 119 = .ok (.iaload, 1) := by decide +kernel
theorem dX3_reply_120 : decode cX3_reply 120 = .ok (.lload_n 2, 1) := by decide +kernel
theorem dX3_reply_121 : decode cX3_reply 121 = .ok (.aload_n 0, 1) := by decide +kernel
theorem dX3_reply_122 : decode cX3_reply 122 = .ok (.getfield 28, 3) := by decide +kernel
theorem dX3_reply_125 : decode cX3_reply 125 = .ok (.iload_n 1, 1) := by decide +kernel
theorem dX3_reply_126 : decode cX3_reply 126 = .ok (.iaload, 1) := by decide +kernel
theorem dX3_reply_127 : decode cX3_reply 127 = .ok (.lshr, 1) := by decide +kernel
theorem dX3_reply_128 : decode cX3_reply 128 = .ok (.lconst 1, 1) := by decide +kernel
theorem dX3_reply_129 : decode cX3_reply 129 = .ok (.land, 1) := by decide +kernel
theorem dX3_reply_130 : decode cX3_reply 130 = .ok (.lconst 0, 1) := by decide +kernel
theorem dX3_reply_131 : decode cX3_reply 131 = .ok (.lcmp, 1) := by decide +kernel
theorem dX3_reply_132 : decode cX3_reply 132 = .ok (.ifCond .eq 7, 3) := by decide +kernel
theorem dX3_reply_135 : decode cX3_reply 135 = .ok (.iconst 1, 1) := by decide +kernel
theorem dX3_reply_136 : decode cX3_reply 136 = .ok (.goto 4, 3) := by decide +kernel
theorem dX3_reply_139 : decode cX3_reply 139 = .ok (.iconst 0, 1) := by decide +kernel
theorem dX3_reply_140 : decode cX3_reply 140 = .ok (.invokestatic 43, 3) := by decide +kernel
theorem dX3_reply_143 : decode cX3_reply 143 = .ok (.ireturn, 1) := by decide +kernel
theorem dX3_reply_144 : decode cX3_reply 144 = .ok (.aload_n 0, 1) := by decide +kernel
theorem dX3_reply_145 : decode cX3_reply 145 = .ok (.getfield 25, 3) := by decide +kernel
theorem dX3_reply_148 : decode cX3_reply 148 = .ok (.iload_n 1, 1) := by decide +kernel
theorem dX3_reply_149 : decode cX3_reply 149 = .ok (.iaload, 1) := by decide +kernel
theorem dX3_reply_150 : decode cX3_reply 150 = .ok (.aload_n 0, 1) := by decide +kernel
theorem dX3_reply_151 : decode cX3_reply 151 = .ok (.lload_n 2, 1) := by decide +kernel
theorem dX3_reply_152 : decode cX3_reply 152 = .ok (.aload_n 0, 1) := by decide +kernel
theorem dX3_reply_153 : decode cX3_reply 153 = .ok (.getfield 28, 3) := by decide +kernel
theorem dX3_reply_156 : decode cX3_reply 156 = .ok (.iload_n 1, 1) := by decide +kernel
theorem dX3_reply_157 : decode cX3_reply 157 = .ok (.iaload, 1) := by decide +kernel
theorem dX3_reply_158 : decode cX3_reply 158 = .ok (.invokestatic 47, 3) := by decide +kernel
theorem dX3_reply_161 : decode cX3_reply 161 = .ok (.aload_n 0, 1) := by decide +kernel
theorem dX3_reply_162 : decode cX3_reply 162 = .ok (.getfield 51, 3) := by decide +kernel
theorem dX3_reply_165 : decode cX3_reply 165 = .ok (.iload_n 1, 1) := by decide +kernel
theorem dX3_reply_166 : decode cX3_reply 166 = .ok (.iaload, 1) := by decide +kernel
theorem dX3_reply_167 : decode cX3_reply 167 = .ok (.bipush 16, 2) := by decide +kernel
theorem dX3_reply_169 : decode cX3_reply 169 = .ok (.ishr, 1) := by decide +kernel
theorem dX3_reply_170 : decode cX3_reply 170 = .ok (.invokestatic 31, 3) := by decide +kernel
theorem dX3_reply_173 : decode cX3_reply 173 = .ok (.ireturn, 1) := by decide +kernel
theorem dX3_reply_174 : decode cX3_reply 174 = .ok (.aload_n 0, 1) := by decide +kernel
theorem dX3_reply_175 : decode cX3_reply 175 = .ok (.getfield 54, 3) := by decide +kernel
theorem dX3_reply_178 : decode cX3_reply 178 = .ok (.ifnonnull 7, 3) := by decide +kernel
theorem dX3_reply_181 : decode cX3_reply 181 = .ok (.iconst 0, 1) := by decide +kernel
theorem dX3_reply_182 : decode cX3_reply 182 = .ok (.goto 17, 3) := by decide +kernel
theorem dX3_reply_185 : decode cX3_reply 185 = .ok (.aload_n 0, 1) := by decide +kernel
theorem dX3_reply_186 : decode cX3_reply 186 = .ok (.getfield 54, 3) := by decide +kernel
theorem dX3_reply_189 : decode cX3_reply 189 = .ok (.lload_n 2, 1) := by decide +kernel
theorem dX3_reply_190 : decode cX3_reply 190 = .ok (.aload_n 0, 1) := by decide +kernel
theorem dX3_reply_191 : decode cX3_reply 191 = .ok (.getfield 25, 3) := by decide +kernel
theorem dX3_reply_194 : decode cX3_reply 194 = .ok (.iload_n 1, 1) := by decide +kernel
theorem dX3_reply_195 : decode cX3_reply 195 = .ok (.iaload, 1) := by decide +kernel
theorem dX3_reply_196 : decode cX3_reply 196 = .ok (.invokevirtual 58, 3) := by decide +kernel
theorem dX3_reply_199 : decode cX3_reply 199 = .ok (.ireturn, 1) := by decide +kernel
theorem dX3_reply_200 : decode cX3_reply 200 = .ok (.iconst 0, 1) := by decide +kernel
theorem dX3_reply_201 : decode cX3_reply 201 = .ok (.ireturn, 1) := by decide +kernel
theorem dX3_after_0 : decode cX3_after 0 = .ok (.aload_n 0, 1) := by decide +kernel
theorem dX3_after_1 : decode cX3_after 1 = .ok (.getfield 19, 3) := by decide +kernel
theorem dX3_after_4 : decode cX3_after 4 = .ok (.tableswitch 173 0 6 #[44, 51, 75, 96, 120, 139, 146], 44) := by decide +kernel
theorem dX3_after_48 : decode cX3_after 48 = .ok (.aload_n 0, 1) := by decide +kernel
theorem dX3_after_49 : decode cX3_after 49 = .ok (.iload_n 1, 1) := by decide +kernel
theorem dX3_after_50 : decode cX3_after 50 = .ok (.lload_n 2, 1) := by decide +kernel
theorem dX3_after_51 : decode cX3_after 51 = .ok (.invokestatic 64, 3) := by decide +kernel
theorem dX3_after_54 : decode cX3_after 54 = .ok (.lreturn, 1) := by decide +kernel
theorem dX3_after_55 : decode cX3_after 55 = .ok (.aload_n 0, 1) := by decide +kernel
theorem dX3_after_56 : decode cX3_after 56 = .ok (.getfield 25, 3) := by decide +kernel
theorem dX3_after_59 : decode cX3_after 59 = .ok (.iload_n 1, 1) := by decide +kernel
theorem dX3_after_60 : decode cX3_after 60 = .ok (.iaload, 1) := by decide +kernel
theorem dX3_after_61 : decode cX3_after 61 = .ok (.ifCond .ne 7, 3) := by decide +kernel
theorem dX3_after_64 : decode cX3_after 64 = .ok (.lload_n 2, 1) := by decide +kernel
theorem dX3_after_65 : decode cX3_after 65 = .ok (.goto 13, 3) := by decide +kernel
theorem dX3_after_68 : decode cX3_after 68 = .ok (.lload_n 2, 1) := by decide +kernel
theorem dX3_after_69 : decode cX3_after 69 = .ok (.l2i, 1) := by decide +kernel
theorem dX3_after_70 : decode cX3_after 70 = .ok (.aload_n 0, 1) := by decide +kernel
theorem dX3_after_71 : decode cX3_after 71 = .ok (.getfield 28, 3) := by decide +kernel
theorem dX3_after_74 : decode cX3_after 74 = .ok (.iload_n 1, 1) := by decide +kernel
theorem dX3_after_75 : decode cX3_after 75 = .ok (.iaload, 1) := by decide +kernel
theorem dX3_after_76 : decode cX3_after 76 = .ok (.iadd, 1) := by decide +kernel
theorem dX3_after_77 : decode cX3_after 77 = .ok (.i2l, 1) := by decide +kernel
theorem dX3_after_78 : decode cX3_after 78 = .ok (.lreturn, 1) := by decide +kernel
theorem dX3_after_79 : decode cX3_after 79 = .ok (.aload_n 0, 1) := by decide +kernel
theorem dX3_after_80 : decode cX3_after 80 = .ok (.getfield 25, 3) := by decide +kernel
theorem dX3_after_83 : decode cX3_after 83 = .ok (.iload_n 1, 1) := by decide +kernel
theorem dX3_after_84 : decode cX3_after 84 = .ok (.iaload, 1) := by decide +kernel
theorem dX3_after_85 : decode cX3_after 85 = .ok (.ifCond .ne 11, 3) := by decide +kernel
theorem dX3_after_88 : decode cX3_after 88 = .ok (.iload_n 1, 1) := by decide +kernel
theorem dX3_after_89 : decode cX3_after 89 = .ok (.lload_n 2, 1) := by decide +kernel
theorem dX3_after_90 : decode cX3_after 90 = .ok (.invokestatic 68, 3) := by decide +kernel
theorem dX3_after_93 : decode cX3_after 93 = .ok (.goto 6, 3) := by decide +kernel
theorem dX3_after_96 : decode cX3_after 96 = .ok (.lload_n 2, 1) := by decide +kernel
theorem dX3_after_97 : decode cX3_after 97 = .ok (.iconst 4, 1) := by decide +kernel
theorem dX3_after_98 : decode cX3_after 98 = .ok (.lushr, 1) := by decide +kernel
theorem dX3_after_99 : decode cX3_after 99 = .ok (.lreturn, 1) := by decide +kernel
theorem dX3_after_100 : decode cX3_after 100 = .ok (.aload_n 0, 1) := by decide +kernel
theorem dX3_after_101 : decode cX3_after 101 = .ok (.getfield 25, 3) := by decide +kernel
theorem dX3_after_104 : decode cX3_after 104 = .ok (.iload_n 1, 1) := by decide +kernel
theorem dX3_after_105 : decode cX3_after 105 = .ok (.iaload, 1) := by decide +kernel
theorem dX3_after_106 : decode cX3_after 106 = .ok (.ifCond .ne 14, 3) := by decide +kernel
theorem dX3_after_109 : decode cX3_after 109 = .ok (.lload_n 2, 1) := by decide +kernel
theorem dX3_after_110 : decode cX3_after 110 = .ok (.iconst 4, 1) := by decide +kernel
theorem dX3_after_111 : decode cX3_after 111 = .ok (.lshl, 1) := by decide +kernel
theorem dX3_after_112 : decode cX3_after 112 = .ok (.iload_n 1, 1) := by decide +kernel
theorem dX3_after_113 : decode cX3_after 113 = .ok (.iconst 1, 1) := by decide +kernel
theorem dX3_after_114 : decode cX3_after 114 = .ok (.iadd, 1) := by decide +kernel
theorem dX3_after_115 : decode cX3_after 115 = .ok (.i2l, 1) := by decide +kernel
theorem dX3_after_116 : decode cX3_after 116 = .ok (.lor, 1) := by decide +kernel
theorem dX3_after_117 : decode cX3_after 117 = .ok (.goto 6, 3) := by decide +kernel
theorem dX3_after_120 : decode cX3_after 120 = .ok (.lload_n 2, 1) := by decide +kernel
theorem dX3_after_121 : decode cX3_after 121 = .ok (.iconst 4, 1) := by decide +kernel
theorem dX3_after_122 : decode cX3_after 122 = .ok (.lushr, 1) := by decide +kernel
theorem dX3_after_123 : decode cX3_after 123 = .ok (.lreturn, 1) := by decide +kernel
theorem dX3_after_124 : decode cX3_after 124 = .ok (.aload_n 0, 1) := by decide +kernel
theorem dX3_after_125 : decode cX3_after 125 = .ok (.getfield 25, 3) := by decide +kernel
theorem dX3_after_128 : decode cX3_after 128 = .ok (.iload_n 1, 1) := by decide +kernel
theorem dX3_after_129 : decode cX3_after 129 = .ok (.iaload, 1) := by decide +kernel
theorem dX3_after_130 : decode cX3_after 130 = .ok (.lconst 1, 1) := by decide +kernel
theorem dX3_after_131 : decode cX3_after 131 = .ok (.aload_n 0, 1) := by decide +kernel
theorem dX3_after_132 : decode cX3_after 132 = .ok (.getfield 28, 3) := by decide +kernel
theorem dX3_after_135 : decode cX3_after 135 = .ok (.iload_n 1, 1) := by decide +kernel
theorem dX3_after_136 : decode cX3_after 136 = .ok (.iaload, 1) := by decide +kernel
theorem dX3_after_137 : decode cX3_after 137 = .ok (.lshl, 1) := by decide +kernel
theorem dX3_after_138 : decode cX3_after 138 = .ok (.lload_n 2, 1) := by decide +kernel
theorem dX3_after_139 : decode cX3_after 139 = .ok (.invokestatic 72, 3) := by decide +kernel
theorem dX3_after_142 : decode cX3_after 142 = .ok (.lreturn, 1) := by decide +kernel
theorem dX3_after_143 : decode cX3_after 143 = .ok (.aload_n 0, 1) := by decide +kernel
theorem dX3_after_144 : decode cX3_after 144 = .ok (.iload_n 1, 1) := by decide +kernel
theorem dX3_after_145 : decode cX3_after 145 = .ok (.lload_n 2, 1) := by decide +kernel
theorem dX3_after_146 : decode cX3_after 146 = .ok (.invokestatic 76, 3) := by decide +kernel
theorem dX3_after_149 : decode cX3_after 149 = .ok (.lreturn, 1) := by decide +kernel
theorem dX3_after_150 : decode cX3_after 150 = .ok (.aload_n 0, 1) := by decide +kernel
theorem dX3_after_151 : decode cX3_after 151 = .ok (.getfield 54, 3) := by decide +kernel
theorem dX3_after_154 : decode cX3_after 154 = .ok (.ifnonnull 7, 3) := by decide +kernel
theorem dX3_after_157 : decode cX3_after 157 = .ok (.lconst 0, 1) := by decide +kernel
theorem dX3_after_158 : decode cX3_after 158 = .ok (.goto 18, 3) := by decide +kernel
theorem dX3_after_161 : decode cX3_after 161 = .ok (.aload_n 0, 1) := by decide +kernel
theorem dX3_after_162 : decode cX3_after 162 = .ok (.getfield 54, 3) := by decide +kernel
theorem dX3_after_165 : decode cX3_after 165 = .ok (.lload_n 2, 1) := by decide +kernel
theorem dX3_after_166 : decode cX3_after 166 = .ok (.aload_n 0, 1) := by decide +kernel
theorem dX3_after_167 : decode cX3_after 167 = .ok (.getfield 25, 3) := by decide +kernel
theorem dX3_after_170 : decode cX3_after 170 = .ok (.iload_n 1, 1) := by decide +kernel
theorem dX3_after_171 : decode cX3_after 171 = .ok (.iaload, 1) := by decide +kernel
theorem dX3_after_172 : decode cX3_after 172 = .ok (.invokevirtual 79, 3) := by decide +kernel
theorem dX3_after_175 : decode cX3_after 175 = .ok (.i2l, 1) := by decide +kernel
theorem dX3_after_176 : decode cX3_after 176 = .ok (.lreturn, 1) := by decide +kernel
theorem dX3_after_177 : decode cX3_after 177 = .ok (.lconst 0, 1) := by decide +kernel
theorem dX3_after_178 : decode cX3_after 178 = .ok (.lreturn, 1) := by decide +kernel
theorem dX3_cellReply_0 : decode cX3_cellReply 0 = .ok (.iload_n 0, 1) := by decide +kernel
theorem dX3_cellReply_1 : decode cX3_cellReply 1 = .ok (.ifCond .ne 5, 3) := by decide +kernel
theorem dX3_cellReply_4 : decode cX3_cellReply 4 = .ok (.iload_n 1, 1) := by decide +kernel
theorem dX3_cellReply_5 : decode cX3_cellReply 5 = .ok (.ireturn, 1) := by decide +kernel
theorem dX3_cellReply_6 : decode cX3_cellReply 6 = .ok (.iload_n 0, 1) := by decide +kernel
theorem dX3_cellReply_7 : decode cX3_cellReply 7 = .ok (.iconst 1, 1) := by decide +kernel
theorem dX3_cellReply_8 : decode cX3_cellReply 8 = .ok (.if_icmp .eq 12, 3) := by decide +kernel
theorem dX3_cellReply_11 : decode cX3_cellReply 11 = .ok (.iload_n 1, 1) := by decide +kernel
theorem dX3_cellReply_12 : decode cX3_cellReply 12 = .ok (.iload_n 2, 1) := by decide +kernel
theorem dX3_cellReply_13 : decode cX3_cellReply 13 = .ok (.if_icmp .ne 7, 3) := by decide +kernel
theorem dX3_cellReply_16 : decode cX3_cellReply 16 = .ok (.iconst 1, 1) := by decide +kernel
theorem dX3_cellReply_17 : decode cX3_cellReply 17 = .ok (.goto 4, 3) := by decide +kernel
theorem dX3_cellReply_20 : decode cX3_cellReply 20 = .ok (.iconst 0, 1) := by decide +kernel
theorem dX3_cellReply_21 : decode cX3_cellReply 21 = .ok (.ireturn, 1) := by decide +kernel
theorem dX3_cellAfter_0 : decode cX3_cellAfter 0 = .ok (.aload_n 0, 1) := by decide +kernel
theorem dX3_cellAfter_1 : decode cX3_cellAfter 1 = .ok (.getfield 25, 3) := by decide +kernel
theorem dX3_cellAfter_4 : decode cX3_cellAfter 4 = .ok (.iload_n 1, 1) := by decide +kernel
theorem dX3_cellAfter_5 : decode cX3_cellAfter 5 = .ok (.iaload, 1) := by decide +kernel
theorem dX3_cellAfter_6 : decode cX3_cellAfter 6 = .ok (.ifCond .ne 5, 3) := by decide +kernel
theorem dX3_cellAfter_9 : decode cX3_cellAfter 9 = .ok (.lload_n 2, 1) := by decide +kernel
theorem dX3_cellAfter_10 : decode cX3_cellAfter 10 = .ok (.lreturn, 1) := by decide +kernel
theorem dX3_cellAfter_11 : decode cX3_cellAfter 11 = .ok (.aload_n 0, 1) := by decide +kernel
theorem dX3_cellAfter_12 : decode cX3_cellAfter 12 = .ok (.getfield 25, 3) := by decide +kernel
theorem dX3_cellAfter_15 : decode cX3_cellAfter 15 = .ok (.iload_n 1, 1) := by decide +kernel
theorem dX3_cellAfter_16 : decode cX3_cellAfter 16 = .ok (.iaload, 1) := by decide +kernel
theorem dX3_cellAfter_17 : decode cX3_cellAfter 17 = .ok (.iconst 1, 1) := by decide +kernel
theorem dX3_cellAfter_18 : decode cX3_cellAfter 18 = .ok (.if_icmp .ne 11, 3) := by decide +kernel
theorem dX3_cellAfter_21 : decode cX3_cellAfter 21 = .ok (.aload_n 0, 1) := by decide +kernel
theorem dX3_cellAfter_22 : decode cX3_cellAfter 22 = .ok (.getfield 28, 3) := by decide +kernel
theorem dX3_cellAfter_25 : decode cX3_cellAfter 25 = .ok (.iload_n 1, 1) := by decide +kernel
theorem dX3_cellAfter_26 : decode cX3_cellAfter 26 = .ok (.iaload, 1) := by decide +kernel
theorem dX3_cellAfter_27 : decode cX3_cellAfter 27 = .ok (.i2l, 1) := by decide +kernel
theorem dX3_cellAfter_28 : decode cX3_cellAfter 28 = .ok (.lreturn, 1) := by decide +kernel
theorem dX3_cellAfter_29 : decode cX3_cellAfter 29 = .ok (.lload_n 2, 1) := by decide +kernel
theorem dX3_cellAfter_30 : decode cX3_cellAfter 30 = .ok (.aload_n 0, 1) := by decide +kernel
theorem dX3_cellAfter_31 : decode cX3_cellAfter 31 = .ok (.getfield 28, 3) := by decide +kernel
theorem dX3_cellAfter_34 : decode cX3_cellAfter 34 = .ok (.iload_n 1, 1) := by decide +kernel
theorem dX3_cellAfter_35 : decode cX3_cellAfter 35 = .ok (.iaload, 1) := by decide +kernel
theorem dX3_cellAfter_36 : decode cX3_cellAfter 36 = .ok (.i2l, 1) := by decide +kernel
theorem dX3_cellAfter_37 : decode cX3_cellAfter 37 = .ok (.lcmp, 1) := by decide +kernel
theorem dX3_cellAfter_38 : decode cX3_cellAfter 38 = .ok (.ifCond .ne 13, 3) := by decide +kernel
theorem dX3_cellAfter_41 : decode cX3_cellAfter 41 = .ok (.aload_n 0, 1) := by decide +kernel
theorem dX3_cellAfter_42 : decode cX3_cellAfter 42 = .ok (.getfield 51, 3) := by decide +kernel
theorem dX3_cellAfter_45 : decode cX3_cellAfter 45 = .ok (.iload_n 1, 1) := by decide +kernel
theorem dX3_cellAfter_46 : decode cX3_cellAfter 46 = .ok (.iaload, 1) := by decide +kernel
theorem dX3_cellAfter_47 : decode cX3_cellAfter 47 = .ok (.i2l, 1) := by decide +kernel
theorem dX3_cellAfter_48 : decode cX3_cellAfter 48 = .ok (.goto 4, 3) := by decide +kernel
theorem dX3_cellAfter_51 : decode cX3_cellAfter 51 = .ok (.lload_n 2, 1) := by decide +kernel
theorem dX3_cellAfter_52 : decode cX3_cellAfter 52 = .ok (.lreturn, 1) := by decide +kernel
theorem dX3_lengthOf_0 : decode cX3_lengthOf 0 = .ok (.bipush 64, 2) := by decide +kernel
theorem dX3_lengthOf_2 : decode cX3_lengthOf 2 = .ok (.lload_n 0, 1) := by decide +kernel
theorem dX3_lengthOf_3 : decode cX3_lengthOf 3 = .ok (.invokestatic 82, 3) := by decide +kernel
theorem dX3_lengthOf_6 : decode cX3_lengthOf 6 = .ok (.isub, 1) := by decide +kernel
theorem dX3_lengthOf_7 : decode cX3_lengthOf 7 = .ok (.istore_n 2, 1) := by decide +kernel
theorem dX3_lengthOf_8 : decode cX3_lengthOf 8 = .ok (.iload_n 2, 1) := by decide +kernel
theorem dX3_lengthOf_9 : decode cX3_lengthOf 9 = .ok (.iconst 4, 1) := by decide +kernel
theorem dX3_lengthOf_10 : decode cX3_lengthOf 10 = .ok (.iadd, 1) := by decide +kernel
theorem dX3_lengthOf_11 : decode cX3_lengthOf 11 = .ok (.iconst 1, 1) := by decide +kernel
theorem dX3_lengthOf_12 : decode cX3_lengthOf 12 = .ok (.isub, 1) := by decide +kernel
theorem dX3_lengthOf_13 : decode cX3_lengthOf 13 = .ok (.iconst 4, 1) := by decide +kernel
theorem dX3_lengthOf_14 : decode cX3_lengthOf 14 = .ok (.idiv, 1) := by decide +kernel
theorem dX3_lengthOf_15 : decode cX3_lengthOf 15 = .ok (.ireturn, 1) := by decide +kernel
theorem dX3_taken_0 : decode cX3_taken 0 = .ok (.lload_n 1, 1) := by decide +kernel
theorem dX3_taken_1 : decode cX3_taken 1 = .ok (.ldc2_w 87, 3) := by decide +kernel
theorem dX3_taken_4 : decode cX3_taken 4 = .ok (.land, 1) := by decide +kernel
theorem dX3_taken_5 : decode cX3_taken 5 = .ok (.l2i, 1) := by decide +kernel
theorem dX3_taken_6 : decode cX3_taken 6 = .ok (.iconst 1, 1) := by decide +kernel
theorem dX3_taken_7 : decode cX3_taken 7 = .ok (.isub, 1) := by decide +kernel
theorem dX3_taken_8 : decode cX3_taken 8 = .ok (.istore_n 3, 1) := by decide +kernel
theorem dX3_taken_9 : decode cX3_taken 9 = .ok (.aload_n 0, 1) := by decide +kernel
theorem dX3_taken_10 : decode cX3_taken 10 = .ok (.iload_n 3, 1) := by decide +kernel
theorem dX3_taken_11 : decode cX3_taken 11 = .ok (.invokevirtual 89, 3) := by decide +kernel
theorem dX3_taken_14 : decode cX3_taken 14 = .ok (.ifCond .eq 12, 3) := by decide +kernel
theorem dX3_taken_17 : decode cX3_taken 17 = .ok (.aload_n 0, 1) := by decide +kernel
theorem dX3_taken_18 : decode cX3_taken 18 = .ok (.getfield 28, 3) := by decide +kernel
theorem dX3_taken_21 : decode cX3_taken 21 = .ok (.iload_n 3, 1) := by decide +kernel
theorem dX3_taken_22 : decode cX3_taken 22 = .ok (.iaload, 1) := by decide +kernel
theorem dX3_taken_23 : decode cX3_taken 23 = .ok (.goto 4, 3) := by decide +kernel
theorem dX3_taken_26 : decode cX3_taken 26 = .ok (.iconst (-1), 1) := by decide +kernel
theorem dX3_taken_27 : decode cX3_taken 27 = .ok (.ireturn, 1) := by decide +kernel
theorem dX3_putBehind_0 : decode cX3_putBehind 0 = .ok (.lload_n 1, 1) := by decide +kernel
theorem dX3_putBehind_1 : decode cX3_putBehind 1 = .ok (.iload_n 0, 1) := by decide +kernel
theorem dX3_putBehind_2 : decode cX3_putBehind 2 = .ok (.i2l, 1) := by decide +kernel
theorem dX3_putBehind_3 : decode cX3_putBehind 3 = .ok (.lconst 1, 1) := by decide +kernel
theorem dX3_putBehind_4 : decode cX3_putBehind 4 = .ok (.ladd, 1) := by decide +kernel
theorem dX3_putBehind_5 : decode cX3_putBehind 5 = .ok (.lload_n 1, 1) := by decide +kernel
theorem dX3_putBehind_6 : decode cX3_putBehind 6 = .ok (.invokestatic 35, 3) := by decide +kernel
theorem dX3_putBehind_9 : decode cX3_putBehind 9 = .ok (.iconst 4, 1) := by decide +kernel
theorem dX3_putBehind_10 : decode cX3_putBehind 10 = .ok (.imul, 1) := by decide +kernel
theorem dX3_putBehind_11 : decode cX3_putBehind 11 = .ok (.lshl, 1) := by decide +kernel
theorem dX3_putBehind_12 : decode cX3_putBehind 12 = .ok (.lor, 1) := by decide +kernel
theorem dX3_putBehind_13 : decode cX3_putBehind 13 = .ok (.lreturn, 1) := by decide +kernel
theorem dX3_setReply_0 : decode cX3_setReply 0 = .ok (.iload_n 1, 1) := by decide +kernel
theorem dX3_setReply_1 : decode cX3_setReply 1 = .ok (.iload_n 0, 1) := by decide +kernel
theorem dX3_setReply_2 : decode cX3_setReply 2 = .ok (.ifCond .ne 7, 3) := by decide +kernel
theorem dX3_setReply_5 : decode cX3_setReply 5 = .ok (.iconst 1, 1) := by decide +kernel
theorem dX3_setReply_6 : decode cX3_setReply 6 = .ok (.goto 4, 3) := by decide +kernel
theorem dX3_setReply_9 : decode cX3_setReply 9 = .ok (.iconst 0, 1) := by decide +kernel
theorem dX3_setReply_10 : decode cX3_setReply 10 = .ok (.if_icmp .eq 7, 3) := by decide +kernel
theorem dX3_setReply_13 : decode cX3_setReply 13 = .ok (.iconst 1, 1) := by decide +kernel
theorem dX3_setReply_14 : decode cX3_setReply 14 = .ok (.goto 4, 3) := by decide +kernel
theorem dX3_setReply_17 : decode cX3_setReply 17 = .ok (.iconst 0, 1) := by decide +kernel
theorem dX3_setReply_18 : decode cX3_setReply 18 = .ok (.ireturn, 1) := by decide +kernel
theorem dX3_setAfter_0 : decode cX3_setAfter 0 = .ok (.iload_n 0, 1) := by decide +kernel
theorem dX3_setAfter_1 : decode cX3_setAfter 1 = .ok (.ifCond .ne 7, 3) := by decide +kernel
theorem dX3_setAfter_4 : decode cX3_setAfter 4 = .ok (.lload_n 3, 1) := by decide +kernel
theorem dX3_setAfter_5 : decode cX3_setAfter 5 = .ok (.lload_n 1, 1) := by decide +kernel
theorem dX3_setAfter_6 : decode cX3_setAfter 6 = .ok (.lor, 1) := by decide +kernel
theorem dX3_setAfter_7 : decode cX3_setAfter 7 = .ok (.lreturn, 1) := by decide +kernel
theorem dX3_setAfter_8 : decode cX3_setAfter 8 = .ok (.iload_n 0, 1) := by decide +kernel
theorem dX3_setAfter_9 : decode cX3_setAfter 9 = .ok (.iconst 1, 1) := by decide +kernel
theorem dX3_setAfter_10 : decode cX3_setAfter 10 = .ok (.if_icmp .ne 13, 3) := by decide +kernel
theorem dX3_setAfter_13 : decode cX3_setAfter 13 = .ok (.lload_n 3, 1) := by decide +kernel
theorem dX3_setAfter_14 : decode cX3_setAfter 14 = .ok (.lload_n 1, 1) := by decide +kernel
theorem dX3_setAfter_15 : decode cX3_setAfter 15 = .ok (.ldc2_w 92, 3) := by decide +kernel
theorem dX3_setAfter_18 : decode cX3_setAfter 18 = .ok (.lxor, 1) := by decide +kernel
theorem dX3_setAfter_19 : decode cX3_setAfter 19 = .ok (.land, 1) := by decide +kernel
theorem dX3_setAfter_20 : decode cX3_setAfter 20 = .ok (.goto 4, 3) := by decide +kernel
theorem dX3_setAfter_23 : decode cX3_setAfter 23 = .ok (.lload_n 3, 1) := by decide +kernel
theorem dX3_setAfter_24 : decode cX3_setAfter 24 = .ok (.lreturn, 1) := by decide +kernel
theorem dX3_valueAt_0 : decode cX3_valueAt 0 = .ok (.lload_n 1, 1) := by decide +kernel
theorem dX3_valueAt_1 : decode cX3_valueAt 1 = .ok (.iload_n 3, 1) := by decide +kernel
theorem dX3_valueAt_2 : decode cX3_valueAt 2 = .ok (.iconst 4, 1) := by decide +kernel
theorem dX3_valueAt_3 : decode cX3_valueAt 3 = .ok (.imul, 1) := by decide +kernel
theorem dX3_valueAt_4 : decode cX3_valueAt 4 = .ok (.lshr, 1) := by decide +kernel
theorem dX3_valueAt_5 : decode cX3_valueAt 5 = .ok (.ldc2_w 87, 3) := by decide +kernel
theorem dX3_valueAt_8 : decode cX3_valueAt 8 = .ok (.land, 1) := by decide +kernel
theorem dX3_valueAt_9 : decode cX3_valueAt 9 = .ok (.l2i, 1) := by decide +kernel
theorem dX3_valueAt_10 : decode cX3_valueAt 10 = .ok (.iconst 1, 1) := by decide +kernel
theorem dX3_valueAt_11 : decode cX3_valueAt 11 = .ok (.isub, 1) := by decide +kernel
theorem dX3_valueAt_12 : decode cX3_valueAt 12 = .ok (.istore 4, 2) := by decide +kernel
theorem dX3_valueAt_14 : decode cX3_valueAt 14 = .ok (.aload_n 0, 1) := by decide +kernel
theorem dX3_valueAt_15 : decode cX3_valueAt 15 = .ok (.iload 4, 2) := by decide +kernel
theorem dX3_valueAt_17 : decode cX3_valueAt 17 = .ok (.invokevirtual 89, 3) := by decide +kernel
theorem dX3_valueAt_20 : decode cX3_valueAt 20 = .ok (.ifCond .ne 5, 3) := by decide +kernel
theorem dX3_valueAt_23 : decode cX3_valueAt 23 = .ok (.iconst 0, 1) := by decide +kernel
theorem dX3_valueAt_24 : decode cX3_valueAt 24 = .ok (.ireturn, 1) := by decide +kernel
theorem dX3_valueAt_25 : decode cX3_valueAt 25 = .ok (.aload_n 0, 1) := by decide +kernel
theorem dX3_valueAt_26 : decode cX3_valueAt 26 = .ok (.getfield 25, 3) := by decide +kernel
theorem dX3_valueAt_29 : decode cX3_valueAt 29 = .ok (.iload 4, 2) := by decide +kernel
theorem dX3_valueAt_31 : decode cX3_valueAt 31 = .ok (.iaload, 1) := by decide +kernel
theorem dX3_valueAt_32 : decode cX3_valueAt 32 = .ok (.iconst 1, 1) := by decide +kernel
theorem dX3_valueAt_33 : decode cX3_valueAt 33 = .ok (.if_icmp .ne 13, 3) := by decide +kernel
theorem dX3_valueAt_36 : decode cX3_valueAt 36 = .ok (.aload_n 0, 1) := by decide +kernel
theorem dX3_valueAt_37 : decode cX3_valueAt 37 = .ok (.getfield 51, 3) := by decide +kernel
theorem dX3_valueAt_40 : decode cX3_valueAt 40 = .ok (.iload 4, 2) := by decide +kernel
theorem dX3_valueAt_42 : decode cX3_valueAt 42 = .ok (.iaload, 1) := by decide +kernel
theorem dX3_valueAt_43 : decode cX3_valueAt 43 = .ok (.goto 11, 3) := by decide +kernel
theorem dX3_valueAt_46 : decode cX3_valueAt 46 = .ok (.aload_n 0, 1) := by decide +kernel
theorem dX3_valueAt_47 : decode cX3_valueAt 47 = .ok (.getfield 51, 3) := by decide +kernel
theorem dX3_valueAt_50 : decode cX3_valueAt 50 = .ok (.iload 4, 2) := by decide +kernel
theorem dX3_valueAt_52 : decode cX3_valueAt 52 = .ok (.iaload, 1) := by decide +kernel
theorem dX3_valueAt_53 : decode cX3_valueAt 53 = .ok (.i2s, 1) := by decide +kernel
theorem dX3_valueAt_54 : decode cX3_valueAt 54 = .ok (.ireturn, 1) := by decide +kernel
theorem dX3_mapAfter_0 : decode cX3_mapAfter 0 = .ok (.aload_n 0, 1) := by decide +kernel
theorem dX3_mapAfter_1 : decode cX3_mapAfter 1 = .ok (.lload_n 2, 1) := by decide +kernel
theorem dX3_mapAfter_2 : decode cX3_mapAfter 2 = .ok (.aload_n 0, 1) := by decide +kernel
theorem dX3_mapAfter_3 : decode cX3_mapAfter 3 = .ok (.getfield 28, 3) := by decide +kernel
theorem dX3_mapAfter_6 : decode cX3_mapAfter 6 = .ok (.iload_n 1, 1) := by decide +kernel
theorem dX3_mapAfter_7 : decode cX3_mapAfter 7 = .ok (.iaload, 1) := by decide +kernel
theorem dX3_mapAfter_8 : decode cX3_mapAfter 8 = .ok (.invokestatic 47, 3) := by decide +kernel
theorem dX3_mapAfter_11 : decode cX3_mapAfter 11 = .ok (.aload_n 0, 1) := by decide +kernel
theorem dX3_mapAfter_12 : decode cX3_mapAfter 12 = .ok (.getfield 51, 3) := by decide +kernel
theorem dX3_mapAfter_15 : decode cX3_mapAfter 15 = .ok (.iload_n 1, 1) := by decide +kernel
theorem dX3_mapAfter_16 : decode cX3_mapAfter 16 = .ok (.iaload, 1) := by decide +kernel
theorem dX3_mapAfter_17 : decode cX3_mapAfter 17 = .ok (.bipush 16, 2) := by decide +kernel
theorem dX3_mapAfter_19 : decode cX3_mapAfter 19 = .ok (.ishr, 1) := by decide +kernel
theorem dX3_mapAfter_20 : decode cX3_mapAfter 20 = .ok (.if_icmp .ne 7, 3) := by decide +kernel
theorem dX3_mapAfter_23 : decode cX3_mapAfter 23 = .ok (.iconst 1, 1) := by decide +kernel
theorem dX3_mapAfter_24 : decode cX3_mapAfter 24 = .ok (.goto 4, 3) := by decide +kernel
theorem dX3_mapAfter_27 : decode cX3_mapAfter 27 = .ok (.iconst 0, 1) := by decide +kernel
theorem dX3_mapAfter_28 : decode cX3_mapAfter 28 = .ok (.istore 4, 2) := by decide +kernel
theorem dX3_mapAfter_30 : decode cX3_mapAfter 30 = .ok (.aload_n 0, 1) := by decide +kernel
theorem dX3_mapAfter_31 : decode cX3_mapAfter 31 = .ok (.getfield 25, 3) := by decide +kernel
theorem dX3_mapAfter_34 : decode cX3_mapAfter 34 = .ok (.iload_n 1, 1) := by decide +kernel
theorem dX3_mapAfter_35 : decode cX3_mapAfter 35 = .ok (.iaload, 1) := by decide +kernel
theorem dX3_mapAfter_36 : decode cX3_mapAfter 36 = .ok (.ifCond .eq 18, 3) := by decide +kernel
theorem dX3_mapAfter_39 : decode cX3_mapAfter 39 = .ok (.aload_n 0, 1) := by decide +kernel
theorem dX3_mapAfter_40 : decode cX3_mapAfter 40 = .ok (.getfield 25, 3) := by decide +kernel
theorem dX3_mapAfter_43 : decode cX3_mapAfter 43 = .ok (.iload_n 1, 1) := by decide +kernel
theorem dX3_mapAfter_44 : decode cX3_mapAfter 44 = .ok (.iaload, 1) := by decide +kernel
theorem dX3_mapAfter_45 : decode cX3_mapAfter 45 = .ok (.iconst 1, 1) := by decide +kernel
theorem dX3_mapAfter_46 : decode cX3_mapAfter 46 = .ok (.if_icmp .eq 10, 3) := by decide +kernel
theorem dX3_mapAfter_49 : decode cX3_mapAfter 49 = .ok (.iload 4, 2) := by decide +kernel
theorem dX3_mapAfter_51 : decode cX3_mapAfter 51 = .ok (.ifCond .ne 5, 3) := by decide +kernel
theorem dX3_mapAfter_54 : decode cX3_mapAfter 54 = .ok (.lload_n 2, 1) := by decide +kernel
theorem dX3_mapAfter_55 : decode cX3_mapAfter 55 = .ok (.lreturn, 1) := by decide +kernel
theorem dX3_mapAfter_56 : decode cX3_mapAfter 56 = .ok (.aload_n 0, 1) := by decide +kernel
theorem dX3_mapAfter_57 : decode cX3_mapAfter 57 = .ok (.getfield 28, 3) := by decide +kernel
theorem dX3_mapAfter_60 : decode cX3_mapAfter 60 = .ok (.iload_n 1, 1) := by decide +kernel
theorem dX3_mapAfter_61 : decode cX3_mapAfter 61 = .ok (.iaload, 1) := by decide +kernel
theorem dX3_mapAfter_62 : decode cX3_mapAfter 62 = .ok (.iconst 4, 1) := by decide +kernel
theorem dX3_mapAfter_63 : decode cX3_mapAfter 63 = .ok (.imul, 1) := by decide +kernel
theorem dX3_mapAfter_64 : decode cX3_mapAfter 64 = .ok (.istore 5, 2) := by decide +kernel
theorem dX3_mapAfter_66 : decode cX3_mapAfter 66 = .ok (.lload_n 2, 1) := by decide +kernel
theorem dX3_mapAfter_67 : decode cX3_mapAfter 67 = .ok (.ldc2_w 87, 3) := by decide +kernel
theorem dX3_mapAfter_70 : decode cX3_mapAfter 70 = .ok (.iload 5, 2) := by decide +kernel
theorem dX3_mapAfter_72 : decode cX3_mapAfter 72 = .ok (.lshl, 1) := by decide +kernel
theorem dX3_mapAfter_73 : decode cX3_mapAfter 73 = .ok (.ldc2_w 92, 3) := by decide +kernel
theorem dX3_mapAfter_76 : decode cX3_mapAfter 76 = .ok (.lxor, 1) := by decide +kernel
theorem dX3_mapAfter_77 : decode cX3_mapAfter 77 = .ok (.land, 1) := by decide +kernel
theorem dX3_mapAfter_78 : decode cX3_mapAfter 78 = .ok (.iload_n 1, 1) := by decide +kernel
theorem dX3_mapAfter_79 : decode cX3_mapAfter 79 = .ok (.i2l, 1) := by decide +kernel
theorem dX3_mapAfter_80 : decode cX3_mapAfter 80 = .ok (.lconst 1, 1) := by decide +kernel
theorem dX3_mapAfter_81 : decode cX3_mapAfter 81 = .ok (.ladd, 1) := by decide +kernel
theorem dX3_mapAfter_82 : decode cX3_mapAfter 82 = .ok (.iload 5, 2) := by decide +kernel
theorem dX3_mapAfter_84 : decode cX3_mapAfter 84 = .ok (.lshl, 1) := by decide +kernel
theorem dX3_mapAfter_85 : decode cX3_mapAfter 85 = .ok (.lor, 1) := by decide +kernel
theorem dX3_mapAfter_86 : decode cX3_mapAfter 86 = .ok (.lreturn, 1) := by decide +kernel
theorem dX5_init_0 : decode cX5_init 0 = .ok (.aload_n 0, 1) := by decide +kernel
theorem dX5_init_1 : decode cX5_init 1 = .ok (.invokespecial 1, 3) := by decide +kernel
theorem dX5_init_4 : decode cX5_init 4 = .ok (.aload_n 0, 1) := by decide +kernel
theorem dX5_init_5 : decode cX5_init 5 = .ok (.bipush 32, 2) := by decide +kernel
theorem dX5_init_7 : decode cX5_init 7 = .ok (.newarray .int, 2) := by decide +kernel
theorem dX5_init_9 : decode cX5_init 9 = .ok (.putfield 9, 3) := by decide +kernel
theorem dX5_init_12 : decode cX5_init 12 = .ok (.aload_n 0, 1) := by decide +kernel
theorem dX5_init_13 : decode cX5_init 13 = .ok (.bipush 32, 2) := by decide +kernel
theorem dX5_init_15 : decode cX5_init 15 = .ok (.newarray .int, 2) := by decide +kernel
theorem dX5_init_17 : decode cX5_init 17 = .ok (.putfield 13, 3) := by decide +kernel
theorem dX5_init_20 : decode cX5_init 20 = .ok (.return_, 1) := by decide +kernel
theorem dX5_has_0 : decode cX5_has 0 = .ok (.lload_n 0, 1) := by decide +kernel
theorem dX5_has_1 : decode cX5_has 1 = .ok (.lconst 0, 1) := by decide +kernel
theorem dX5_has_2 : decode cX5_has 2 = .ok (.lcmp, 1) := by decide +kernel
theorem dX5_has_3 : decode cX5_has 3 = .ok (.ifCond .lt 24, 3) := by decide +kernel
theorem dX5_has_6 : decode cX5_has 6 = .ok (.lload_n 0, 1) := by decide +kernel
theorem dX5_has_7 : decode cX5_has 7 = .ok (.ldc2_w 16, 3) := by decide +kernel
theorem dX5_has_10 : decode cX5_has 10 = .ok (.lcmp, 1) := by decide +kernel
theorem dX5_has_11 : decode cX5_has 11 = .ok (.ifCond .ge 16, 3) := by decide +kernel
theorem dX5_has_14 : decode cX5_has 14 = .ok (.iload_n 2, 1) := by decide +kernel
theorem dX5_has_15 : decode cX5_has 15 = .ok (.ifCond .lt 12, 3) := by decide +kernel
theorem dX5_has_18 : decode cX5_has 18 = .ok (.iload_n 2, 1) := by decide +kernel
theorem dX5_has_19 : decode cX5_has 19 = .ok (.iconst 4, 1) := by decide +kernel
theorem dX5_has_20 : decode cX5_has 20 = .ok (.if_icmp .ge 7, 3) := by decide +kernel
theorem dX5_has_23 : decode cX5_has 23 = .ok (.iconst 1, 1) := by decide +kernel
theorem dX5_has_24 : decode cX5_has 24 = .ok (.goto 4, 3) := by decide +kernel
theorem dX5_has_27 : decode cX5_has 27 = .ok (.iconst 0, 1) := by decide +kernel
theorem dX5_has_28 : decode cX5_has 28 = .ok (.ireturn, 1) := by decide +kernel
theorem dX5_placeOf_0 : decode cX5_placeOf 0 = .ok (.lload_n 0, 1) := by decide +kernel
theorem dX5_placeOf_1 : decode cX5_placeOf 1 = .ok (.l2i, 1) := by decide +kernel
theorem dX5_placeOf_2 : decode cX5_placeOf 2 = .ok (.iconst 4, 1) := by decide +kernel
theorem dX5_placeOf_3 : decode cX5_placeOf 3 = .ok (.imul, 1) := by decide +kernel
theorem dX5_placeOf_4 : decode cX5_placeOf 4 = .ok (.iload_n 2, 1) := by decide +kernel
theorem dX5_placeOf_5 : decode cX5_placeOf 5 = .ok (.iadd, 1) := by decide +kernel
theorem dX5_placeOf_6 : decode cX5_placeOf 6 = .ok (.ireturn, 1) := by decide +kernel
theorem dX5_tell_0 : decode cX5_tell 0 = .ok (.iload_n 1, 1) := by decide +kernel
theorem dX5_tell_1 : decode cX5_tell 1 = .ok (.i2l, 1) := by decide +kernel
theorem dX5_tell_2 : decode cX5_tell 2 = .ok (.iload_n 2, 1) := by decide +kernel
theorem dX5_tell_3 : decode cX5_tell 3 = .ok (.invokestatic 18, 3) := by decide +kernel
theorem dX5_tell_6 : decode cX5_tell 6 = .ok (.ifCond .eq 28, 3) := by decide +kernel
theorem dX5_tell_9 : decode cX5_tell 9 = .ok (.aload_n 0, 1) := by decide +kernel
theorem dX5_tell_10 : decode cX5_tell 10 = .ok (.getfield 9, 3) := by decide +kernel
theorem dX5_tell_13 : decode cX5_tell 13 = .ok (.iload_n 1, 1) := by decide +kernel
theorem dX5_tell_14 : decode cX5_tell 14 = .ok (.i2l, 1) := by decide +kernel
theorem dX5_tell_15 : decode cX5_tell 15 = .ok (.iload_n 2, 1) := by decide +kernel
theorem dX5_tell_16 : decode cX5_tell 16 = .ok (.invokestatic 22, 3) := by decide +kernel
theorem dX5_tell_19 : decode cX5_tell 19 = .ok (.iload_n 3, 1) := by decide +kernel
theorem dX5_tell_20 : decode cX5_tell 20 = .ok (.iastore, 1) := by decide +kernel
theorem dX5_tell_21 : decode cX5_tell 21 = .ok (.aload_n 0, 1) := by decide +kernel
theorem dX5_tell_22 : decode cX5_tell 22 = .ok (.getfield 13, 3) := by decide +kernel
theorem dX5_tell_25 : decode cX5_tell 25 = .ok (.iload_n 1, 1) := by decide +kernel
theorem dX5_tell_26 : decode cX5_tell 26 = .ok (.i2l, 1) := by decide +kernel
theorem dX5_tell_27 : decode cX5_tell 27 = .ok (.iload_n 2, 1) := by decide +kernel
theorem dX5_tell_28 : decode cX5_tell 28 = .ok (.invokestatic 22, 3) := by decide +kernel
theorem dX5_tell_31 : decode cX5_tell 31 = .ok (.iload 4, 2) := by decide +kernel
theorem dX5_tell_33 : decode cX5_tell 33 = .ok (.iastore, 1) := by decide +kernel
theorem dX5_tell_34 : decode cX5_tell 34 = .ok (.return_, 1) := by decide +kernel
theorem dX5_answerIn_0 : decode cX5_answerIn 0 = .ok (.lload_n 1, 1) := by decide +kernel
theorem dX5_answerIn_1 : decode cX5_answerIn 1 = .ok (.iload_n 3, 1) := by decide +kernel
theorem dX5_answerIn_2 : decode cX5_answerIn 2 = .ok (.invokestatic 18, 3) := by decide +kernel
theorem dX5_answerIn_5 : decode cX5_answerIn 5 = .ok (.ifCond .eq 16, 3) := by decide +kernel
theorem dX5_answerIn_8 : decode cX5_answerIn 8 = .ok (.aload_n 0, 1) := by decide +kernel
theorem dX5_answerIn_9 : decode cX5_answerIn 9 = .ok (.getfield 9, 3) := by decide +kernel
theorem dX5_answerIn_12 : decode cX5_answerIn 12 = .ok (.lload_n 1, 1) := by decide +kernel
theorem dX5_answerIn_13 : decode cX5_answerIn 13 = .ok (.iload_n 3, 1) := by decide +kernel
theorem dX5_answerIn_14 : decode cX5_answerIn 14 = .ok (.invokestatic 22, 3) := by decide +kernel
theorem dX5_answerIn_17 : decode cX5_answerIn 17 = .ok (.iaload, 1) := by decide +kernel
theorem dX5_answerIn_18 : decode cX5_answerIn 18 = .ok (.goto 4, 3) := by decide +kernel
theorem dX5_answerIn_21 : decode cX5_answerIn 21 = .ok (.iconst 0, 1) := by decide +kernel
theorem dX5_answerIn_22 : decode cX5_answerIn 22 = .ok (.ireturn, 1) := by decide +kernel
theorem dX5_nextIn_0 : decode cX5_nextIn 0 = .ok (.lload_n 1, 1) := by decide +kernel
theorem dX5_nextIn_1 : decode cX5_nextIn 1 = .ok (.iload_n 3, 1) := by decide +kernel
theorem dX5_nextIn_2 : decode cX5_nextIn 2 = .ok (.invokestatic 18, 3) := by decide +kernel
theorem dX5_nextIn_5 : decode cX5_nextIn 5 = .ok (.ifCond .eq 16, 3) := by decide +kernel
theorem dX5_nextIn_8 : decode cX5_nextIn 8 = .ok (.aload_n 0, 1) := by decide +kernel
theorem dX5_nextIn_9 : decode cX5_nextIn 9 = .ok (.getfield 13, 3) := by decide +kernel
theorem dX5_nextIn_12 : decode cX5_nextIn 12 = .ok (.lload_n 1, 1) := by decide +kernel
theorem dX5_nextIn_13 : decode cX5_nextIn 13 = .ok (.iload_n 3, 1) := by decide +kernel
theorem dX5_nextIn_14 : decode cX5_nextIn 14 = .ok (.invokestatic 22, 3) := by decide +kernel
theorem dX5_nextIn_17 : decode cX5_nextIn 17 = .ok (.iaload, 1) := by decide +kernel
theorem dX5_nextIn_18 : decode cX5_nextIn 18 = .ok (.goto 4, 3) := by decide +kernel
theorem dX5_nextIn_21 : decode cX5_nextIn 21 = .ok (.iconst 0, 1) := by decide +kernel
theorem dX5_nextIn_22 : decode cX5_nextIn 22 = .ok (.ireturn, 1) := by decide +kernel
theorem dJ6_numberOfLeadingZeros_0f7a4_0 : decode cJ6_numberOfLeadingZeros_0f7a4 0 = .ok (.iload_n 0, 1) := by decide +kernel
theorem dJ6_numberOfLeadingZeros_0f7a4_1 : decode cJ6_numberOfLeadingZeros_0f7a4 1 = .ok (.ifCond .gt 14, 3) := by decide +kernel
theorem dJ6_numberOfLeadingZeros_0f7a4_4 : decode cJ6_numberOfLeadingZeros_0f7a4 4 = .ok (.iload_n 0, 1) := by decide +kernel
theorem dJ6_numberOfLeadingZeros_0f7a4_5 : decode cJ6_numberOfLeadingZeros_0f7a4 5 = .ok (.ifCond .ne 8, 3) := by decide +kernel
theorem dJ6_numberOfLeadingZeros_0f7a4_8 : decode cJ6_numberOfLeadingZeros_0f7a4 8 = .ok (.bipush 32, 2) := by decide +kernel
theorem dJ6_numberOfLeadingZeros_0f7a4_10 : decode cJ6_numberOfLeadingZeros_0f7a4 10 = .ok (.goto 4, 3) := by decide +kernel
theorem dJ6_numberOfLeadingZeros_0f7a4_13 : decode cJ6_numberOfLeadingZeros_0f7a4 13 = .ok (.iconst 0, 1) := by decide +kernel
theorem dJ6_numberOfLeadingZeros_0f7a4_14 : decode cJ6_numberOfLeadingZeros_0f7a4 14 = .ok (.ireturn, 1) := by decide +kernel
theorem dJ6_numberOfLeadingZeros_0f7a4_15 : decode cJ6_numberOfLeadingZeros_0f7a4 15 = .ok (.bipush 31, 2) := by decide +kernel
theorem dJ6_numberOfLeadingZeros_0f7a4_17 : decode cJ6_numberOfLeadingZeros_0f7a4 17 = .ok (.istore_n 1, 1) := by decide +kernel
theorem dJ6_numberOfLeadingZeros_0f7a4_18 : decode cJ6_numberOfLeadingZeros_0f7a4 18 = .ok (.iload_n 0, 1) := by decide +kernel
theorem dJ6_numberOfLeadingZeros_0f7a4_19 : decode cJ6_numberOfLeadingZeros_0f7a4 19 = .ok (.ldc_w 264, 3) := by decide +kernel
theorem dJ6_numberOfLeadingZeros_0f7a4_22 : decode cJ6_numberOfLeadingZeros_0f7a4 22 = .ok (.if_icmp .lt 11, 3) := by decide +kernel
theorem dJ6_numberOfLeadingZeros_0f7a4_25 : decode cJ6_numberOfLeadingZeros_0f7a4 25 = .ok (.iinc 1 (-16), 3) := by decide +kernel
theorem dJ6_numberOfLeadingZeros_0f7a4_28 : decode cJ6_numberOfLeadingZeros_0f7a4 28 = .ok (.iload_n 0, 1) := by decide +kernel
theorem dJ6_numberOfLeadingZeros_0f7a4_29 : decode cJ6_numberOfLeadingZeros_0f7a4 29 = .ok (.bipush 16, 2) := by decide +kernel
theorem dJ6_numberOfLeadingZeros_0f7a4_31 : decode cJ6_numberOfLeadingZeros_0f7a4 31 = .ok (.iushr, 1) := by decide +kernel
theorem dJ6_numberOfLeadingZeros_0f7a4_32 : decode cJ6_numberOfLeadingZeros_0f7a4 32 = .ok (.istore_n 0, 1) := by decide +kernel
theorem dJ6_numberOfLeadingZeros_0f7a4_33 : decode cJ6_numberOfLeadingZeros_0f7a4 33 = .ok (.iload_n 0, 1) := by decide +kernel
theorem dJ6_numberOfLeadingZeros_0f7a4_34 : decode cJ6_numberOfLeadingZeros_0f7a4 34 = .ok (.sipush 256, 3) := by decide +kernel
theorem dJ6_numberOfLeadingZeros_0f7a4_37 : decode cJ6_numberOfLeadingZeros_0f7a4 37 = .ok (.if_icmp .lt 11, 3) := by decide +kernel
theorem dJ6_numberOfLeadingZeros_0f7a4_40 : decode cJ6_numberOfLeadingZeros_0f7a4 40 = .ok (.iinc 1 (-8), 3) := by decide +kernel
theorem dJ6_numberOfLeadingZeros_0f7a4_43 : decode cJ6_numberOfLeadingZeros_0f7a4 43 = .ok (.iload_n 0, 1) := by decide +kernel
theorem dJ6_numberOfLeadingZeros_0f7a4_44 : decode cJ6_numberOfLeadingZeros_0f7a4 44 = .ok (.bipush 8, 2) := by decide +kernel
theorem dJ6_numberOfLeadingZeros_0f7a4_46 : decode cJ6_numberOfLeadingZeros_0f7a4 46 = .ok (.iushr, 1) := by decide +kernel
theorem dJ6_numberOfLeadingZeros_0f7a4_47 : decode cJ6_numberOfLeadingZeros_0f7a4 47 = .ok (.istore_n 0, 1) := by decide +kernel
theorem dJ6_numberOfLeadingZeros_0f7a4_48 : decode cJ6_numberOfLeadingZeros_0f7a4 48 = .ok (.iload_n 0, 1) := by decide +kernel
theorem dJ6_numberOfLeadingZeros_0f7a4_49 : decode cJ6_numberOfLeadingZeros_0f7a4 49 = .ok (.bipush 16, 2) := by decide +kernel
theorem dJ6_numberOfLeadingZeros_0f7a4_51 : decode cJ6_numberOfLeadingZeros_0f7a4 51 = .ok (.if_icmp .lt 10, 3) := by decide +kernel
theorem dJ6_numberOfLeadingZeros_0f7a4_54 : decode cJ6_numberOfLeadingZeros_0f7a4 54 = .ok (.iinc 1 (-4), 3) := by decide +kernel
theorem dJ6_numberOfLeadingZeros_0f7a4_57 : decode cJ6_numberOfLeadingZeros_0f7a4 57 = .ok (.iload_n 0, 1) := by decide +kernel
theorem dJ6_numberOfLeadingZeros_0f7a4_58 : decode cJ6_numberOfLeadingZeros_0f7a4 58 = .ok (.iconst 4, 1) := by decide +kernel
theorem dJ6_numberOfLeadingZeros_0f7a4_59 : decode cJ6_numberOfLeadingZeros_0f7a4 59 = .ok (.iushr, 1) := by decide +kernel
theorem dJ6_numberOfLeadingZeros_0f7a4_60 : decode cJ6_numberOfLeadingZeros_0f7a4 60 = .ok (.istore_n 0, 1) := by decide +kernel
theorem dJ6_numberOfLeadingZeros_0f7a4_61 : decode cJ6_numberOfLeadingZeros_0f7a4 61 = .ok (.iload_n 0, 1) := by decide +kernel
theorem dJ6_numberOfLeadingZeros_0f7a4_62 : decode cJ6_numberOfLeadingZeros_0f7a4 62 = .ok (.iconst 4, 1) := by decide +kernel
theorem dJ6_numberOfLeadingZeros_0f7a4_63 : decode cJ6_numberOfLeadingZeros_0f7a4 63 = .ok (.if_icmp .lt 10, 3) := by decide +kernel
theorem dJ6_numberOfLeadingZeros_0f7a4_66 : decode cJ6_numberOfLeadingZeros_0f7a4 66 = .ok (.iinc 1 (-2), 3) := by decide +kernel
theorem dJ6_numberOfLeadingZeros_0f7a4_69 : decode cJ6_numberOfLeadingZeros_0f7a4 69 = .ok (.iload_n 0, 1) := by decide +kernel
theorem dJ6_numberOfLeadingZeros_0f7a4_70 : decode cJ6_numberOfLeadingZeros_0f7a4 70 = .ok (.iconst 2, 1) := by decide +kernel
theorem dJ6_numberOfLeadingZeros_0f7a4_71 : decode cJ6_numberOfLeadingZeros_0f7a4 71 = .ok (.iushr, 1) := by decide +kernel
theorem dJ6_numberOfLeadingZeros_0f7a4_72 : decode cJ6_numberOfLeadingZeros_0f7a4 72 = .ok (.istore_n 0, 1) := by decide +kernel
theorem dJ6_numberOfLeadingZeros_0f7a4_73 : decode cJ6_numberOfLeadingZeros_0f7a4 73 = .ok (.iload_n 1, 1) := by decide +kernel
theorem dJ6_numberOfLeadingZeros_0f7a4_74 : decode cJ6_numberOfLeadingZeros_0f7a4 74 = .ok (.iload_n 0, 1) := by decide +kernel
theorem dJ6_numberOfLeadingZeros_0f7a4_75 : decode cJ6_numberOfLeadingZeros_0f7a4 75 = .ok (.iconst 1, 1) := by decide +kernel
theorem dJ6_numberOfLeadingZeros_0f7a4_76 : decode cJ6_numberOfLeadingZeros_0f7a4 76 = .ok (.iushr, 1) := by decide +kernel
theorem dJ6_numberOfLeadingZeros_0f7a4_77 : decode cJ6_numberOfLeadingZeros_0f7a4 77 = .ok (.isub, 1) := by decide +kernel
theorem dJ6_numberOfLeadingZeros_0f7a4_78 : decode cJ6_numberOfLeadingZeros_0f7a4 78 = .ok (.ireturn, 1) := by decide +kernel
theorem dJ6_bitCount_0f7a4_0 : decode cJ6_bitCount_0f7a4 0 = .ok (.iload_n 0, 1) := by decide +kernel
theorem dJ6_bitCount_0f7a4_1 : decode cJ6_bitCount_0f7a4 1 = .ok (.iload_n 0, 1) := by decide +kernel
theorem dJ6_bitCount_0f7a4_2 : decode cJ6_bitCount_0f7a4 2 = .ok (.iconst 1, 1) := by decide +kernel
theorem dJ6_bitCount_0f7a4_3 : decode cJ6_bitCount_0f7a4 3 = .ok (.iushr, 1) := by decide +kernel
theorem dJ6_bitCount_0f7a4_4 : decode cJ6_bitCount_0f7a4 4 = .ok (.ldc_w 265, 3) := by decide +kernel
theorem dJ6_bitCount_0f7a4_7 : decode cJ6_bitCount_0f7a4 7 = .ok (.iand, 1) := by decide +kernel
theorem dJ6_bitCount_0f7a4_8 : decode cJ6_bitCount_0f7a4 8 = .ok (.isub, 1) := by decide +kernel
theorem dJ6_bitCount_0f7a4_9 : decode cJ6_bitCount_0f7a4 9 = .ok (.istore_n 0, 1) := by decide +kernel
theorem dJ6_bitCount_0f7a4_10 : decode cJ6_bitCount_0f7a4 10 = .ok (.iload_n 0, 1) := by decide +kernel
theorem dJ6_bitCount_0f7a4_11 : decode cJ6_bitCount_0f7a4 11 = .ok (.ldc_w 266, 3) := by decide +kernel
theorem dJ6_bitCount_0f7a4_14 : decode cJ6_bitCount_0f7a4 14 = .ok (.iand, 1) := by decide +kernel
theorem dJ6_bitCount_0f7a4_15 : decode cJ6_bitCount_0f7a4 15 = .ok (.iload_n 0, 1) := by decide +kernel
theorem dJ6_bitCount_0f7a4_16 : decode cJ6_bitCount_0f7a4 16 = .ok (.iconst 2, 1) := by decide +kernel
theorem dJ6_bitCount_0f7a4_17 : decode cJ6_bitCount_0f7a4 17 = .ok (.iushr, 1) := by decide +kernel
theorem dJ6_bitCount_0f7a4_18 : decode cJ6_bitCount_0f7a4 18 = .ok (.ldc_w 266, 3) := by decide +kernel
theorem dJ6_bitCount_0f7a4_21 : decode cJ6_bitCount_0f7a4 21 = .ok (.iand, 1) := by decide +kernel
theorem dJ6_bitCount_0f7a4_22 : decode cJ6_bitCount_0f7a4 22 = .ok (.iadd, 1) := by decide +kernel
theorem dJ6_bitCount_0f7a4_23 : decode cJ6_bitCount_0f7a4 23 = .ok (.istore_n 0, 1) := by decide +kernel
theorem dJ6_bitCount_0f7a4_24 : decode cJ6_bitCount_0f7a4 24 = .ok (.iload_n 0, 1) := by decide +kernel
theorem dJ6_bitCount_0f7a4_25 : decode cJ6_bitCount_0f7a4 25 = .ok (.iload_n 0, 1) := by decide +kernel
theorem dJ6_bitCount_0f7a4_26 : decode cJ6_bitCount_0f7a4 26 = .ok (.iconst 4, 1) := by decide +kernel
theorem dJ6_bitCount_0f7a4_27 : decode cJ6_bitCount_0f7a4 27 = .ok (.iushr, 1) := by decide +kernel
theorem dJ6_bitCount_0f7a4_28 : decode cJ6_bitCount_0f7a4 28 = .ok (.iadd, 1) := by decide +kernel
theorem dJ6_bitCount_0f7a4_29 : decode cJ6_bitCount_0f7a4 29 = .ok (.ldc_w 267, 3) := by decide +kernel
theorem dJ6_bitCount_0f7a4_32 : decode cJ6_bitCount_0f7a4 32 = .ok (.iand, 1) := by decide +kernel
theorem dJ6_bitCount_0f7a4_33 : decode cJ6_bitCount_0f7a4 33 = .ok (.istore_n 0, 1) := by decide +kernel
theorem dJ6_bitCount_0f7a4_34 : decode cJ6_bitCount_0f7a4 34 = .ok (.iload_n 0, 1) := by decide +kernel
theorem dJ6_bitCount_0f7a4_35 : decode cJ6_bitCount_0f7a4 35 = .ok (.iload_n 0, 1) := by decide +kernel
theorem dJ6_bitCount_0f7a4_36 : decode cJ6_bitCount_0f7a4 36 = .ok (.bipush 8, 2) := by decide +kernel
theorem dJ6_bitCount_0f7a4_38 : decode cJ6_bitCount_0f7a4 38 = .ok (.iushr, 1) := by decide +kernel
theorem dJ6_bitCount_0f7a4_39 : decode cJ6_bitCount_0f7a4 39 = .ok (.iadd, 1) := by decide +kernel
theorem dJ6_bitCount_0f7a4_40 : decode cJ6_bitCount_0f7a4 40 = .ok (.istore_n 0, 1) := by decide +kernel
theorem dJ6_bitCount_0f7a4_41 : decode cJ6_bitCount_0f7a4 41 = .ok (.iload_n 0, 1) := by decide +kernel
theorem dJ6_bitCount_0f7a4_42 : decode cJ6_bitCount_0f7a4 42 = .ok (.iload_n 0, 1) := by decide +kernel
theorem dJ6_bitCount_0f7a4_43 : decode cJ6_bitCount_0f7a4 43 = .ok (.bipush 16, 2) := by decide +kernel
theorem dJ6_bitCount_0f7a4_45 : decode cJ6_bitCount_0f7a4 45 = .ok (.iushr, 1) := by decide +kernel
theorem dJ6_bitCount_0f7a4_46 : decode cJ6_bitCount_0f7a4 46 = .ok (.iadd, 1) := by decide +kernel
theorem dJ6_bitCount_0f7a4_47 : decode cJ6_bitCount_0f7a4 47 = .ok (.istore_n 0, 1) := by decide +kernel
theorem dJ6_bitCount_0f7a4_48 : decode cJ6_bitCount_0f7a4 48 = .ok (.iload_n 0, 1) := by decide +kernel
theorem dJ6_bitCount_0f7a4_49 : decode cJ6_bitCount_0f7a4 49 = .ok (.bipush 63, 2) := by decide +kernel
theorem dJ6_bitCount_0f7a4_51 : decode cJ6_bitCount_0f7a4 51 = .ok (.iand, 1) := by decide +kernel
theorem dJ6_bitCount_0f7a4_52 : decode cJ6_bitCount_0f7a4 52 = .ok (.ireturn, 1) := by decide +kernel
theorem dJ13_numberOfLeadingZeros_95d88_0 : decode cJ13_numberOfLeadingZeros_95d88 0 = .ok (.lload_n 0, 1) := by decide +kernel
theorem dJ13_numberOfLeadingZeros_95d88_1 : decode cJ13_numberOfLeadingZeros_95d88 1 = .ok (.bipush 32, 2) := by decide +kernel
theorem dJ13_numberOfLeadingZeros_95d88_3 : decode cJ13_numberOfLeadingZeros_95d88 3 = .ok (.lushr, 1) := by decide +kernel
theorem dJ13_numberOfLeadingZeros_95d88_4 : decode cJ13_numberOfLeadingZeros_95d88 4 = .ok (.l2i, 1) := by decide +kernel
theorem dJ13_numberOfLeadingZeros_95d88_5 : decode cJ13_numberOfLeadingZeros_95d88 5 = .ok (.istore_n 2, 1) := by decide +kernel
theorem dJ13_numberOfLeadingZeros_95d88_6 : decode cJ13_numberOfLeadingZeros_95d88 6 = .ok (.iload_n 2, 1) := by decide +kernel
theorem dJ13_numberOfLeadingZeros_95d88_7 : decode cJ13_numberOfLeadingZeros_95d88 7 = .ok (.ifCond .ne 14, 3) := by decide +kernel
theorem dJ13_numberOfLeadingZeros_95d88_10 : decode cJ13_numberOfLeadingZeros_95d88 10 = .ok (.bipush 32, 2) := by decide +kernel
theorem dJ13_numberOfLeadingZeros_95d88_12 : decode cJ13_numberOfLeadingZeros_95d88 12 = .ok (.lload_n 0, 1) := by decide +kernel
theorem dJ13_numberOfLeadingZeros_95d88_13 : decode cJ13_numberOfLeadingZeros_95d88 13 = .ok (.l2i, 1) := by decide +kernel
theorem dJ13_numberOfLeadingZeros_95d88_14 : decode cJ13_numberOfLeadingZeros_95d88 14 = .ok (.invokestatic 308, 3) := by decide +kernel
theorem dJ13_numberOfLeadingZeros_95d88_17 : decode cJ13_numberOfLeadingZeros_95d88 17 = .ok (.iadd, 1) := by decide +kernel
theorem dJ13_numberOfLeadingZeros_95d88_18 : decode cJ13_numberOfLeadingZeros_95d88 18 = .ok (.goto 7, 3) := by decide +kernel
theorem dJ13_numberOfLeadingZeros_95d88_21 : decode cJ13_numberOfLeadingZeros_95d88 21 = .ok (.iload_n 2, 1) := by decide +kernel
theorem dJ13_numberOfLeadingZeros_95d88_22 : decode cJ13_numberOfLeadingZeros_95d88 22 = .ok (.invokestatic 308, 3) := by decide +kernel
theorem dJ13_numberOfLeadingZeros_95d88_25 : decode cJ13_numberOfLeadingZeros_95d88 25 = .ok (.ireturn, 1) := by decide +kernel
