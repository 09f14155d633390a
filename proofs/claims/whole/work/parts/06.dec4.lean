theorem dX4_init_0 : decode cX4_init 0 = .ok (.aload_n 0, 1) := by decide +kernel
theorem dX4_init_1 : decode cX4_init 1 = .ok (.invokespecial 3, 3) := by decide +kernel
theorem dX4_init_4 : decode cX4_init 4 = .ok (.aload_n 0, 1) := by decide +kernel
theorem dX4_init_5 : decode cX4_init 5 = .ok (.new 9, 3) := by decide +kernel
theorem dX4_init_8 : decode cX4_init 8 = .ok (.dup, 1) := by decide +kernel
theorem dX4_init_9 : decode cX4_init 9 = .ok (.iconst 0, 1) := by decide +kernel
theorem dX4_init_10 : decode cX4_init 10 = .ok (.aconst_null, 1) := by decide +kernel
theorem dX4_init_11 : decode cX4_init 11 = .ok (.invokespecial 13, 3) := by decide +kernel
theorem dX4_init_14 : decode cX4_init 14 = .ok (.putfield 16, 3) := by decide +kernel
theorem dX4_init_17 : decode cX4_init 17 = .ok (.aload_n 0, 1) := by decide +kernel
theorem dX4_init_18 : decode cX4_init 18 = .ok (.bipush 10, 2) := by decide +kernel
theorem dX4_init_20 : decode cX4_init 20 = .ok (.newarray .int, 2) := by decide +kernel
theorem dX4_init_22 : decode cX4_init 22 = .ok (.putfield 22, 3) := by decide +kernel
theorem dX4_init_25 : decode cX4_init 25 = .ok (.aload_n 0, 1) := by decide +kernel
theorem dX4_init_26 : decode cX4_init 26 = .ok (.new 26, 3) := by decide +kernel
theorem dX4_init_29 : decode cX4_init 29 = .ok (.dup, 1) := by decide +kernel
theorem dX4_init_30 : decode cX4_init 30 = .ok (.invokespecial 28, 3) := by decide +kernel
theorem dX4_init_33 : decode cX4_init 33 = .ok (.putfield 29, 3) := by decide +kernel
theorem dX4_init_36 : decode cX4_init 36 = .ok (.return_, 1) := by decide +kernel
theorem dX4_takes_0 : decode cX4_takes 0 = .ok (.aload_n 0, 1) := by decide +kernel
theorem dX4_takes_1 : decode cX4_takes 1 = .ok (.aload_n 1, 1) := by decide +kernel
theorem dX4_takes_2 : decode cX4_takes 2 = .ok (.iload_n 2, 1) := by decide +kernel
theorem dX4_takes_3 : decode cX4_takes 3 = .ok (.iload_n 3, 1) := by decide +kernel
theorem dX4_takes_4 : decode cX4_takes 4 = .ok (.iconst 1, 1) := by decide +kernel
theorem dX4_takes_5 : decode cX4_takes 5 = .ok (.invokevirtual 33, 3) := by decide +kernel
theorem dX4_takes_8 : decode cX4_takes 8 = .ok (.aload_n 0, 1) := by decide +kernel
theorem dX4_takes_9 : decode cX4_takes 9 = .ok (.iconst 0, 1) := by decide +kernel
theorem dX4_takes_10 : decode cX4_takes 10 = .ok (.iconst 0, 1) := by decide +kernel
theorem dX4_takes_11 : decode cX4_takes 11 = .ok (.lconst 0, 1) := by decide +kernel
theorem dX4_takes_12 : decode cX4_takes 12 = .ok (.invokevirtual 37, 3) := by decide +kernel
theorem dX4_takes_15 : decode cX4_takes 15 = .ok (.lconst 0, 1) := by decide +kernel
theorem dX4_takes_16 : decode cX4_takes 16 = .ok (.lcmp, 1) := by decide +kernel
theorem dX4_takes_17 : decode cX4_takes 17 = .ok (.ifCond .le 7, 3) := by decide +kernel
theorem dX4_takes_20 : decode cX4_takes 20 = .ok (.iconst 1, 1) := by decide +kernel
theorem dX4_takes_21 : decode cX4_takes 21 = .ok (.goto 4, 3) := by decide +kernel
theorem dX4_takes_24 : decode cX4_takes 24 = .ok (.iconst 0, 1) := by decide +kernel
theorem dX4_takes_25 : decode cX4_takes 25 = .ok (.ireturn, 1) := by decide +kernel
theorem dX4_count_0 : decode cX4_count 0 = .ok (.aload_n 0, 1) := by decide +kernel
theorem dX4_count_1 : decode cX4_count 1 = .ok (.aload_n 1, 1) := by decide +kernel
theorem dX4_count_2 : decode cX4_count 2 = .ok (.iload_n 2, 1) := by decide +kernel
theorem dX4_count_3 : decode cX4_count 3 = .ok (.aload_n 1, 1) := by decide +kernel
theorem dX4_count_4 : decode cX4_count 4 = .ok (.invokevirtual 41, 3) := by decide +kernel
theorem dX4_count_7 : decode cX4_count 7 = .ok (.iconst 0, 1) := by decide +kernel
theorem dX4_count_8 : decode cX4_count 8 = .ok (.invokevirtual 33, 3) := by decide +kernel
theorem dX4_count_11 : decode cX4_count 11 = .ok (.aload_n 0, 1) := by decide +kernel
theorem dX4_count_12 : decode cX4_count 12 = .ok (.iconst 0, 1) := by decide +kernel
theorem dX4_count_13 : decode cX4_count 13 = .ok (.iconst 0, 1) := by decide +kernel
theorem dX4_count_14 : decode cX4_count 14 = .ok (.lconst 0, 1) := by decide +kernel
theorem dX4_count_15 : decode cX4_count 15 = .ok (.invokevirtual 37, 3) := by decide +kernel
theorem dX4_count_18 : decode cX4_count 18 = .ok (.lreturn, 1) := by decide +kernel
theorem dX4_firstAt_0 : decode cX4_firstAt 0 = .ok (.aload_n 0, 1) := by decide +kernel
theorem dX4_firstAt_1 : decode cX4_firstAt 1 = .ok (.aload_n 1, 1) := by decide +kernel
theorem dX4_firstAt_2 : decode cX4_firstAt 2 = .ok (.iload_n 2, 1) := by decide +kernel
theorem dX4_firstAt_3 : decode cX4_firstAt 3 = .ok (.aload_n 1, 1) := by decide +kernel
theorem dX4_firstAt_4 : decode cX4_firstAt 4 = .ok (.invokevirtual 41, 3) := by decide +kernel
theorem dX4_firstAt_7 : decode cX4_firstAt 7 = .ok (.iconst 1, 1) := by decide +kernel
theorem dX4_firstAt_8 : decode cX4_firstAt 8 = .ok (.invokevirtual 33, 3) := by decide +kernel
theorem dX4_firstAt_11 : decode cX4_firstAt 11 = .ok (.iconst 0, 1) := by decide +kernel
theorem dX4_firstAt_12 : decode cX4_firstAt 12 = .ok (.istore 4, 2) := by decide +kernel
theorem dX4_firstAt_14 : decode cX4_firstAt 14 = .ok (.lconst 0, 1) := by decide +kernel
theorem dX4_firstAt_15 : decode cX4_firstAt 15 = .ok (.lstore 5, 2) := by decide +kernel
theorem dX4_firstAt_17 : decode cX4_firstAt 17 = .ok (.iconst 0, 1) := by decide +kernel
theorem dX4_firstAt_18 : decode cX4_firstAt 18 = .ok (.istore 7, 2) := by decide +kernel
theorem dX4_firstAt_20 : decode cX4_firstAt 20 = .ok (.iload 7, 2) := by decide +kernel
theorem dX4_firstAt_22 : decode cX4_firstAt 22 = .ok (.bipush 10, 2) := by decide +kernel
theorem dX4_firstAt_24 : decode cX4_firstAt 24 = .ok (.if_icmp .ge 67, 3) := by decide +kernel
theorem dX4_firstAt_27 : decode cX4_firstAt 27 = .ok (.aload_n 0, 1) := by decide +kernel
theorem dX4_firstAt_28 : decode cX4_firstAt 28 = .ok (.iload 4, 2) := by decide +kernel
theorem dX4_firstAt_30 : decode cX4_firstAt 30 = .ok (.invokevirtual 45, 3) := by decide +kernel
theorem dX4_firstAt_33 : decode cX4_firstAt 33 = .ok (.ifCond .ne 58, 3) := by decide +kernel
theorem dX4_firstAt_36 : decode cX4_firstAt 36 = .ok (.aload_n 0, 1) := by decide +kernel
theorem dX4_firstAt_37 : decode cX4_firstAt 37 = .ok (.iload 7, 2) := by decide +kernel
theorem dX4_firstAt_39 : decode cX4_firstAt 39 = .ok (.iload 4, 2) := by decide +kernel
theorem dX4_firstAt_41 : decode cX4_firstAt 41 = .ok (.lload 5, 2) := by decide +kernel
theorem dX4_firstAt_43 : decode cX4_firstAt 43 = .ok (.invokevirtual 49, 3) := by decide +kernel
theorem dX4_firstAt_46 : decode cX4_firstAt 46 = .ok (.istore 8, 2) := by decide +kernel
theorem dX4_firstAt_48 : decode cX4_firstAt 48 = .ok (.iload 8, 2) := by decide +kernel
theorem dX4_firstAt_50 : decode cX4_firstAt 50 = .ok (.iconst (-1), 1) := by decide +kernel
theorem dX4_firstAt_51 : decode cX4_firstAt 51 = .ok (.if_icmp .eq 9, 3) := by decide +kernel
theorem dX4_firstAt_54 : decode cX4_firstAt 54 = .ok (.iload 7, 2) := by decide +kernel
theorem dX4_firstAt_56 : decode cX4_firstAt 56 = .ok (.iload_n 3, 1) := by decide +kernel
theorem dX4_firstAt_57 : decode cX4_firstAt 57 = .ok (.if_icmp .ne 6, 3) := by decide +kernel
theorem dX4_firstAt_60 : decode cX4_firstAt 60 = .ok (.iload 8, 2) := by decide +kernel
theorem dX4_firstAt_62 : decode cX4_firstAt 62 = .ok (.ireturn, 1) := by decide +kernel
theorem dX4_firstAt_63 : decode cX4_firstAt 63 = .ok (.aload_n 0, 1) := by decide +kernel
theorem dX4_firstAt_64 : decode cX4_firstAt 64 = .ok (.getfield 16, 3) := by decide +kernel
theorem dX4_firstAt_67 : decode cX4_firstAt 67 = .ok (.iload 8, 2) := by decide +kernel
theorem dX4_firstAt_69 : decode cX4_firstAt 69 = .ok (.lload 5, 2) := by decide +kernel
theorem dX4_firstAt_71 : decode cX4_firstAt 71 = .ok (.invokestatic 53, 3) := by decide +kernel
theorem dX4_firstAt_74 : decode cX4_firstAt 74 = .ok (.lstore 5, 2) := by decide +kernel
theorem dX4_firstAt_76 : decode cX4_firstAt 76 = .ok (.iload 4, 2) := by decide +kernel
theorem dX4_firstAt_78 : decode cX4_firstAt 78 = .ok (.iconst 1, 1) := by decide +kernel
theorem dX4_firstAt_79 : decode cX4_firstAt 79 = .ok (.iload 8, 2) := by decide +kernel
theorem dX4_firstAt_81 : decode cX4_firstAt 81 = .ok (.ishl, 1) := by decide +kernel
theorem dX4_firstAt_82 : decode cX4_firstAt 82 = .ok (.ior, 1) := by decide +kernel
theorem dX4_firstAt_83 : decode cX4_firstAt 83 = .ok (.istore 4, 2) := by decide +kernel
theorem dX4_firstAt_85 : decode cX4_firstAt 85 = .ok (.iinc 7 1, 3) := by decide +kernel
theorem dX4_firstAt_88 : decode cX4_firstAt 88 = .ok (.goto (-68), 3) := by decide +kernel
theorem dX4_firstAt_91 : decode cX4_firstAt 91 = .ok (.iconst (-1), 1) := by decide +kernel
theorem dX4_firstAt_92 : decode cX4_firstAt 92 = .ok (.ireturn, 1) := by decide +kernel
theorem dX4_leastPart_0 : decode cX4_leastPart 0 = .ok (.aload_n 1, 1) := by decide +kernel
theorem dX4_leastPart_1 : decode cX4_leastPart 1 = .ok (.invokevirtual 41, 3) := by decide +kernel
theorem dX4_leastPart_4 : decode cX4_leastPart 4 = .ok (.istore_n 3, 1) := by decide +kernel
theorem dX4_leastPart_5 : decode cX4_leastPart 5 = .ok (.aload_n 0, 1) := by decide +kernel
theorem dX4_leastPart_6 : decode cX4_leastPart 6 = .ok (.aload_n 1, 1) := by decide +kernel
theorem dX4_leastPart_7 : decode cX4_leastPart 7 = .ok (.iload_n 2, 1) := by decide +kernel
theorem dX4_leastPart_8 : decode cX4_leastPart 8 = .ok (.iload_n 3, 1) := by decide +kernel
theorem dX4_leastPart_9 : decode cX4_leastPart 9 = .ok (.invokevirtual 57, 3) := by decide +kernel
theorem dX4_leastPart_12 : decode cX4_leastPart 12 = .ok (.ifCond .eq 5, 3) := by decide +kernel
theorem dX4_leastPart_15 : decode cX4_leastPart 15 = .ok (.iconst 0, 1) := by decide +kernel
theorem dX4_leastPart_16 : decode cX4_leastPart 16 = .ok (.ireturn, 1) := by decide +kernel
theorem dX4_leastPart_17 : decode cX4_leastPart 17 = .ok (.iconst 0, 1) := by decide +kernel
theorem dX4_leastPart_18 : decode cX4_leastPart 18 = .ok (.istore 4, 2) := by decide +kernel
theorem dX4_leastPart_20 : decode cX4_leastPart 20 = .ok (.iload 4, 2) := by decide +kernel
theorem dX4_leastPart_22 : decode cX4_leastPart 22 = .ok (.bipush 10, 2) := by decide +kernel
theorem dX4_leastPart_24 : decode cX4_leastPart 24 = .ok (.if_icmp .ge 69, 3) := by decide +kernel
theorem dX4_leastPart_27 : decode cX4_leastPart 27 = .ok (.iload_n 3, 1) := by decide +kernel
theorem dX4_leastPart_28 : decode cX4_leastPart 28 = .ok (.istore 5, 2) := by decide +kernel
theorem dX4_leastPart_30 : decode cX4_leastPart 30 = .ok (.iconst 0, 1) := by decide +kernel
theorem dX4_leastPart_31 : decode cX4_leastPart 31 = .ok (.istore 6, 2) := by decide +kernel
theorem dX4_leastPart_33 : decode cX4_leastPart 33 = .ok (.iload 6, 2) := by decide +kernel
theorem dX4_leastPart_35 : decode cX4_leastPart 35 = .ok (.aload_n 1, 1) := by decide +kernel
theorem dX4_leastPart_36 : decode cX4_leastPart 36 = .ok (.getfield 61, 3) := by decide +kernel
theorem dX4_leastPart_39 : decode cX4_leastPart 39 = .ok (.if_icmp .ge 39, 3) := by decide +kernel
theorem dX4_leastPart_42 : decode cX4_leastPart 42 = .ok (.iload_n 3, 1) := by decide +kernel
theorem dX4_leastPart_43 : decode cX4_leastPart 43 = .ok (.iconst 1, 1) := by decide +kernel
theorem dX4_leastPart_44 : decode cX4_leastPart 44 = .ok (.iload 6, 2) := by decide +kernel
theorem dX4_leastPart_46 : decode cX4_leastPart 46 = .ok (.ishl, 1) := by decide +kernel
theorem dX4_leastPart_47 : decode cX4_leastPart 47 = .ok (.iconst (-1), 1) := by decide +kernel
theorem dX4_leastPart_48 : decode cX4_leastPart 48 = .ok (.ixor, 1) := by decide +kernel
theorem dX4_leastPart_49 : decode cX4_leastPart 49 = .ok (.iand, 1) := by decide +kernel
theorem dX4_leastPart_50 : decode cX4_leastPart 50 = .ok (.istore 7, 2) := by decide +kernel
theorem dX4_leastPart_52 : decode cX4_leastPart 52 = .ok (.iload 7, 2) := by decide +kernel
theorem dX4_leastPart_54 : decode cX4_leastPart 54 = .ok (.iload_n 3, 1) := by decide +kernel
theorem dX4_leastPart_55 : decode cX4_leastPart 55 = .ok (.if_icmp .eq 17, 3) := by decide +kernel
theorem dX4_leastPart_58 : decode cX4_leastPart 58 = .ok (.aload_n 0, 1) := by decide +kernel
theorem dX4_leastPart_59 : decode cX4_leastPart 59 = .ok (.aload_n 1, 1) := by decide +kernel
theorem dX4_leastPart_60 : decode cX4_leastPart 60 = .ok (.iload_n 2, 1) := by decide +kernel
theorem dX4_leastPart_61 : decode cX4_leastPart 61 = .ok (.iload 7, 2) := by decide +kernel
theorem dX4_leastPart_63 : decode cX4_leastPart 63 = .ok (.invokevirtual 57, 3) := by decide +kernel
theorem dX4_leastPart_66 : decode cX4_leastPart 66 = .ok (.ifCond .ne 6, 3) := by decide +kernel
theorem dX4_leastPart_69 : decode cX4_leastPart 69 = .ok (.iload 7, 2) := by decide +kernel
theorem dX4_leastPart_71 : decode cX4_leastPart 71 = .ok (.istore_n 3, 1) := by decide +kernel
theorem dX4_leastPart_72 : decode cX4_leastPart 72 = .ok (.iinc 6 1, 3) := by decide +kernel
theorem dX4_leastPart_75 : decode cX4_leastPart 75 = .ok (.goto (-42), 3) := by decide +kernel
theorem dX4_leastPart_78 : decode cX4_leastPart 78 = .ok (.iload_n 3, 1) := by decide +kernel
theorem dX4_leastPart_79 : decode cX4_leastPart 79 = .ok (.iload 5, 2) := by decide +kernel
theorem dX4_leastPart_81 : decode cX4_leastPart 81 = .ok (.if_icmp .ne 6, 3) := by decide +kernel
theorem dX4_leastPart_84 : decode cX4_leastPart 84 = .ok (.goto 9, 3) := by decide +kernel
theorem dX4_leastPart_87 : decode cX4_leastPart 87 = .ok (.iinc 4 1, 3) := by decide +kernel
theorem dX4_leastPart_90 : decode cX4_leastPart 90 = .ok (.goto (-70), 3) := by decide +kernel
theorem dX4_leastPart_93 : decode cX4_leastPart 93 = .ok (.iload_n 3, 1) := by decide +kernel
theorem dX4_leastPart_94 : decode cX4_leastPart 94 = .ok (.ireturn, 1) := by decide +kernel
theorem dX4_collect_0 : decode cX4_collect 0 = .ok (.aload_n 0, 1) := by decide +kernel
theorem dX4_collect_1 : decode cX4_collect 1 = .ok (.aload_n 1, 1) := by decide +kernel
theorem dX4_collect_2 : decode cX4_collect 2 = .ok (.iload_n 2, 1) := by decide +kernel
theorem dX4_collect_3 : decode cX4_collect 3 = .ok (.aload_n 1, 1) := by decide +kernel
theorem dX4_collect_4 : decode cX4_collect 4 = .ok (.invokevirtual 41, 3) := by decide +kernel
theorem dX4_collect_7 : decode cX4_collect 7 = .ok (.iconst 1, 1) := by decide +kernel
theorem dX4_collect_8 : decode cX4_collect 8 = .ok (.invokevirtual 33, 3) := by decide +kernel
theorem dX4_collect_11 : decode cX4_collect 11 = .ok (.aload 4, 2) := by decide +kernel
theorem dX4_collect_13 : decode cX4_collect 13 = .ok (.iconst 0, 1) := by decide +kernel
theorem dX4_collect_14 : decode cX4_collect 14 = .ok (.putfield 65, 3) := by decide +kernel
theorem dX4_collect_17 : decode cX4_collect 17 = .ok (.aload_n 0, 1) := by decide +kernel
theorem dX4_collect_18 : decode cX4_collect 18 = .ok (.iconst 0, 1) := by decide +kernel
theorem dX4_collect_19 : decode cX4_collect 19 = .ok (.iconst 0, 1) := by decide +kernel
theorem dX4_collect_20 : decode cX4_collect 20 = .ok (.lconst 0, 1) := by decide +kernel
theorem dX4_collect_21 : decode cX4_collect 21 = .ok (.iload_n 3, 1) := by decide +kernel
theorem dX4_collect_22 : decode cX4_collect 22 = .ok (.aload 4, 2) := by decide +kernel
theorem dX4_collect_24 : decode cX4_collect 24 = .ok (.invokevirtual 70, 3) := by decide +kernel
theorem dX4_collect_27 : decode cX4_collect 27 = .ok (.return_, 1) := by decide +kernel
theorem dX4_firstFault_0 : decode cX4_firstFault 0 = .ok (.aload_n 0, 1) := by decide +kernel
theorem dX4_firstFault_1 : decode cX4_firstFault 1 = .ok (.aload_n 1, 1) := by decide +kernel
theorem dX4_firstFault_2 : decode cX4_firstFault 2 = .ok (.iload_n 2, 1) := by decide +kernel
theorem dX4_firstFault_3 : decode cX4_firstFault 3 = .ok (.aload_n 1, 1) := by decide +kernel
theorem dX4_firstFault_4 : decode cX4_firstFault 4 = .ok (.invokevirtual 41, 3) := by decide +kernel
theorem dX4_firstFault_7 : decode cX4_firstFault 7 = .ok (.iconst 1, 1) := by decide +kernel
theorem dX4_firstFault_8 : decode cX4_firstFault 8 = .ok (.invokevirtual 33, 3) := by decide +kernel
theorem dX4_firstFault_11 : decode cX4_firstFault 11 = .ok (.iconst 0, 1) := by decide +kernel
theorem dX4_firstFault_12 : decode cX4_firstFault 12 = .ok (.istore 5, 2) := by decide +kernel
theorem dX4_firstFault_14 : decode cX4_firstFault 14 = .ok (.lconst 0, 1) := by decide +kernel
theorem dX4_firstFault_15 : decode cX4_firstFault 15 = .ok (.lstore 6, 2) := by decide +kernel
theorem dX4_firstFault_17 : decode cX4_firstFault 17 = .ok (.iconst 0, 1) := by decide +kernel
theorem dX4_firstFault_18 : decode cX4_firstFault 18 = .ok (.istore 8, 2) := by decide +kernel
theorem dX4_firstFault_20 : decode cX4_firstFault 20 = .ok (.iload 8, 2) := by decide +kernel
theorem dX4_firstFault_22 : decode cX4_firstFault 22 = .ok (.iload 4, 2) := by decide +kernel
theorem dX4_firstFault_24 : decode cX4_firstFault 24 = .ok (.if_icmp .ge 60, 3) := by decide +kernel
theorem dX4_firstFault_27 : decode cX4_firstFault 27 = .ok (.iload 8, 2) := by decide +kernel
theorem dX4_firstFault_29 : decode cX4_firstFault 29 = .ok (.aload_n 3, 1) := by decide +kernel
theorem dX4_firstFault_30 : decode cX4_firstFault 30 = .ok (.arraylength, 1) := by decide +kernel
theorem dX4_firstFault_31 : decode cX4_firstFault 31 = .ok (.if_icmp .ge 53, 3) := by decide +kernel
theorem dX4_firstFault_34 : decode cX4_firstFault 34 = .ok (.aload_n 3, 1) := by decide +kernel
theorem dX4_firstFault_35 : decode cX4_firstFault 35 = .ok (.iload 8, 2) := by decide +kernel
theorem dX4_firstFault_37 : decode cX4_firstFault 37 = .ok (.iaload, 1) := by decide +kernel
theorem dX4_firstFault_38 : decode cX4_firstFault 38 = .ok (.istore 9, 2) := by decide +kernel
theorem dX4_firstFault_40 : decode cX4_firstFault 40 = .ok (.aload_n 0, 1) := by decide +kernel
theorem dX4_firstFault_41 : decode cX4_firstFault 41 = .ok (.iload 9, 2) := by decide +kernel
theorem dX4_firstFault_43 : decode cX4_firstFault 43 = .ok (.iload 5, 2) := by decide +kernel
theorem dX4_firstFault_45 : decode cX4_firstFault 45 = .ok (.lload 6, 2) := by decide +kernel
theorem dX4_firstFault_47 : decode cX4_firstFault 47 = .ok (.invokevirtual 74, 3) := by decide +kernel
theorem dX4_firstFault_50 : decode cX4_firstFault 50 = .ok (.ifCond .ne 6, 3) := by decide +kernel
theorem dX4_firstFault_53 : decode cX4_firstFault 53 = .ok (.iload 8, 2) := by decide +kernel
theorem dX4_firstFault_55 : decode cX4_firstFault 55 = .ok (.ireturn, 1) := by decide +kernel
theorem dX4_firstFault_56 : decode cX4_firstFault 56 = .ok (.aload_n 0, 1) := by decide +kernel
theorem dX4_firstFault_57 : decode cX4_firstFault 57 = .ok (.getfield 16, 3) := by decide +kernel
theorem dX4_firstFault_60 : decode cX4_firstFault 60 = .ok (.iload 9, 2) := by decide +kernel
theorem dX4_firstFault_62 : decode cX4_firstFault 62 = .ok (.lload 6, 2) := by decide +kernel
theorem dX4_firstFault_64 : decode cX4_firstFault 64 = .ok (.invokestatic 53, 3) := by decide +kernel
theorem dX4_firstFault_67 : decode cX4_firstFault 67 = .ok (.lstore 6, 2) := by decide +kernel
theorem dX4_firstFault_69 : decode cX4_firstFault 69 = .ok (.iload 5, 2) := by decide +kernel
theorem dX4_firstFault_71 : decode cX4_firstFault 71 = .ok (.iconst 1, 1) := by decide +kernel
theorem dX4_firstFault_72 : decode cX4_firstFault 72 = .ok (.iload 9, 2) := by decide +kernel
theorem dX4_firstFault_74 : decode cX4_firstFault 74 = .ok (.ishl, 1) := by decide +kernel
theorem dX4_firstFault_75 : decode cX4_firstFault 75 = .ok (.ior, 1) := by decide +kernel
theorem dX4_firstFault_76 : decode cX4_firstFault 76 = .ok (.istore 5, 2) := by decide +kernel
theorem dX4_firstFault_78 : decode cX4_firstFault 78 = .ok (.iinc 8 1, 3) := by decide +kernel
theorem dX4_firstFault_81 : decode cX4_firstFault 81 = .ok (.goto (-61), 3) := by decide +kernel
theorem dX4_firstFault_84 : decode cX4_firstFault 84 = .ok (.aload_n 0, 1) := by decide +kernel
theorem dX4_firstFault_85 : decode cX4_firstFault 85 = .ok (.iload 5, 2) := by decide +kernel
theorem dX4_firstFault_87 : decode cX4_firstFault 87 = .ok (.invokevirtual 45, 3) := by decide +kernel
theorem dX4_firstFault_90 : decode cX4_firstFault 90 = .ok (.ifCond .eq 8, 3) := by decide +kernel
theorem dX4_firstFault_93 : decode cX4_firstFault 93 = .ok (.bipush 100, 2) := by decide +kernel
theorem dX4_firstFault_95 : decode cX4_firstFault 95 = .ok (.goto 5, 3) := by decide +kernel
theorem dX4_firstFault_98 : decode cX4_firstFault 98 = .ok (.iload 4, 2) := by decide +kernel
theorem dX4_firstFault_100 : decode cX4_firstFault 100 = .ok (.ireturn, 1) := by decide +kernel
theorem dX4_open_0 : decode cX4_open 0 = .ok (.aload_n 0, 1) := by decide +kernel
theorem dX4_open_1 : decode cX4_open 1 = .ok (.aload_n 1, 1) := by decide +kernel
theorem dX4_open_2 : decode cX4_open 2 = .ok (.putfield 16, 3) := by decide +kernel
theorem dX4_open_5 : decode cX4_open 5 = .ok (.aload_n 0, 1) := by decide +kernel
theorem dX4_open_6 : decode cX4_open 6 = .ok (.iload_n 3, 1) := by decide +kernel
theorem dX4_open_7 : decode cX4_open 7 = .ok (.putfield 78, 3) := by decide +kernel
theorem dX4_open_10 : decode cX4_open 10 = .ok (.aload_n 0, 1) := by decide +kernel
theorem dX4_open_11 : decode cX4_open 11 = .ok (.iload_n 3, 1) := by decide +kernel
theorem dX4_open_12 : decode cX4_open 12 = .ok (.aload_n 1, 1) := by decide +kernel
theorem dX4_open_13 : decode cX4_open 13 = .ok (.invokevirtual 81, 3) := by decide +kernel
theorem dX4_open_16 : decode cX4_open 16 = .ok (.iand, 1) := by decide +kernel
theorem dX4_open_17 : decode cX4_open 17 = .ok (.putfield 84, 3) := by decide +kernel
theorem dX4_open_20 : decode cX4_open 20 = .ok (.aload_n 0, 1) := by decide +kernel
theorem dX4_open_21 : decode cX4_open 21 = .ok (.iload 4, 2) := by decide +kernel
theorem dX4_open_23 : decode cX4_open 23 = .ok (.putfield 87, 3) := by decide +kernel
theorem dX4_open_26 : decode cX4_open 26 = .ok (.aload_n 0, 1) := by decide +kernel
theorem dX4_open_27 : decode cX4_open 27 = .ok (.getfield 29, 3) := by decide +kernel
theorem dX4_open_30 : decode cX4_open 30 = .ok (.invokevirtual 91, 3) := by decide +kernel
theorem dX4_open_33 : decode cX4_open 33 = .ok (.iload_n 2, 1) := by decide +kernel
theorem dX4_open_34 : decode cX4_open 34 = .ok (.iconst 1, 1) := by decide +kernel
theorem dX4_open_35 : decode cX4_open 35 = .ok (.if_icmp .ne 11, 3) := by decide +kernel
theorem dX4_open_38 : decode cX4_open 38 = .ok (.aload_n 1, 1) := by decide +kernel
theorem dX4_open_39 : decode cX4_open 39 = .ok (.iload_n 3, 1) := by decide +kernel
theorem dX4_open_40 : decode cX4_open 40 = .ok (.invokevirtual 94, 3) := by decide +kernel
theorem dX4_open_43 : decode cX4_open 43 = .ok (.goto 4, 3) := by decide +kernel
theorem dX4_open_46 : decode cX4_open 46 = .ok (.iconst 0, 1) := by decide +kernel
theorem dX4_open_47 : decode cX4_open 47 = .ok (.istore 5, 2) := by decide +kernel
theorem dX4_open_49 : decode cX4_open 49 = .ok (.iconst 0, 1) := by decide +kernel
theorem dX4_open_50 : decode cX4_open 50 = .ok (.istore 6, 2) := by decide +kernel
theorem dX4_open_52 : decode cX4_open 52 = .ok (.iload 6, 2) := by decide +kernel
theorem dX4_open_54 : decode cX4_open 54 = .ok (.aload_n 1, 1) := by decide +kernel
theorem dX4_open_55 : decode cX4_open 55 = .ok (.getfield 61, 3) := by decide +kernel
theorem dX4_open_58 : decode cX4_open 58 = .ok (.if_icmp .ge 70, 3) := by decide +kernel
theorem dX4_open_61 : decode cX4_open 61 = .ok (.aload_n 0, 1) := by decide +kernel
theorem dX4_open_62 : decode cX4_open 62 = .ok (.getfield 22, 3) := by decide +kernel
theorem dX4_open_65 : decode cX4_open 65 = .ok (.iload 6, 2) := by decide +kernel
theorem dX4_open_67 : decode cX4_open 67 = .ok (.iconst 0, 1) := by decide +kernel
theorem dX4_open_68 : decode cX4_open 68 = .ok (.iastore, 1) := by decide +kernel
theorem dX4_open_69 : decode cX4_open 69 = .ok (.iconst 0, 1) := by decide +kernel
theorem dX4_open_70 : decode cX4_open 70 = .ok (.istore 7, 2) := by decide +kernel
theorem dX4_open_72 : decode cX4_open 72 = .ok (.iload 7, 2) := by decide +kernel
theorem dX4_open_74 : decode cX4_open 74 = .ok (.iload 6, 2) := by decide +kernel
theorem dX4_open_76 : decode cX4_open 76 = .ok (.if_icmp .ge 46, 3) := by decide +kernel
theorem dX4_open_79 : decode cX4_open 79 = .ok (.iload_n 3, 1) := by decide +kernel
theorem dX4_open_80 : decode cX4_open 80 = .ok (.iload 7, 2) := by decide +kernel
theorem dX4_open_82 : decode cX4_open 82 = .ok (.invokestatic 98, 3) := by decide +kernel
theorem dX4_open_85 : decode cX4_open 85 = .ok (.ifCond .eq 31, 3) := by decide +kernel
theorem dX4_open_88 : decode cX4_open 88 = .ok (.aload_n 1, 1) := by decide +kernel
theorem dX4_open_89 : decode cX4_open 89 = .ok (.iload_n 2, 1) := by decide +kernel
theorem dX4_open_90 : decode cX4_open 90 = .ok (.iload 5, 2) := by decide +kernel
theorem dX4_open_92 : decode cX4_open 92 = .ok (.iload 7, 2) := by decide +kernel
theorem dX4_open_94 : decode cX4_open 94 = .ok (.iload 6, 2) := by decide +kernel
theorem dX4_open_96 : decode cX4_open 96 = .ok (.invokevirtual 102, 3) := by decide +kernel
theorem dX4_open_99 : decode cX4_open 99 = .ok (.ifCond .eq 17, 3) := by decide +kernel
theorem dX4_open_102 : decode cX4_open 102 = .ok (.aload_n 0, 1) := by decide +kernel
theorem dX4_open_103 : decode cX4_open 103 = .ok (.getfield 22, 3) := by decide +kernel
theorem dX4_open_106 : decode cX4_open 106 = .ok (.iload 6, 2) := by decide +kernel
theorem dX4_open_108 : decode cX4_open 108 = .ok (.dup2, 1) := by decide +kernel
theorem dX4_open_109 : decode cX4_open 109 = .ok (.iaload, 1) := by decide +kernel
theorem dX4_open_110 : decode cX4_open 110 = .ok (.iconst 1, 1) := by decide +kernel
theorem dX4_open_111 : decode cX4_open 111 = .ok (.iload 7, 2) := by decide +kernel
theorem dX4_open_113 : decode cX4_open 113 = .ok (.ishl, 1) := by decide +kernel
theorem dX4_open_114 : decode cX4_open 114 = .ok (.ior, 1) := by decide +kernel
theorem dX4_open_115 : decode cX4_open 115 = .ok (.iastore, 1) := by decide +kernel
theorem dX4_open_116 : decode cX4_open 116 = .ok (.iinc 7 1, 3) := by decide +kernel
theorem dX4_open_119 : decode cX4_open 119 = .ok (.goto (-47), 3) := by decide +kernel
theorem dX4_open_122 : decode cX4_open 122 = .ok (.iinc 6 1, 3) := by decide +kernel
theorem dX4_open_125 : decode cX4_open 125 = .ok (.goto (-73), 3) := by decide +kernel
theorem dX4_open_128 : decode cX4_open 128 = .ok (.return_, 1) := by decide +kernel
theorem dX4_isWhole_0 : decode cX4_isWhole 0 = .ok (.aload_n 0, 1) := by decide +kernel
theorem dX4_isWhole_1 : decode cX4_isWhole 1 = .ok (.getfield 84, 3) := by decide +kernel
theorem dX4_isWhole_4 : decode cX4_isWhole 4 = .ok (.iload_n 1, 1) := by decide +kernel
theorem dX4_isWhole_5 : decode cX4_isWhole 5 = .ok (.iconst (-1), 1) := by decide +kernel
theorem dX4_isWhole_6 : decode cX4_isWhole 6 = .ok (.ixor, 1) := by decide +kernel
theorem dX4_isWhole_7 : decode cX4_isWhole 7 = .ok (.iand, 1) := by decide +kernel
theorem dX4_isWhole_8 : decode cX4_isWhole 8 = .ok (.ifCond .ne 7, 3) := by decide +kernel
theorem dX4_isWhole_11 : decode cX4_isWhole 11 = .ok (.iconst 1, 1) := by decide +kernel
theorem dX4_isWhole_12 : decode cX4_isWhole 12 = .ok (.goto 4, 3) := by decide +kernel
theorem dX4_isWhole_15 : decode cX4_isWhole 15 = .ok (.iconst 0, 1) := by decide +kernel
theorem dX4_isWhole_16 : decode cX4_isWhole 16 = .ok (.ireturn, 1) := by decide +kernel
theorem dX4_fits_0 : decode cX4_fits 0 = .ok (.aload_n 0, 1) := by decide +kernel
theorem dX4_fits_1 : decode cX4_fits 1 = .ok (.getfield 16, 3) := by decide +kernel
theorem dX4_fits_4 : decode cX4_fits 4 = .ok (.iload_n 1, 1) := by decide +kernel
theorem dX4_fits_5 : decode cX4_fits 5 = .ok (.invokevirtual 106, 3) := by decide +kernel
theorem dX4_fits_8 : decode cX4_fits 8 = .ok (.ifCond .eq 31, 3) := by decide +kernel
theorem dX4_fits_11 : decode cX4_fits 11 = .ok (.aload_n 0, 1) := by decide +kernel
theorem dX4_fits_12 : decode cX4_fits 12 = .ok (.getfield 78, 3) := by decide +kernel
theorem dX4_fits_15 : decode cX4_fits 15 = .ok (.iload_n 2, 1) := by decide +kernel
theorem dX4_fits_16 : decode cX4_fits 16 = .ok (.iconst (-1), 1) := by decide +kernel
theorem dX4_fits_17 : decode cX4_fits 17 = .ok (.ixor, 1) := by decide +kernel
theorem dX4_fits_18 : decode cX4_fits 18 = .ok (.iand, 1) := by decide +kernel
theorem dX4_fits_19 : decode cX4_fits 19 = .ok (.iload_n 1, 1) := by decide +kernel
theorem dX4_fits_20 : decode cX4_fits 20 = .ok (.invokestatic 98, 3) := by decide +kernel
theorem dX4_fits_23 : decode cX4_fits 23 = .ok (.ifCond .eq 16, 3) := by decide +kernel
theorem dX4_fits_26 : decode cX4_fits 26 = .ok (.aload_n 0, 1) := by decide +kernel
theorem dX4_fits_27 : decode cX4_fits 27 = .ok (.getfield 22, 3) := by decide +kernel
theorem dX4_fits_30 : decode cX4_fits 30 = .ok (.iload_n 1, 1) := by decide +kernel
theorem dX4_fits_31 : decode cX4_fits 31 = .ok (.iaload, 1) := by decide +kernel
theorem dX4_fits_32 : decode cX4_fits 32 = .ok (.iload_n 2, 1) := by decide +kernel
theorem dX4_fits_33 : decode cX4_fits 33 = .ok (.iconst (-1), 1) := by decide +kernel
theorem dX4_fits_34 : decode cX4_fits 34 = .ok (.ixor, 1) := by decide +kernel
theorem dX4_fits_35 : decode cX4_fits 35 = .ok (.iand, 1) := by decide +kernel
theorem dX4_fits_36 : decode cX4_fits 36 = .ok (.ifCond .eq 5, 3) := by decide +kernel
theorem dX4_fits_39 : decode cX4_fits 39 = .ok (.iconst 0, 1) := by decide +kernel
theorem dX4_fits_40 : decode cX4_fits 40 = .ok (.ireturn, 1) := by decide +kernel
theorem dX4_fits_41 : decode cX4_fits 41 = .ok (.aload_n 0, 1) := by decide +kernel
theorem dX4_fits_42 : decode cX4_fits 42 = .ok (.getfield 16, 3) := by decide +kernel
theorem dX4_fits_45 : decode cX4_fits 45 = .ok (.iload_n 1, 1) := by decide +kernel
theorem dX4_fits_46 : decode cX4_fits 46 = .ok (.invokevirtual 109, 3) := by decide +kernel
theorem dX4_fits_49 : decode cX4_fits 49 = .ok (.ifCond .ne 24, 3) := by decide +kernel
theorem dX4_fits_52 : decode cX4_fits 52 = .ok (.aload_n 0, 1) := by decide +kernel
theorem dX4_fits_53 : decode cX4_fits 53 = .ok (.getfield 16, 3) := by decide +kernel
theorem dX4_fits_56 : decode cX4_fits 56 = .ok (.iload_n 1, 1) := by decide +kernel
theorem dX4_fits_57 : decode cX4_fits 57 = .ok (.lload_n 3, 1) := by decide +kernel
theorem dX4_fits_58 : decode cX4_fits 58 = .ok (.invokestatic 112, 3) := by decide +kernel
theorem dX4_fits_61 : decode cX4_fits 61 = .ok (.aload_n 0, 1) := by decide +kernel
theorem dX4_fits_62 : decode cX4_fits 62 = .ok (.getfield 16, 3) := by decide +kernel
theorem dX4_fits_65 : decode cX4_fits 65 = .ok (.getfield 116, 3) := by decide +kernel
theorem dX4_fits_68 : decode cX4_fits 68 = .ok (.iload_n 1, 1) := by decide +kernel
theorem dX4_fits_69 : decode cX4_fits 69 = .ok (.iaload, 1) := by decide +kernel
theorem dX4_fits_70 : decode cX4_fits 70 = .ok (.if_icmp .ne 7, 3) := by decide +kernel
theorem dX4_fits_73 : decode cX4_fits 73 = .ok (.iconst 1, 1) := by decide +kernel
theorem dX4_fits_74 : decode cX4_fits 74 = .ok (.goto 4, 3) := by decide +kernel
theorem dX4_fits_77 : decode cX4_fits 77 = .ok (.iconst 0, 1) := by decide +kernel
theorem dX4_fits_78 : decode cX4_fits 78 = .ok (.ireturn, 1) := by decide +kernel
theorem dX4_keyOf_0 : decode cX4_keyOf 0 = .ok (.lload_n 1, 1) := by decide +kernel
theorem dX4_keyOf_1 : decode cX4_keyOf 1 = .ok (.bipush 10, 2) := by decide +kernel
theorem dX4_keyOf_3 : decode cX4_keyOf 3 = .ok (.lshl, 1) := by decide +kernel
theorem dX4_keyOf_4 : decode cX4_keyOf 4 = .ok (.iload_n 0, 1) := by decide +kernel
theorem dX4_keyOf_5 : decode cX4_keyOf 5 = .ok (.i2l, 1) := by decide +kernel
theorem dX4_keyOf_6 : decode cX4_keyOf 6 = .ok (.lor, 1) := by decide +kernel
theorem dX4_keyOf_7 : decode cX4_keyOf 7 = .ok (.lreturn, 1) := by decide +kernel
theorem dX4_waysFrom_0 : decode cX4_waysFrom 0 = .ok (.iload_n 1, 1) := by decide +kernel
theorem dX4_waysFrom_1 : decode cX4_waysFrom 1 = .ok (.bipush 10, 2) := by decide +kernel
theorem dX4_waysFrom_3 : decode cX4_waysFrom 3 = .ok (.if_icmp .le 5, 3) := by decide +kernel
theorem dX4_waysFrom_6 : decode cX4_waysFrom 6 = .ok (.lconst 0, 1) := by decide +kernel
theorem dX4_waysFrom_7 : decode cX4_waysFrom 7 = .ok (.lreturn, 1) := by decide +kernel
theorem dX4_waysFrom_8 : decode cX4_waysFrom 8 = .ok (.iload_n 2, 1) := by decide +kernel
theorem dX4_waysFrom_9 : decode cX4_waysFrom 9 = .ok (.lload_n 3, 1) := by decide +kernel
theorem dX4_waysFrom_10 : decode cX4_waysFrom 10 = .ok (.invokestatic 119, 3) := by decide +kernel
theorem dX4_waysFrom_13 : decode cX4_waysFrom 13 = .ok (.lstore 5, 2) := by decide +kernel
theorem dX4_waysFrom_15 : decode cX4_waysFrom 15 = .ok (.aload_n 0, 1) := by decide +kernel
theorem dX4_waysFrom_16 : decode cX4_waysFrom 16 = .ok (.getfield 29, 3) := by decide +kernel
theorem dX4_waysFrom_19 : decode cX4_waysFrom 19 = .ok (.lload 5, 2) := by decide +kernel
theorem dX4_waysFrom_21 : decode cX4_waysFrom 21 = .ok (.invokevirtual 123, 3) := by decide +kernel
theorem dX4_waysFrom_24 : decode cX4_waysFrom 24 = .ok (.lstore 7, 2) := by decide +kernel
theorem dX4_waysFrom_26 : decode cX4_waysFrom 26 = .ok (.lload 7, 2) := by decide +kernel
theorem dX4_waysFrom_28 : decode cX4_waysFrom 28 = .ok (.ldc2_w 127, 3) := by decide +kernel
theorem dX4_waysFrom_31 : decode cX4_waysFrom 31 = .ok (.lcmp, 1) := by decide +kernel
theorem dX4_waysFrom_32 : decode cX4_waysFrom 32 = .ok (.ifCond .eq 6, 3) := by decide +kernel
theorem dX4_waysFrom_35 : decode cX4_waysFrom 35 = .ok (.lload 7, 2) := by decide +kernel
theorem dX4_waysFrom_37 : decode cX4_waysFrom 37 = .ok (.lreturn, 1) := by decide +kernel
theorem dX4_waysFrom_38 : decode cX4_waysFrom 38 = .ok (.aload_n 0, 1) := by decide +kernel
theorem dX4_waysFrom_39 : decode cX4_waysFrom 39 = .ok (.iload_n 2, 1) := by decide +kernel
theorem dX4_waysFrom_40 : decode cX4_waysFrom 40 = .ok (.invokevirtual 45, 3) := by decide +kernel
theorem dX4_waysFrom_43 : decode cX4_waysFrom 43 = .ok (.ifCond .eq 7, 3) := by decide +kernel
theorem dX4_waysFrom_46 : decode cX4_waysFrom 46 = .ok (.lconst 1, 1) := by decide +kernel
theorem dX4_waysFrom_47 : decode cX4_waysFrom 47 = .ok (.goto 4, 3) := by decide +kernel
theorem dX4_waysFrom_50 : decode cX4_waysFrom 50 = .ok (.lconst 0, 1) := by decide +kernel
theorem dX4_waysFrom_51 : decode cX4_waysFrom 51 = .ok (.lstore 9, 2) := by decide +kernel
theorem dX4_waysFrom_53 : decode cX4_waysFrom 53 = .ok (.iconst 0, 1) := by decide +kernel
theorem dX4_waysFrom_54 : decode cX4_waysFrom 54 = .ok (.istore 11, 2) := by decide +kernel
theorem dX4_waysFrom_56 : decode cX4_waysFrom 56 = .ok (.iload 11, 2) := by decide +kernel
theorem dX4_waysFrom_58 : decode cX4_waysFrom 58 = .ok (.aload_n 0, 1) := by decide +kernel
theorem dX4_waysFrom_59 : decode cX4_waysFrom 59 = .ok (.getfield 16, 3) := by decide +kernel
theorem dX4_waysFrom_62 : decode cX4_waysFrom 62 = .ok (.getfield 61, 3) := by decide +kernel
theorem dX4_waysFrom_65 : decode cX4_waysFrom 65 = .ok (.if_icmp .ge 62, 3) := by decide +kernel
theorem dX4_waysFrom_68 : decode cX4_waysFrom 68 = .ok (.aload_n 0, 1) := by decide +kernel
theorem dX4_waysFrom_69 : decode cX4_waysFrom 69 = .ok (.getfield 87, 3) := by decide +kernel
theorem dX4_waysFrom_72 : decode cX4_waysFrom 72 = .ok (.ifCond .eq 10, 3) := by decide +kernel
theorem dX4_waysFrom_75 : decode cX4_waysFrom 75 = .ok (.lload 9, 2) := by decide +kernel
theorem dX4_waysFrom_77 : decode cX4_waysFrom 77 = .ok (.lconst 0, 1) := by decide +kernel
theorem dX4_waysFrom_78 : decode cX4_waysFrom 78 = .ok (.lcmp, 1) := by decide +kernel
theorem dX4_waysFrom_79 : decode cX4_waysFrom 79 = .ok (.ifCond .gt 48, 3) := by decide +kernel
theorem dX4_waysFrom_82 : decode cX4_waysFrom 82 = .ok (.aload_n 0, 1) := by decide +kernel
theorem dX4_waysFrom_83 : decode cX4_waysFrom 83 = .ok (.iload 11, 2) := by decide +kernel
theorem dX4_waysFrom_85 : decode cX4_waysFrom 85 = .ok (.iload_n 2, 1) := by decide +kernel
theorem dX4_waysFrom_86 : decode cX4_waysFrom 86 = .ok (.lload_n 3, 1) := by decide +kernel
theorem dX4_waysFrom_87 : decode cX4_waysFrom 87 = .ok (.invokevirtual 74, 3) := by decide +kernel
theorem dX4_waysFrom_90 : decode cX4_waysFrom 90 = .ok (.ifCond .eq 31, 3) := by decide +kernel
theorem dX4_waysFrom_93 : decode cX4_waysFrom 93 = .ok (.lload 9, 2) := by decide +kernel
theorem dX4_waysFrom_95 : decode cX4_waysFrom 95 = .ok (.aload_n 0, 1) := by decide +kernel
theorem dX4_waysFrom_96 : decode cX4_waysFrom 96 = .ok (.iload_n 1, 1) := by decide +kernel
theorem dX4_waysFrom_97 : decode cX4_waysFrom 97 = .ok (.iconst 1, 1) := by decide +kernel
theorem dX4_waysFrom_98 : decode cX4_waysFrom 98 = .ok (.iadd, 1) := by decide +kernel
theorem dX4_waysFrom_99 : decode cX4_waysFrom 99 = .ok (.iload_n 2, 1) := by decide +kernel
theorem dX4_waysFrom_100 : decode cX4_waysFrom 100 = .ok (.iconst 1, 1) := by decide +kernel
theorem dX4_waysFrom_101 : decode cX4_waysFrom 101 = .ok (.iload 11, 2) := by decide +kernel
theorem dX4_waysFrom_103 : decode cX4_waysFrom 103 = .ok (.ishl, 1) := by decide +kernel
theorem dX4_waysFrom_104 : decode cX4_waysFrom 104 = .ok (.ior, 1) := by decide +kernel
theorem dX4_waysFrom_105 : decode cX4_waysFrom 105 = .ok (.aload_n 0, 1) := by decide +kernel
theorem dX4_waysFrom_106 : decode cX4_waysFrom 106 = .ok (.getfield 16, 3) := by decide +kernel
theorem dX4_waysFrom_109 : decode cX4_waysFrom 109 = .ok (.iload 11, 2) := by decide +kernel
theorem dX4_waysFrom_111 : decode cX4_waysFrom 111 = .ok (.lload_n 3, 1) := by decide +kernel
theorem dX4_waysFrom_112 : decode cX4_waysFrom 112 = .ok (.invokestatic 53, 3) := by decide +kernel
theorem dX4_waysFrom_115 : decode cX4_waysFrom 115 = .ok (.invokevirtual 37, 3) := by decide +kernel
theorem dX4_waysFrom_118 : decode cX4_waysFrom 118 = .ok (.ladd, 1) := by decide +kernel
theorem dX4_waysFrom_119 : decode cX4_waysFrom 119 = .ok (.lstore 9, 2) := by decide +kernel
theorem dX4_waysFrom_121 : decode cX4_waysFrom 121 = .ok (.iinc 11 1, 3) := by decide +kernel
theorem dX4_waysFrom_124 : decode cX4_waysFrom 124 = .ok (.goto (-68), 3) := by decide +kernel
theorem dX4_waysFrom_127 : decode cX4_waysFrom 127 = .ok (.aload_n 0, 1) := by decide +kernel
theorem dX4_waysFrom_128 : decode cX4_waysFrom 128 = .ok (.getfield 29, 3) := by decide +kernel
theorem dX4_waysFrom_131 : decode cX4_waysFrom 131 = .ok (.lload 5, 2) := by decide +kernel
theorem dX4_waysFrom_133 : decode cX4_waysFrom 133 = .ok (.lload 9, 2) := by decide +kernel
theorem dX4_waysFrom_135 : decode cX4_waysFrom 135 = .ok (.invokevirtual 129, 3) := by decide +kernel
theorem dX4_waysFrom_138 : decode cX4_waysFrom 138 = .ok (.lload 9, 2) := by decide +kernel
theorem dX4_waysFrom_140 : decode cX4_waysFrom 140 = .ok (.lreturn, 1) := by decide +kernel
theorem dX4_firstThatLeadsOn_0 : decode cX4_firstThatLeadsOn 0 = .ok (.iconst 0, 1) := by decide +kernel
theorem dX4_firstThatLeadsOn_1 : decode cX4_firstThatLeadsOn 1 = .ok (.istore 5, 2) := by decide +kernel
theorem dX4_firstThatLeadsOn_3 : decode cX4_firstThatLeadsOn 3 = .ok (.iload 5, 2) := by decide +kernel
theorem dX4_firstThatLeadsOn_5 : decode cX4_firstThatLeadsOn 5 = .ok (.aload_n 0, 1) := by decide +kernel
theorem dX4_firstThatLeadsOn_6 : decode cX4_firstThatLeadsOn 6 = .ok (.getfield 16, 3) := by decide +kernel
theorem dX4_firstThatLeadsOn_9 : decode cX4_firstThatLeadsOn 9 = .ok (.getfield 61, 3) := by decide +kernel
theorem dX4_firstThatLeadsOn_12 : decode cX4_firstThatLeadsOn 12 = .ok (.if_icmp .ge 51, 3) := by decide +kernel
theorem dX4_firstThatLeadsOn_15 : decode cX4_firstThatLeadsOn 15 = .ok (.aload_n 0, 1) := by decide +kernel
theorem dX4_firstThatLeadsOn_16 : decode cX4_firstThatLeadsOn 16 = .ok (.iload 5, 2) := by decide +kernel
theorem dX4_firstThatLeadsOn_18 : decode cX4_firstThatLeadsOn 18 = .ok (.iload_n 2, 1) := by decide +kernel
theorem dX4_firstThatLeadsOn_19 : decode cX4_firstThatLeadsOn 19 = .ok (.lload_n 3, 1) := by decide +kernel
theorem dX4_firstThatLeadsOn_20 : decode cX4_firstThatLeadsOn 20 = .ok (.invokevirtual 74, 3) := by decide +kernel
theorem dX4_firstThatLeadsOn_23 : decode cX4_firstThatLeadsOn 23 = .ok (.ifCond .eq 34, 3) := by decide +kernel
theorem dX4_firstThatLeadsOn_26 : decode cX4_firstThatLeadsOn 26 = .ok (.aload_n 0, 1) := by decide +kernel
theorem dX4_firstThatLeadsOn_27 : decode cX4_firstThatLeadsOn 27 = .ok (.iload_n 1, 1) := by decide +kernel
theorem dX4_firstThatLeadsOn_28 : decode cX4_firstThatLeadsOn 28 = .ok (.iconst 1, 1) := by decide +kernel
theorem dX4_firstThatLeadsOn_29 : decode cX4_firstThatLeadsOn 29 = .ok (.iadd, 1) := by decide +kernel
theorem dX4_firstThatLeadsOn_30 : decode cX4_firstThatLeadsOn 30 = .ok (.iload_n 2, 1) := by decide +kernel
theorem dX4_firstThatLeadsOn_31 : decode cX4_firstThatLeadsOn 31 = .ok (.iconst 1, 1) := by decide +kernel
theorem dX4_firstThatLeadsOn_32 : decode cX4_firstThatLeadsOn 32 = .ok (.iload 5, 2) := by decide +kernel
theorem dX4_firstThatLeadsOn_34 : decode cX4_firstThatLeadsOn 34 = .ok (.ishl, 1) := by decide +kernel
theorem dX4_firstThatLeadsOn_35 : decode cX4_firstThatLeadsOn 35 = .ok (.ior, 1) := by decide +kernel
theorem dX4_firstThatLeadsOn_36 : decode cX4_firstThatLeadsOn 36 = .ok (.aload_n 0, 1) := by decide +kernel
theorem dX4_firstThatLeadsOn_37 : decode cX4_firstThatLeadsOn 37 = .ok (.getfield 16, 3) := by decide +kernel
theorem dX4_firstThatLeadsOn_40 : decode cX4_firstThatLeadsOn 40 = .ok (.iload 5, 2) := by decide +kernel
theorem dX4_firstThatLeadsOn_42 : decode cX4_firstThatLeadsOn 42 = .ok (.lload_n 3, 1) := by decide +kernel
theorem dX4_firstThatLeadsOn_43 : decode cX4_firstThatLeadsOn 43 = .ok (.invokestatic 53, 3) := by decide +kernel
theorem dX4_firstThatLeadsOn_46 : decode cX4_firstThatLeadsOn 46 = .ok (.invokevirtual 37, 3) := by decide +kernel
theorem dX4_firstThatLeadsOn_49 : decode cX4_firstThatLeadsOn 49 = .ok (.lconst 0, 1) := by decide +kernel
theorem dX4_firstThatLeadsOn_50 : decode cX4_firstThatLeadsOn 50 = .ok (.lcmp, 1) := by decide +kernel
theorem dX4_firstThatLeadsOn_51 : decode cX4_firstThatLeadsOn 51 = .ok (.ifCond .le 6, 3) := by decide +kernel
theorem dX4_firstThatLeadsOn_54 : decode cX4_firstThatLeadsOn 54 = .ok (.iload 5, 2) := by decide +kernel
theorem dX4_firstThatLeadsOn_56 : decode cX4_firstThatLeadsOn 56 = .ok (.ireturn, 1) := by decide +kernel
theorem dX4_firstThatLeadsOn_57 : decode cX4_firstThatLeadsOn 57 = .ok (.iinc 5 1, 3) := by decide +kernel
theorem dX4_firstThatLeadsOn_60 : decode cX4_firstThatLeadsOn 60 = .ok (.goto (-57), 3) := by decide +kernel
theorem dX4_firstThatLeadsOn_63 : decode cX4_firstThatLeadsOn 63 = .ok (.iconst (-1), 1) := by decide +kernel
theorem dX4_firstThatLeadsOn_64 : decode cX4_firstThatLeadsOn 64 = .ok (.ireturn, 1) := by decide +kernel
theorem dX4_collectFrom_0 : decode cX4_collectFrom 0 = .ok (.iload_n 2, 1) := by decide +kernel
theorem dX4_collectFrom_1 : decode cX4_collectFrom 1 = .ok (.lload_n 3, 1) := by decide +kernel
theorem dX4_collectFrom_2 : decode cX4_collectFrom 2 = .ok (.invokestatic 119, 3) := by decide +kernel
theorem dX4_collectFrom_5 : decode cX4_collectFrom 5 = .ok (.lstore 7, 2) := by decide +kernel
theorem dX4_collectFrom_7 : decode cX4_collectFrom 7 = .ok (.iload_n 1, 1) := by decide +kernel
theorem dX4_collectFrom_8 : decode cX4_collectFrom 8 = .ok (.bipush 10, 2) := by decide +kernel
theorem dX4_collectFrom_10 : decode cX4_collectFrom 10 = .ok (.if_icmp .gt 19, 3) := by decide +kernel
theorem dX4_collectFrom_13 : decode cX4_collectFrom 13 = .ok (.aload_n 0, 1) := by decide +kernel
theorem dX4_collectFrom_14 : decode cX4_collectFrom 14 = .ok (.getfield 29, 3) := by decide +kernel
theorem dX4_collectFrom_17 : decode cX4_collectFrom 17 = .ok (.lload 7, 2) := by decide +kernel
theorem dX4_collectFrom_19 : decode cX4_collectFrom 19 = .ok (.invokevirtual 123, 3) := by decide +kernel
theorem dX4_collectFrom_22 : decode cX4_collectFrom 22 = .ok (.ldc2_w 127, 3) := by decide +kernel
theorem dX4_collectFrom_25 : decode cX4_collectFrom 25 = .ok (.lcmp, 1) := by decide +kernel
theorem dX4_collectFrom_26 : decode cX4_collectFrom 26 = .ok (.ifCond .eq 4, 3) := by decide +kernel
theorem dX4_collectFrom_29 : decode cX4_collectFrom 29 = .ok (.return_, 1) := by decide +kernel
theorem dX4_collectFrom_30 : decode cX4_collectFrom 30 = .ok (.aload_n 0, 1) := by decide +kernel
theorem dX4_collectFrom_31 : decode cX4_collectFrom 31 = .ok (.getfield 29, 3) := by decide +kernel
theorem dX4_collectFrom_34 : decode cX4_collectFrom 34 = .ok (.lload 7, 2) := by decide +kernel
theorem dX4_collectFrom_36 : decode cX4_collectFrom 36 = .ok (.lconst 0, 1) := by decide +kernel
theorem dX4_collectFrom_37 : decode cX4_collectFrom 37 = .ok (.invokevirtual 129, 3) := by decide +kernel
theorem dX4_collectFrom_40 : decode cX4_collectFrom 40 = .ok (.iconst 0, 1) := by decide +kernel
theorem dX4_collectFrom_41 : decode cX4_collectFrom 41 = .ok (.istore 9, 2) := by decide +kernel
theorem dX4_collectFrom_43 : decode cX4_collectFrom 43 = .ok (.iload 9, 2) := by decide +kernel
theorem dX4_collectFrom_45 : decode cX4_collectFrom 45 = .ok (.aload_n 0, 1) := by decide +kernel
theorem dX4_collectFrom_46 : decode cX4_collectFrom 46 = .ok (.getfield 16, 3) := by decide +kernel
theorem dX4_collectFrom_49 : decode cX4_collectFrom 49 = .ok (.getfield 61, 3) := by decide +kernel
theorem dX4_collectFrom_52 : decode cX4_collectFrom 52 = .ok (.if_icmp .ge 96, 3) := by decide +kernel
theorem dX4_collectFrom_55 : decode cX4_collectFrom 55 = .ok (.aload_n 0, 1) := by decide +kernel
theorem dX4_collectFrom_56 : decode cX4_collectFrom 56 = .ok (.iload 9, 2) := by decide +kernel
theorem dX4_collectFrom_58 : decode cX4_collectFrom 58 = .ok (.iload_n 2, 1) := by decide +kernel
theorem dX4_collectFrom_59 : decode cX4_collectFrom 59 = .ok (.lload_n 3, 1) := by decide +kernel
theorem dX4_collectFrom_60 : decode cX4_collectFrom 60 = .ok (.invokevirtual 74, 3) := by decide +kernel
theorem dX4_collectFrom_63 : decode cX4_collectFrom 63 = .ok (.ifCond .eq 79, 3) := by decide +kernel
theorem dX4_collectFrom_66 : decode cX4_collectFrom 66 = .ok (.iload_n 2, 1) := by decide +kernel
theorem dX4_collectFrom_67 : decode cX4_collectFrom 67 = .ok (.iconst 1, 1) := by decide +kernel
theorem dX4_collectFrom_68 : decode cX4_collectFrom 68 = .ok (.iload 9, 2) := by decide +kernel
theorem dX4_collectFrom_70 : decode cX4_collectFrom 70 = .ok (.ishl, 1) := by decide +kernel
theorem dX4_collectFrom_71 : decode cX4_collectFrom 71 = .ok (.ior, 1) := by decide +kernel
theorem dX4_collectFrom_72 : decode cX4_collectFrom 72 = .ok (.istore 10, 2) := by decide +kernel
theorem dX4_collectFrom_74 : decode cX4_collectFrom 74 = .ok (.aload_n 0, 1) := by decide +kernel
theorem dX4_collectFrom_75 : decode cX4_collectFrom 75 = .ok (.getfield 16, 3) := by decide +kernel
theorem dX4_collectFrom_78 : decode cX4_collectFrom 78 = .ok (.iload 9, 2) := by decide +kernel
theorem dX4_collectFrom_80 : decode cX4_collectFrom 80 = .ok (.lload_n 3, 1) := by decide +kernel
theorem dX4_collectFrom_81 : decode cX4_collectFrom 81 = .ok (.invokestatic 53, 3) := by decide +kernel
theorem dX4_collectFrom_84 : decode cX4_collectFrom 84 = .ok (.lstore 11, 2) := by decide +kernel
theorem dX4_collectFrom_86 : decode cX4_collectFrom 86 = .ok (.iload 9, 2) := by decide +kernel
theorem dX4_collectFrom_88 : decode cX4_collectFrom 88 = .ok (.iload 5, 2) := by decide +kernel
theorem dX4_collectFrom_90 : decode cX4_collectFrom 90 = .ok (.if_icmp .eq 21, 3) := by decide +kernel
theorem dX4_collectFrom_93 : decode cX4_collectFrom 93 = .ok (.aload_n 0, 1) := by decide +kernel
theorem dX4_collectFrom_94 : decode cX4_collectFrom 94 = .ok (.iload_n 1, 1) := by decide +kernel
theorem dX4_collectFrom_95 : decode cX4_collectFrom 95 = .ok (.iconst 1, 1) := by decide +kernel
theorem dX4_collectFrom_96 : decode cX4_collectFrom 96 = .ok (.iadd, 1) := by decide +kernel
theorem dX4_collectFrom_97 : decode cX4_collectFrom 97 = .ok (.iload 10, 2) := by decide +kernel
theorem dX4_collectFrom_99 : decode cX4_collectFrom 99 = .ok (.lload 11, 2) := by decide +kernel
theorem dX4_collectFrom_101 : decode cX4_collectFrom 101 = .ok (.iload 5, 2) := by decide +kernel
theorem dX4_collectFrom_103 : decode cX4_collectFrom 103 = .ok (.aload 6, 2) := by decide +kernel
theorem dX4_collectFrom_105 : decode cX4_collectFrom 105 = .ok (.invokevirtual 70, 3) := by decide +kernel
theorem dX4_collectFrom_108 : decode cX4_collectFrom 108 = .ok (.goto 34, 3) := by decide +kernel
theorem dX4_collectFrom_111 : decode cX4_collectFrom 111 = .ok (.aload_n 0, 1) := by decide +kernel
theorem dX4_collectFrom_112 : decode cX4_collectFrom 112 = .ok (.iload_n 1, 1) := by decide +kernel
theorem dX4_collectFrom_113 : decode cX4_collectFrom 113 = .ok (.iconst 1, 1) := by decide +kernel
theorem dX4_collectFrom_114 : decode cX4_collectFrom 114 = .ok (.iadd, 1) := by decide +kernel
theorem dX4_collectFrom_115 : decode cX4_collectFrom 115 = .ok (.iload 10, 2) := by decide +kernel
theorem dX4_collectFrom_117 : decode cX4_collectFrom 117 = .ok (.lload 11, 2) := by decide +kernel
theorem dX4_collectFrom_119 : decode cX4_collectFrom 119 = .ok (.invokevirtual 37, 3) := by decide +kernel
theorem dX4_collectFrom_122 : decode cX4_collectFrom 122 = .ok (.lconst 0, 1) := by decide +kernel
theorem dX4_collectFrom_123 : decode cX4_collectFrom 123 = .ok (.lcmp, 1) := by decide +kernel
theorem dX4_collectFrom_124 : decode cX4_collectFrom 124 = .ok (.ifCond .le 18, 3) := by decide +kernel
theorem dX4_collectFrom_127 : decode cX4_collectFrom 127 = .ok (.aload 6, 2) := by decide +kernel
theorem dX4_collectFrom_129 : decode cX4_collectFrom 129 = .ok (.aload_n 0, 1) := by decide +kernel
theorem dX4_collectFrom_130 : decode cX4_collectFrom 130 = .ok (.getfield 16, 3) := by decide +kernel
theorem dX4_collectFrom_133 : decode cX4_collectFrom 133 = .ok (.iload 9, 2) := by decide +kernel
theorem dX4_collectFrom_135 : decode cX4_collectFrom 135 = .ok (.lload_n 3, 1) := by decide +kernel
theorem dX4_collectFrom_136 : decode cX4_collectFrom 136 = .ok (.invokestatic 112, 3) := by decide +kernel
theorem dX4_collectFrom_139 : decode cX4_collectFrom 139 = .ok (.invokevirtual 133, 3) := by decide +kernel
theorem dX4_collectFrom_142 : decode cX4_collectFrom 142 = .ok (.iinc 9 1, 3) := by decide +kernel
theorem dX4_collectFrom_145 : decode cX4_collectFrom 145 = .ok (.goto (-102), 3) := by decide +kernel
theorem dX4_collectFrom_148 : decode cX4_collectFrom 148 = .ok (.return_, 1) := by decide +kernel
