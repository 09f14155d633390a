theorem dX6_init_0 : decode cX6_init 0 = .ok (.aload_n 0, 1) := by decide +kernel
theorem dX6_init_1 : decode cX6_init 1 = .ok (.invokespecial 1, 3) := by decide +kernel
theorem dX6_init_4 : decode cX6_init 4 = .ok (.aload_n 0, 1) := by decide +kernel
theorem dX6_init_5 : decode cX6_init 5 = .ok (.iconst 4, 1) := by decide +kernel
theorem dX6_init_6 : decode cX6_init 6 = .ok (.anewarray 9, 3) := by decide +kernel
theorem dX6_init_9 : decode cX6_init 9 = .ok (.putfield 11, 3) := by decide +kernel
theorem dX6_init_12 : decode cX6_init 12 = .ok (.aload_n 0, 1) := by decide +kernel
theorem dX6_init_13 : decode cX6_init 13 = .ok (.bipush 12, 2) := by decide +kernel
theorem dX6_init_15 : decode cX6_init 15 = .ok (.anewarray 15, 3) := by decide +kernel
theorem dX6_init_18 : decode cX6_init 18 = .ok (.putfield 17, 3) := by decide +kernel
theorem dX6_init_21 : decode cX6_init 21 = .ok (.aload_n 0, 1) := by decide +kernel
theorem dX6_init_22 : decode cX6_init 22 = .ok (.new 21, 3) := by decide +kernel
theorem dX6_init_25 : decode cX6_init 25 = .ok (.dup, 1) := by decide +kernel
theorem dX6_init_26 : decode cX6_init 26 = .ok (.invokespecial 23, 3) := by decide +kernel
theorem dX6_init_29 : decode cX6_init 29 = .ok (.putfield 24, 3) := by decide +kernel
theorem dX6_init_32 : decode cX6_init 32 = .ok (.aload_n 0, 1) := by decide +kernel
theorem dX6_init_33 : decode cX6_init 33 = .ok (.new 28, 3) := by decide +kernel
theorem dX6_init_36 : decode cX6_init 36 = .ok (.dup, 1) := by decide +kernel
theorem dX6_init_37 : decode cX6_init 37 = .ok (.invokespecial 30, 3) := by decide +kernel
theorem dX6_init_40 : decode cX6_init 40 = .ok (.putfield 31, 3) := by decide +kernel
theorem dX6_init_43 : decode cX6_init 43 = .ok (.aload_n 0, 1) := by decide +kernel
theorem dX6_init_44 : decode cX6_init 44 = .ok (.bipush 10, 2) := by decide +kernel
theorem dX6_init_46 : decode cX6_init 46 = .ok (.newarray .int, 2) := by decide +kernel
theorem dX6_init_48 : decode cX6_init 48 = .ok (.putfield 35, 3) := by decide +kernel
theorem dX6_init_51 : decode cX6_init 51 = .ok (.return_, 1) := by decide +kernel
theorem dX6_machine_0 : decode cX6_machine 0 = .ok (.aload_n 0, 1) := by decide +kernel
theorem dX6_machine_1 : decode cX6_machine 1 = .ok (.getfield 39, 3) := by decide +kernel
theorem dX6_machine_4 : decode cX6_machine 4 = .ok (.iconst 4, 1) := by decide +kernel
theorem dX6_machine_5 : decode cX6_machine 5 = .ok (.if_icmp .lt 6, 3) := by decide +kernel
theorem dX6_machine_8 : decode cX6_machine 8 = .ok (.bipush (-4), 2) := by decide +kernel
theorem dX6_machine_10 : decode cX6_machine 10 = .ok (.ireturn, 1) := by decide +kernel
theorem dX6_machine_11 : decode cX6_machine 11 = .ok (.aload_n 0, 1) := by decide +kernel
theorem dX6_machine_12 : decode cX6_machine 12 = .ok (.getfield 11, 3) := by decide +kernel
theorem dX6_machine_15 : decode cX6_machine 15 = .ok (.aload_n 0, 1) := by decide +kernel
theorem dX6_machine_16 : decode cX6_machine 16 = .ok (.getfield 39, 3) := by decide +kernel
theorem dX6_machine_19 : decode cX6_machine 19 = .ok (.new 9, 3) := by decide +kernel
theorem dX6_machine_22 : decode cX6_machine 22 = .ok (.dup, 1) := by decide +kernel
theorem dX6_machine_23 : decode cX6_machine 23 = .ok (.invokespecial 43, 3) := by decide +kernel
theorem dX6_machine_26 : decode cX6_machine 26 = .ok (.aastore, 1) := by decide +kernel
theorem dX6_machine_27 : decode cX6_machine 27 = .ok (.aload_n 0, 1) := by decide +kernel
theorem dX6_machine_28 : decode cX6_machine 28 = .ok (.dup, 1) := by decide +kernel
theorem dX6_machine_29 : decode cX6_machine 29 = .ok (.getfield 39, 3) := by decide +kernel
theorem dX6_machine_32 : decode cX6_machine 32 = .ok (.iconst 1, 1) := by decide +kernel
theorem dX6_machine_33 : decode cX6_machine 33 = .ok (.iadd, 1) := by decide +kernel
theorem dX6_machine_34 : decode cX6_machine 34 = .ok (.putfield 39, 3) := by decide +kernel
theorem dX6_machine_37 : decode cX6_machine 37 = .ok (.aload_n 0, 1) := by decide +kernel
theorem dX6_machine_38 : decode cX6_machine 38 = .ok (.getfield 39, 3) := by decide +kernel
theorem dX6_machine_41 : decode cX6_machine 41 = .ok (.iconst 1, 1) := by decide +kernel
theorem dX6_machine_42 : decode cX6_machine 42 = .ok (.isub, 1) := by decide +kernel
theorem dX6_machine_43 : decode cX6_machine 43 = .ok (.ireturn, 1) := by decide +kernel
theorem dX6_row_0 : decode cX6_row 0 = .ok (.aload_n 0, 1) := by decide +kernel
theorem dX6_row_1 : decode cX6_row 1 = .ok (.iload_n 1, 1) := by decide +kernel
theorem dX6_row_2 : decode cX6_row 2 = .ok (.invokevirtual 44, 3) := by decide +kernel
theorem dX6_row_5 : decode cX6_row 5 = .ok (.astore 6, 2) := by decide +kernel
theorem dX6_row_7 : decode cX6_row 7 = .ok (.aload 6, 2) := by decide +kernel
theorem dX6_row_9 : decode cX6_row 9 = .ok (.ifnonnull 5, 3) := by decide +kernel
theorem dX6_row_12 : decode cX6_row 12 = .ok (.iconst (-1), 1) := by decide +kernel
theorem dX6_row_13 : decode cX6_row 13 = .ok (.ireturn, 1) := by decide +kernel
theorem dX6_row_14 : decode cX6_row 14 = .ok (.iload_n 2, 1) := by decide +kernel
theorem dX6_row_15 : decode cX6_row 15 = .ok (.i2l, 1) := by decide +kernel
theorem dX6_row_16 : decode cX6_row 16 = .ok (.iload_n 3, 1) := by decide +kernel
theorem dX6_row_17 : decode cX6_row 17 = .ok (.invokestatic 48, 3) := by decide +kernel
theorem dX6_row_20 : decode cX6_row 20 = .ok (.ifCond .eq 13, 3) := by decide +kernel
theorem dX6_row_23 : decode cX6_row 23 = .ok (.iload 5, 2) := by decide +kernel
theorem dX6_row_25 : decode cX6_row 25 = .ok (.i2l, 1) := by decide +kernel
theorem dX6_row_26 : decode cX6_row 26 = .ok (.iload_n 3, 1) := by decide +kernel
theorem dX6_row_27 : decode cX6_row 27 = .ok (.invokestatic 48, 3) := by decide +kernel
theorem dX6_row_30 : decode cX6_row 30 = .ok (.ifCond .ne 6, 3) := by decide +kernel
theorem dX6_row_33 : decode cX6_row 33 = .ok (.bipush (-2), 2) := by decide +kernel
theorem dX6_row_35 : decode cX6_row 35 = .ok (.ireturn, 1) := by decide +kernel
theorem dX6_row_36 : decode cX6_row 36 = .ok (.aload 6, 2) := by decide +kernel
theorem dX6_row_38 : decode cX6_row 38 = .ok (.getfield 52, 3) := by decide +kernel
theorem dX6_row_41 : decode cX6_row 41 = .ok (.ifCond .eq 6, 3) := by decide +kernel
theorem dX6_row_44 : decode cX6_row 44 = .ok (.bipush (-3), 2) := by decide +kernel
theorem dX6_row_46 : decode cX6_row 46 = .ok (.ireturn, 1) := by decide +kernel
theorem dX6_row_47 : decode cX6_row 47 = .ok (.aload 6, 2) := by decide +kernel
theorem dX6_row_49 : decode cX6_row 49 = .ok (.iload_n 2, 1) := by decide +kernel
theorem dX6_row_50 : decode cX6_row 50 = .ok (.iload_n 3, 1) := by decide +kernel
theorem dX6_row_51 : decode cX6_row 51 = .ok (.iload 4, 2) := by decide +kernel
theorem dX6_row_53 : decode cX6_row 53 = .ok (.iload 5, 2) := by decide +kernel
theorem dX6_row_55 : decode cX6_row 55 = .ok (.invokevirtual 56, 3) := by decide +kernel
theorem dX6_row_58 : decode cX6_row 58 = .ok (.iconst 0, 1) := by decide +kernel
theorem dX6_row_59 : decode cX6_row 59 = .ok (.ireturn, 1) := by decide +kernel
theorem dX6_history_0 : decode cX6_history 0 = .ok (.iload_n 1, 1) := by decide +kernel
theorem dX6_history_1 : decode cX6_history 1 = .ok (.bipush 6, 2) := by decide +kernel
theorem dX6_history_3 : decode cX6_history 3 = .ok (.if_icmp .ne 7, 3) := by decide +kernel
theorem dX6_history_6 : decode cX6_history 6 = .ok (.iconst 1, 1) := by decide +kernel
theorem dX6_history_7 : decode cX6_history 7 = .ok (.goto 4, 3) := by decide +kernel
theorem dX6_history_10 : decode cX6_history 10 = .ok (.iconst 0, 1) := by decide +kernel
theorem dX6_history_11 : decode cX6_history 11 = .ok (.istore_n 3, 1) := by decide +kernel
theorem dX6_history_12 : decode cX6_history 12 = .ok (.iload_n 3, 1) := by decide +kernel
theorem dX6_history_13 : decode cX6_history 13 = .ok (.ifCond .eq 11, 3) := by decide +kernel
theorem dX6_history_16 : decode cX6_history 16 = .ok (.aload_n 0, 1) := by decide +kernel
theorem dX6_history_17 : decode cX6_history 17 = .ok (.iload_n 2, 1) := by decide +kernel
theorem dX6_history_18 : decode cX6_history 18 = .ok (.invokevirtual 44, 3) := by decide +kernel
theorem dX6_history_21 : decode cX6_history 21 = .ok (.goto 4, 3) := by decide +kernel
theorem dX6_history_24 : decode cX6_history 24 = .ok (.aconst_null, 1) := by decide +kernel
theorem dX6_history_25 : decode cX6_history 25 = .ok (.astore 4, 2) := by decide +kernel
theorem dX6_history_27 : decode cX6_history 27 = .ok (.iload_n 1, 1) := by decide +kernel
theorem dX6_history_28 : decode cX6_history 28 = .ok (.invokestatic 62, 3) := by decide +kernel
theorem dX6_history_31 : decode cX6_history 31 = .ok (.ifCond .eq 12, 3) := by decide +kernel
theorem dX6_history_34 : decode cX6_history 34 = .ok (.iload_n 3, 1) := by decide +kernel
theorem dX6_history_35 : decode cX6_history 35 = .ok (.ifCond .eq 10, 3) := by decide +kernel
theorem dX6_history_38 : decode cX6_history 38 = .ok (.aload 4, 2) := by decide +kernel
theorem dX6_history_40 : decode cX6_history 40 = .ok (.ifnonnull 5, 3) := by decide +kernel
theorem dX6_history_43 : decode cX6_history 43 = .ok (.iconst (-1), 1) := by decide +kernel
theorem dX6_history_44 : decode cX6_history 44 = .ok (.ireturn, 1) := by decide +kernel
theorem dX6_history_45 : decode cX6_history 45 = .ok (.iload_n 3, 1) := by decide +kernel
theorem dX6_history_46 : decode cX6_history 46 = .ok (.ifCond .ne 10, 3) := by decide +kernel
theorem dX6_history_49 : decode cX6_history 49 = .ok (.iload_n 2, 1) := by decide +kernel
theorem dX6_history_50 : decode cX6_history 50 = .ok (.ifCond .eq 6, 3) := by decide +kernel
theorem dX6_history_53 : decode cX6_history 53 = .ok (.bipush (-2), 2) := by decide +kernel
theorem dX6_history_55 : decode cX6_history 55 = .ok (.ireturn, 1) := by decide +kernel
theorem dX6_history_56 : decode cX6_history 56 = .ok (.aload_n 0, 1) := by decide +kernel
theorem dX6_history_57 : decode cX6_history 57 = .ok (.getfield 66, 3) := by decide +kernel
theorem dX6_history_60 : decode cX6_history 60 = .ok (.bipush 12, 2) := by decide +kernel
theorem dX6_history_62 : decode cX6_history 62 = .ok (.if_icmp .lt 6, 3) := by decide +kernel
theorem dX6_history_65 : decode cX6_history 65 = .ok (.bipush (-4), 2) := by decide +kernel
theorem dX6_history_67 : decode cX6_history 67 = .ok (.ireturn, 1) := by decide +kernel
theorem dX6_history_68 : decode cX6_history 68 = .ok (.aload 4, 2) := by decide +kernel
theorem dX6_history_70 : decode cX6_history 70 = .ok (.ifnull 9, 3) := by decide +kernel
theorem dX6_history_73 : decode cX6_history 73 = .ok (.aload 4, 2) := by decide +kernel
theorem dX6_history_75 : decode cX6_history 75 = .ok (.iconst 1, 1) := by decide +kernel
theorem dX6_history_76 : decode cX6_history 76 = .ok (.putfield 52, 3) := by decide +kernel
theorem dX6_history_79 : decode cX6_history 79 = .ok (.aload_n 0, 1) := by decide +kernel
theorem dX6_history_80 : decode cX6_history 80 = .ok (.new 15, 3) := by decide +kernel
theorem dX6_history_83 : decode cX6_history 83 = .ok (.dup, 1) := by decide +kernel
theorem dX6_history_84 : decode cX6_history 84 = .ok (.iload_n 1, 1) := by decide +kernel
theorem dX6_history_85 : decode cX6_history 85 = .ok (.aload 4, 2) := by decide +kernel
theorem dX6_history_87 : decode cX6_history 87 = .ok (.invokespecial 69, 3) := by decide +kernel
theorem dX6_history_90 : decode cX6_history 90 = .ok (.invokevirtual 72, 3) := by decide +kernel
theorem dX6_history_93 : decode cX6_history 93 = .ok (.ireturn, 1) := by decide +kernel
theorem dX6_copy_0 : decode cX6_copy 0 = .ok (.aload_n 0, 1) := by decide +kernel
theorem dX6_copy_1 : decode cX6_copy 1 = .ok (.iload_n 1, 1) := by decide +kernel
theorem dX6_copy_2 : decode cX6_copy 2 = .ok (.invokevirtual 76, 3) := by decide +kernel
theorem dX6_copy_5 : decode cX6_copy 5 = .ok (.astore_n 2, 1) := by decide +kernel
theorem dX6_copy_6 : decode cX6_copy 6 = .ok (.aload_n 2, 1) := by decide +kernel
theorem dX6_copy_7 : decode cX6_copy 7 = .ok (.ifnonnull 5, 3) := by decide +kernel
theorem dX6_copy_10 : decode cX6_copy 10 = .ok (.iconst (-1), 1) := by decide +kernel
theorem dX6_copy_11 : decode cX6_copy 11 = .ok (.ireturn, 1) := by decide +kernel
theorem dX6_copy_12 : decode cX6_copy 12 = .ok (.aload_n 0, 1) := by decide +kernel
theorem dX6_copy_13 : decode cX6_copy 13 = .ok (.getfield 66, 3) := by decide +kernel
theorem dX6_copy_16 : decode cX6_copy 16 = .ok (.bipush 12, 2) := by decide +kernel
theorem dX6_copy_18 : decode cX6_copy 18 = .ok (.if_icmp .lt 6, 3) := by decide +kernel
theorem dX6_copy_21 : decode cX6_copy 21 = .ok (.bipush (-4), 2) := by decide +kernel
theorem dX6_copy_23 : decode cX6_copy 23 = .ok (.ireturn, 1) := by decide +kernel
theorem dX6_copy_24 : decode cX6_copy 24 = .ok (.aload_n 0, 1) := by decide +kernel
theorem dX6_copy_25 : decode cX6_copy 25 = .ok (.aload_n 2, 1) := by decide +kernel
theorem dX6_copy_26 : decode cX6_copy 26 = .ok (.invokevirtual 80, 3) := by decide +kernel
theorem dX6_copy_29 : decode cX6_copy 29 = .ok (.invokevirtual 72, 3) := by decide +kernel
theorem dX6_copy_32 : decode cX6_copy 32 = .ok (.ireturn, 1) := by decide +kernel
theorem dX6_begin_0 : decode cX6_begin 0 = .ok (.aload_n 0, 1) := by decide +kernel
theorem dX6_begin_1 : decode cX6_begin 1 = .ok (.iload_n 1, 1) := by decide +kernel
theorem dX6_begin_2 : decode cX6_begin 2 = .ok (.invokevirtual 76, 3) := by decide +kernel
theorem dX6_begin_5 : decode cX6_begin 5 = .ok (.astore 6, 2) := by decide +kernel
theorem dX6_begin_7 : decode cX6_begin 7 = .ok (.aload 6, 2) := by decide +kernel
theorem dX6_begin_9 : decode cX6_begin 9 = .ok (.ifnonnull 5, 3) := by decide +kernel
theorem dX6_begin_12 : decode cX6_begin 12 = .ok (.iconst (-1), 1) := by decide +kernel
theorem dX6_begin_13 : decode cX6_begin 13 = .ok (.ireturn, 1) := by decide +kernel
theorem dX6_begin_14 : decode cX6_begin 14 = .ok (.iload_n 2, 1) := by decide +kernel
theorem dX6_begin_15 : decode cX6_begin 15 = .ok (.ifCond .lt 22, 3) := by decide +kernel
theorem dX6_begin_18 : decode cX6_begin 18 = .ok (.iload_n 2, 1) := by decide +kernel
theorem dX6_begin_19 : decode cX6_begin 19 = .ok (.iconst 4, 1) := by decide +kernel
theorem dX6_begin_20 : decode cX6_begin 20 = .ok (.if_icmp .ge 17, 3) := by decide +kernel
theorem dX6_begin_23 : decode cX6_begin 23 = .ok (.aload 6, 2) := by decide +kernel
theorem dX6_begin_25 : decode cX6_begin 25 = .ok (.getfield 84, 3) := by decide +kernel
theorem dX6_begin_28 : decode cX6_begin 28 = .ok (.iload_n 3, 1) := by decide +kernel
theorem dX6_begin_29 : decode cX6_begin 29 = .ok (.iload 4, 2) := by decide +kernel
theorem dX6_begin_31 : decode cX6_begin 31 = .ok (.invokestatic 87, 3) := by decide +kernel
theorem dX6_begin_34 : decode cX6_begin 34 = .ok (.ifCond .ne 6, 3) := by decide +kernel
theorem dX6_begin_37 : decode cX6_begin 37 = .ok (.bipush (-2), 2) := by decide +kernel
theorem dX6_begin_39 : decode cX6_begin 39 = .ok (.ireturn, 1) := by decide +kernel
theorem dX6_begin_40 : decode cX6_begin 40 = .ok (.aload 6, 2) := by decide +kernel
theorem dX6_begin_42 : decode cX6_begin 42 = .ok (.iload_n 2, 1) := by decide +kernel
theorem dX6_begin_43 : decode cX6_begin 43 = .ok (.invokevirtual 91, 3) := by decide +kernel
theorem dX6_begin_46 : decode cX6_begin 46 = .ok (.ifCond .eq 6, 3) := by decide +kernel
theorem dX6_begin_49 : decode cX6_begin 49 = .ok (.bipush (-3), 2) := by decide +kernel
theorem dX6_begin_51 : decode cX6_begin 51 = .ok (.ireturn, 1) := by decide +kernel
theorem dX6_begin_52 : decode cX6_begin 52 = .ok (.aload 6, 2) := by decide +kernel
theorem dX6_begin_54 : decode cX6_begin 54 = .ok (.getfield 94, 3) := by decide +kernel
theorem dX6_begin_57 : decode cX6_begin 57 = .ok (.bipush 10, 2) := by decide +kernel
theorem dX6_begin_59 : decode cX6_begin 59 = .ok (.if_icmp .lt 6, 3) := by decide +kernel
theorem dX6_begin_62 : decode cX6_begin 62 = .ok (.bipush (-4), 2) := by decide +kernel
theorem dX6_begin_64 : decode cX6_begin 64 = .ok (.ireturn, 1) := by decide +kernel
theorem dX6_begin_65 : decode cX6_begin 65 = .ok (.aload 6, 2) := by decide +kernel
theorem dX6_begin_67 : decode cX6_begin 67 = .ok (.iload_n 2, 1) := by decide +kernel
theorem dX6_begin_68 : decode cX6_begin 68 = .ok (.iload_n 3, 1) := by decide +kernel
theorem dX6_begin_69 : decode cX6_begin 69 = .ok (.iload 4, 2) := by decide +kernel
theorem dX6_begin_71 : decode cX6_begin 71 = .ok (.iload 5, 2) := by decide +kernel
theorem dX6_begin_73 : decode cX6_begin 73 = .ok (.invokevirtual 97, 3) := by decide +kernel
theorem dX6_begin_76 : decode cX6_begin 76 = .ok (.ireturn, 1) := by decide +kernel
theorem dX6_answer_0 : decode cX6_answer 0 = .ok (.aload_n 0, 1) := by decide +kernel
theorem dX6_answer_1 : decode cX6_answer 1 = .ok (.iload_n 1, 1) := by decide +kernel
theorem dX6_answer_2 : decode cX6_answer 2 = .ok (.invokevirtual 76, 3) := by decide +kernel
theorem dX6_answer_5 : decode cX6_answer 5 = .ok (.astore 4, 2) := by decide +kernel
theorem dX6_answer_7 : decode cX6_answer 7 = .ok (.aload 4, 2) := by decide +kernel
theorem dX6_answer_9 : decode cX6_answer 9 = .ok (.ifnull 12, 3) := by decide +kernel
theorem dX6_answer_12 : decode cX6_answer 12 = .ok (.aload 4, 2) := by decide +kernel
theorem dX6_answer_14 : decode cX6_answer 14 = .ok (.iload_n 2, 1) := by decide +kernel
theorem dX6_answer_15 : decode cX6_answer 15 = .ok (.invokevirtual 101, 3) := by decide +kernel
theorem dX6_answer_18 : decode cX6_answer 18 = .ok (.ifCond .ne 5, 3) := by decide +kernel
theorem dX6_answer_21 : decode cX6_answer 21 = .ok (.iconst (-1), 1) := by decide +kernel
theorem dX6_answer_22 : decode cX6_answer 22 = .ok (.ireturn, 1) := by decide +kernel
theorem dX6_answer_23 : decode cX6_answer 23 = .ok (.aload 4, 2) := by decide +kernel
theorem dX6_answer_25 : decode cX6_answer 25 = .ok (.iload_n 2, 1) := by decide +kernel
theorem dX6_answer_26 : decode cX6_answer 26 = .ok (.invokevirtual 104, 3) := by decide +kernel
theorem dX6_answer_29 : decode cX6_answer 29 = .ok (.ifCond .ne 6, 3) := by decide +kernel
theorem dX6_answer_32 : decode cX6_answer 32 = .ok (.bipush (-3), 2) := by decide +kernel
theorem dX6_answer_34 : decode cX6_answer 34 = .ok (.ireturn, 1) := by decide +kernel
theorem dX6_answer_35 : decode cX6_answer 35 = .ok (.aload 4, 2) := by decide +kernel
theorem dX6_answer_37 : decode cX6_answer 37 = .ok (.iload_n 2, 1) := by decide +kernel
theorem dX6_answer_38 : decode cX6_answer 38 = .ok (.iload_n 3, 1) := by decide +kernel
theorem dX6_answer_39 : decode cX6_answer 39 = .ok (.invokevirtual 107, 3) := by decide +kernel
theorem dX6_answer_42 : decode cX6_answer 42 = .ok (.ireturn, 1) := by decide +kernel
theorem dX6_alter_0 : decode cX6_alter 0 = .ok (.aload_n 0, 1) := by decide +kernel
theorem dX6_alter_1 : decode cX6_alter 1 = .ok (.iload_n 1, 1) := by decide +kernel
theorem dX6_alter_2 : decode cX6_alter 2 = .ok (.iload_n 2, 1) := by decide +kernel
theorem dX6_alter_3 : decode cX6_alter 3 = .ok (.invokevirtual 111, 3) := by decide +kernel
theorem dX6_alter_6 : decode cX6_alter 6 = .ok (.istore 4, 2) := by decide +kernel
theorem dX6_alter_8 : decode cX6_alter 8 = .ok (.aload_n 0, 1) := by decide +kernel
theorem dX6_alter_9 : decode cX6_alter 9 = .ok (.iload_n 1, 1) := by decide +kernel
theorem dX6_alter_10 : decode cX6_alter 10 = .ok (.invokevirtual 76, 3) := by decide +kernel
theorem dX6_alter_13 : decode cX6_alter 13 = .ok (.astore 5, 2) := by decide +kernel
theorem dX6_alter_15 : decode cX6_alter 15 = .ok (.aload_n 0, 1) := by decide +kernel
theorem dX6_alter_16 : decode cX6_alter 16 = .ok (.getfield 114, 3) := by decide +kernel
theorem dX6_alter_19 : decode cX6_alter 19 = .ok (.ifCond .ne 25, 3) := by decide +kernel
theorem dX6_alter_22 : decode cX6_alter 22 = .ok (.aload 5, 2) := by decide +kernel
theorem dX6_alter_24 : decode cX6_alter 24 = .ok (.ifnull 20, 3) := by decide +kernel
theorem dX6_alter_27 : decode cX6_alter 27 = .ok (.aload 5, 2) := by decide +kernel
theorem dX6_alter_29 : decode cX6_alter 29 = .ok (.iload_n 2, 1) := by decide +kernel
theorem dX6_alter_30 : decode cX6_alter 30 = .ok (.invokevirtual 101, 3) := by decide +kernel
theorem dX6_alter_33 : decode cX6_alter 33 = .ok (.ifCond .eq 11, 3) := by decide +kernel
theorem dX6_alter_36 : decode cX6_alter 36 = .ok (.aload 5, 2) := by decide +kernel
theorem dX6_alter_38 : decode cX6_alter 38 = .ok (.getfield 117, 3) := by decide +kernel
theorem dX6_alter_41 : decode cX6_alter 41 = .ok (.iload_n 2, 1) := by decide +kernel
theorem dX6_alter_42 : decode cX6_alter 42 = .ok (.iload_n 3, 1) := by decide +kernel
theorem dX6_alter_43 : decode cX6_alter 43 = .ok (.iastore, 1) := by decide +kernel
theorem dX6_alter_44 : decode cX6_alter 44 = .ok (.iload 4, 2) := by decide +kernel
theorem dX6_alter_46 : decode cX6_alter 46 = .ok (.ireturn, 1) := by decide +kernel
theorem dX6_status_0 : decode cX6_status 0 = .ok (.aload_n 0, 1) := by decide +kernel
theorem dX6_status_1 : decode cX6_status 1 = .ok (.getfield 114, 3) := by decide +kernel
theorem dX6_status_4 : decode cX6_status 4 = .ok (.ireturn, 1) := by decide +kernel
theorem dX6_answered_0 : decode cX6_answered 0 = .ok (.aload_n 0, 1) := by decide +kernel
theorem dX6_answered_1 : decode cX6_answered 1 = .ok (.iload_n 1, 1) := by decide +kernel
theorem dX6_answered_2 : decode cX6_answered 2 = .ok (.invokevirtual 76, 3) := by decide +kernel
theorem dX6_answered_5 : decode cX6_answered 5 = .ok (.astore_n 3, 1) := by decide +kernel
theorem dX6_answered_6 : decode cX6_answered 6 = .ok (.aload_n 3, 1) := by decide +kernel
theorem dX6_answered_7 : decode cX6_answered 7 = .ok (.ifnull 11, 3) := by decide +kernel
theorem dX6_answered_10 : decode cX6_answered 10 = .ok (.aload_n 3, 1) := by decide +kernel
theorem dX6_answered_11 : decode cX6_answered 11 = .ok (.iload_n 2, 1) := by decide +kernel
theorem dX6_answered_12 : decode cX6_answered 12 = .ok (.invokevirtual 101, 3) := by decide +kernel
theorem dX6_answered_15 : decode cX6_answered 15 = .ok (.ifCond .ne 10, 3) := by decide +kernel
theorem dX6_answered_18 : decode cX6_answered 18 = .ok (.aload_n 0, 1) := by decide +kernel
theorem dX6_answered_19 : decode cX6_answered 19 = .ok (.iconst (-1), 1) := by decide +kernel
theorem dX6_answered_20 : decode cX6_answered 20 = .ok (.putfield 114, 3) := by decide +kernel
theorem dX6_answered_23 : decode cX6_answered 23 = .ok (.iconst 0, 1) := by decide +kernel
theorem dX6_answered_24 : decode cX6_answered 24 = .ok (.ireturn, 1) := by decide +kernel
theorem dX6_answered_25 : decode cX6_answered 25 = .ok (.aload_n 3, 1) := by decide +kernel
theorem dX6_answered_26 : decode cX6_answered 26 = .ok (.iload_n 2, 1) := by decide +kernel
theorem dX6_answered_27 : decode cX6_answered 27 = .ok (.invokevirtual 104, 3) := by decide +kernel
theorem dX6_answered_30 : decode cX6_answered 30 = .ok (.ifCond .eq 11, 3) := by decide +kernel
theorem dX6_answered_33 : decode cX6_answered 33 = .ok (.aload_n 0, 1) := by decide +kernel
theorem dX6_answered_34 : decode cX6_answered 34 = .ok (.bipush (-3), 2) := by decide +kernel
theorem dX6_answered_36 : decode cX6_answered 36 = .ok (.putfield 114, 3) := by decide +kernel
theorem dX6_answered_39 : decode cX6_answered 39 = .ok (.iconst 0, 1) := by decide +kernel
theorem dX6_answered_40 : decode cX6_answered 40 = .ok (.ireturn, 1) := by decide +kernel
theorem dX6_answered_41 : decode cX6_answered 41 = .ok (.aload_n 0, 1) := by decide +kernel
theorem dX6_answered_42 : decode cX6_answered 42 = .ok (.iconst 0, 1) := by decide +kernel
theorem dX6_answered_43 : decode cX6_answered 43 = .ok (.putfield 114, 3) := by decide +kernel
theorem dX6_answered_46 : decode cX6_answered 46 = .ok (.aload_n 3, 1) := by decide +kernel
theorem dX6_answered_47 : decode cX6_answered 47 = .ok (.getfield 117, 3) := by decide +kernel
theorem dX6_answered_50 : decode cX6_answered 50 = .ok (.iload_n 2, 1) := by decide +kernel
theorem dX6_answered_51 : decode cX6_answered 51 = .ok (.iaload, 1) := by decide +kernel
theorem dX6_answered_52 : decode cX6_answered 52 = .ok (.ireturn, 1) := by decide +kernel
theorem dX6_call_0 : decode cX6_call 0 = .ok (.aload_n 0, 1) := by decide +kernel
theorem dX6_call_1 : decode cX6_call 1 = .ok (.iload_n 1, 1) := by decide +kernel
theorem dX6_call_2 : decode cX6_call 2 = .ok (.invokevirtual 76, 3) := by decide +kernel
theorem dX6_call_5 : decode cX6_call 5 = .ok (.astore 4, 2) := by decide +kernel
theorem dX6_call_7 : decode cX6_call 7 = .ok (.aload 4, 2) := by decide +kernel
theorem dX6_call_9 : decode cX6_call 9 = .ok (.ifnull 12, 3) := by decide +kernel
theorem dX6_call_12 : decode cX6_call 12 = .ok (.aload 4, 2) := by decide +kernel
theorem dX6_call_14 : decode cX6_call 14 = .ok (.iload_n 2, 1) := by decide +kernel
theorem dX6_call_15 : decode cX6_call 15 = .ok (.invokevirtual 101, 3) := by decide +kernel
theorem dX6_call_18 : decode cX6_call 18 = .ok (.ifCond .ne 5, 3) := by decide +kernel
theorem dX6_call_21 : decode cX6_call 21 = .ok (.iconst (-1), 1) := by decide +kernel
theorem dX6_call_22 : decode cX6_call 22 = .ok (.ireturn, 1) := by decide +kernel
theorem dX6_call_23 : decode cX6_call 23 = .ok (.iload_n 3, 1) := by decide +kernel
theorem dX6_call_24 : decode cX6_call 24 = .ok (.tableswitch 64 0 3 #[32, 40, 48, 56], 32) := by decide +kernel
theorem dX6_call_56 : decode cX6_call 56 = .ok (.aload 4, 2) := by decide +kernel
theorem dX6_call_58 : decode cX6_call 58 = .ok (.getfield 120, 3) := by decide +kernel
theorem dX6_call_61 : decode cX6_call 61 = .ok (.iload_n 2, 1) := by decide +kernel
theorem dX6_call_62 : decode cX6_call 62 = .ok (.iaload, 1) := by decide +kernel
theorem dX6_call_63 : decode cX6_call 63 = .ok (.ireturn, 1) := by decide +kernel
theorem dX6_call_64 : decode cX6_call 64 = .ok (.aload 4, 2) := by decide +kernel
theorem dX6_call_66 : decode cX6_call 66 = .ok (.getfield 123, 3) := by decide +kernel
theorem dX6_call_69 : decode cX6_call 69 = .ok (.iload_n 2, 1) := by decide +kernel
theorem dX6_call_70 : decode cX6_call 70 = .ok (.iaload, 1) := by decide +kernel
theorem dX6_call_71 : decode cX6_call 71 = .ok (.ireturn, 1) := by decide +kernel
theorem dX6_call_72 : decode cX6_call 72 = .ok (.aload 4, 2) := by decide +kernel
theorem dX6_call_74 : decode cX6_call 74 = .ok (.getfield 126, 3) := by decide +kernel
theorem dX6_call_77 : decode cX6_call 77 = .ok (.iload_n 2, 1) := by decide +kernel
theorem dX6_call_78 : decode cX6_call 78 = .ok (.iaload, 1) := by decide +kernel
theorem dX6_call_79 : decode cX6_call 79 = .ok (.ireturn, 1) := by decide +kernel
theorem dX6_call_80 : decode cX6_call 80 = .ok (.aload 4, 2) := by decide +kernel
theorem dX6_call_82 : decode cX6_call 82 = .ok (.getfield 129, 3) := by decide +kernel
theorem dX6_call_85 : decode cX6_call 85 = .ok (.iload_n 2, 1) := by decide +kernel
theorem dX6_call_86 : decode cX6_call 86 = .ok (.iaload, 1) := by decide +kernel
theorem dX6_call_87 : decode cX6_call 87 = .ok (.ireturn, 1) := by decide +kernel
theorem dX6_call_88 : decode cX6_call 88 = .ok (.iconst (-1), 1) := by decide +kernel
theorem dX6_call_89 : decode cX6_call 89 = .ok (.ireturn, 1) := by decide +kernel
theorem dX6_about_0 : decode cX6_about 0 = .ok (.aload_n 0, 1) := by decide +kernel
theorem dX6_about_1 : decode cX6_about 1 = .ok (.iload_n 1, 1) := by decide +kernel
theorem dX6_about_2 : decode cX6_about 2 = .ok (.invokevirtual 76, 3) := by decide +kernel
theorem dX6_about_5 : decode cX6_about 5 = .ok (.astore_n 3, 1) := by decide +kernel
theorem dX6_about_6 : decode cX6_about 6 = .ok (.aload_n 3, 1) := by decide +kernel
theorem dX6_about_7 : decode cX6_about 7 = .ok (.ifnonnull 5, 3) := by decide +kernel
theorem dX6_about_10 : decode cX6_about 10 = .ok (.iconst (-1), 1) := by decide +kernel
theorem dX6_about_11 : decode cX6_about 11 = .ok (.ireturn, 1) := by decide +kernel
theorem dX6_about_12 : decode cX6_about 12 = .ok (.iload_n 2, 1) := by decide +kernel
theorem dX6_about_13 : decode cX6_about 13 = .ok (.tableswitch 59 0 3 #[31, 36, 41, 54], 31) := by decide +kernel
theorem dX6_about_44 : decode cX6_about 44 = .ok (.aload_n 3, 1) := by decide +kernel
theorem dX6_about_45 : decode cX6_about 45 = .ok (.getfield 84, 3) := by decide +kernel
theorem dX6_about_48 : decode cX6_about 48 = .ok (.ireturn, 1) := by decide +kernel
theorem dX6_about_49 : decode cX6_about 49 = .ok (.aload_n 3, 1) := by decide +kernel
theorem dX6_about_50 : decode cX6_about 50 = .ok (.getfield 94, 3) := by decide +kernel
theorem dX6_about_53 : decode cX6_about 53 = .ok (.ireturn, 1) := by decide +kernel
theorem dX6_about_54 : decode cX6_about 54 = .ok (.aload_n 3, 1) := by decide +kernel
theorem dX6_about_55 : decode cX6_about 55 = .ok (.getfield 94, 3) := by decide +kernel
theorem dX6_about_58 : decode cX6_about 58 = .ok (.aload_n 3, 1) := by decide +kernel
theorem dX6_about_59 : decode cX6_about 59 = .ok (.invokevirtual 132, 3) := by decide +kernel
theorem dX6_about_62 : decode cX6_about 62 = .ok (.invokestatic 136, 3) := by decide +kernel
theorem dX6_about_65 : decode cX6_about 65 = .ok (.isub, 1) := by decide +kernel
theorem dX6_about_66 : decode cX6_about 66 = .ok (.ireturn, 1) := by decide +kernel
theorem dX6_about_67 : decode cX6_about 67 = .ok (.aload_n 3, 1) := by decide +kernel
theorem dX6_about_68 : decode cX6_about 68 = .ok (.getfield 142, 3) := by decide +kernel
theorem dX6_about_71 : decode cX6_about 71 = .ok (.ireturn, 1) := by decide +kernel
theorem dX6_about_72 : decode cX6_about 72 = .ok (.iconst (-1), 1) := by decide +kernel
theorem dX6_about_73 : decode cX6_about 73 = .ok (.ireturn, 1) := by decide +kernel
theorem dX6_ahead_0 : decode cX6_ahead 0 = .ok (.aload_n 0, 1) := by decide +kernel
theorem dX6_ahead_1 : decode cX6_ahead 1 = .ok (.iload_n 1, 1) := by decide +kernel
theorem dX6_ahead_2 : decode cX6_ahead 2 = .ok (.invokevirtual 76, 3) := by decide +kernel
theorem dX6_ahead_5 : decode cX6_ahead 5 = .ok (.astore 5, 2) := by decide +kernel
theorem dX6_ahead_7 : decode cX6_ahead 7 = .ok (.aload 5, 2) := by decide +kernel
theorem dX6_ahead_9 : decode cX6_ahead 9 = .ok (.ifnull 29, 3) := by decide +kernel
theorem dX6_ahead_12 : decode cX6_ahead 12 = .ok (.iload_n 2, 1) := by decide +kernel
theorem dX6_ahead_13 : decode cX6_ahead 13 = .ok (.invokestatic 145, 3) := by decide +kernel
theorem dX6_ahead_16 : decode cX6_ahead 16 = .ok (.ifCond .eq 22, 3) := by decide +kernel
theorem dX6_ahead_19 : decode cX6_ahead 19 = .ok (.aload 5, 2) := by decide +kernel
theorem dX6_ahead_21 : decode cX6_ahead 21 = .ok (.iload_n 3, 1) := by decide +kernel
theorem dX6_ahead_22 : decode cX6_ahead 22 = .ok (.invokevirtual 101, 3) := by decide +kernel
theorem dX6_ahead_25 : decode cX6_ahead 25 = .ok (.ifCond .eq 13, 3) := by decide +kernel
theorem dX6_ahead_28 : decode cX6_ahead 28 = .ok (.aload 5, 2) := by decide +kernel
theorem dX6_ahead_30 : decode cX6_ahead 30 = .ok (.iload 4, 2) := by decide +kernel
theorem dX6_ahead_32 : decode cX6_ahead 32 = .ok (.invokevirtual 101, 3) := by decide +kernel
theorem dX6_ahead_35 : decode cX6_ahead 35 = .ok (.ifCond .ne 5, 3) := by decide +kernel
theorem dX6_ahead_38 : decode cX6_ahead 38 = .ok (.iconst (-1), 1) := by decide +kernel
theorem dX6_ahead_39 : decode cX6_ahead 39 = .ok (.ireturn, 1) := by decide +kernel
theorem dX6_ahead_40 : decode cX6_ahead 40 = .ok (.aload 5, 2) := by decide +kernel
theorem dX6_ahead_42 : decode cX6_ahead 42 = .ok (.iload_n 2, 1) := by decide +kernel
theorem dX6_ahead_43 : decode cX6_ahead 43 = .ok (.aload 5, 2) := by decide +kernel
theorem dX6_ahead_45 : decode cX6_ahead 45 = .ok (.aload 5, 2) := by decide +kernel
theorem dX6_ahead_47 : decode cX6_ahead 47 = .ok (.invokevirtual 148, 3) := by decide +kernel
theorem dX6_ahead_50 : decode cX6_ahead 50 = .ok (.invokevirtual 151, 3) := by decide +kernel
theorem dX6_ahead_53 : decode cX6_ahead 53 = .ok (.iload_n 3, 1) := by decide +kernel
theorem dX6_ahead_54 : decode cX6_ahead 54 = .ok (.iload 4, 2) := by decide +kernel
theorem dX6_ahead_56 : decode cX6_ahead 56 = .ok (.invokevirtual 154, 3) := by decide +kernel
theorem dX6_ahead_59 : decode cX6_ahead 59 = .ok (.ifCond .eq 7, 3) := by decide +kernel
theorem dX6_ahead_62 : decode cX6_ahead 62 = .ok (.iconst 1, 1) := by decide +kernel
theorem dX6_ahead_63 : decode cX6_ahead 63 = .ok (.goto 4, 3) := by decide +kernel
theorem dX6_ahead_66 : decode cX6_ahead 66 = .ok (.iconst 0, 1) := by decide +kernel
theorem dX6_ahead_67 : decode cX6_ahead 67 = .ok (.ireturn, 1) := by decide +kernel
theorem dX6_judge_0 : decode cX6_judge 0 = .ok (.aload_n 0, 1) := by decide +kernel
theorem dX6_judge_1 : decode cX6_judge 1 = .ok (.iload_n 1, 1) := by decide +kernel
theorem dX6_judge_2 : decode cX6_judge 2 = .ok (.invokevirtual 76, 3) := by decide +kernel
theorem dX6_judge_5 : decode cX6_judge 5 = .ok (.astore_n 3, 1) := by decide +kernel
theorem dX6_judge_6 : decode cX6_judge 6 = .ok (.aload_n 3, 1) := by decide +kernel
theorem dX6_judge_7 : decode cX6_judge 7 = .ok (.ifnull 10, 3) := by decide +kernel
theorem dX6_judge_10 : decode cX6_judge 10 = .ok (.iload_n 2, 1) := by decide +kernel
theorem dX6_judge_11 : decode cX6_judge 11 = .ok (.invokestatic 145, 3) := by decide +kernel
theorem dX6_judge_14 : decode cX6_judge 14 = .ok (.ifCond .ne 5, 3) := by decide +kernel
theorem dX6_judge_17 : decode cX6_judge 17 = .ok (.iconst (-1), 1) := by decide +kernel
theorem dX6_judge_18 : decode cX6_judge 18 = .ok (.ireturn, 1) := by decide +kernel
theorem dX6_judge_19 : decode cX6_judge 19 = .ok (.aload_n 0, 1) := by decide +kernel
theorem dX6_judge_20 : decode cX6_judge 20 = .ok (.getfield 24, 3) := by decide +kernel
theorem dX6_judge_23 : decode cX6_judge 23 = .ok (.aload_n 3, 1) := by decide +kernel
theorem dX6_judge_24 : decode cX6_judge 24 = .ok (.iload_n 2, 1) := by decide +kernel
theorem dX6_judge_25 : decode cX6_judge 25 = .ok (.aload_n 3, 1) := by decide +kernel
theorem dX6_judge_26 : decode cX6_judge 26 = .ok (.invokevirtual 148, 3) := by decide +kernel
theorem dX6_judge_29 : decode cX6_judge 29 = .ok (.invokevirtual 158, 3) := by decide +kernel
theorem dX6_judge_32 : decode cX6_judge 32 = .ok (.ifCond .eq 7, 3) := by decide +kernel
theorem dX6_judge_35 : decode cX6_judge 35 = .ok (.iconst 1, 1) := by decide +kernel
theorem dX6_judge_36 : decode cX6_judge 36 = .ok (.goto 4, 3) := by decide +kernel
theorem dX6_judge_39 : decode cX6_judge 39 = .ok (.iconst 0, 1) := by decide +kernel
theorem dX6_judge_40 : decode cX6_judge 40 = .ok (.ireturn, 1) := by decide +kernel
theorem dX6_first_0 : decode cX6_first 0 = .ok (.aload_n 0, 1) := by decide +kernel
theorem dX6_first_1 : decode cX6_first 1 = .ok (.iload_n 1, 1) := by decide +kernel
theorem dX6_first_2 : decode cX6_first 2 = .ok (.invokevirtual 76, 3) := by decide +kernel
theorem dX6_first_5 : decode cX6_first 5 = .ok (.astore 4, 2) := by decide +kernel
theorem dX6_first_7 : decode cX6_first 7 = .ok (.aload 4, 2) := by decide +kernel
theorem dX6_first_9 : decode cX6_first 9 = .ok (.ifnull 20, 3) := by decide +kernel
theorem dX6_first_12 : decode cX6_first 12 = .ok (.iload_n 2, 1) := by decide +kernel
theorem dX6_first_13 : decode cX6_first 13 = .ok (.invokestatic 145, 3) := by decide +kernel
theorem dX6_first_16 : decode cX6_first 16 = .ok (.ifCond .eq 13, 3) := by decide +kernel
theorem dX6_first_19 : decode cX6_first 19 = .ok (.iload_n 3, 1) := by decide +kernel
theorem dX6_first_20 : decode cX6_first 20 = .ok (.ifCond .lt 9, 3) := by decide +kernel
theorem dX6_first_23 : decode cX6_first 23 = .ok (.iload_n 3, 1) := by decide +kernel
theorem dX6_first_24 : decode cX6_first 24 = .ok (.bipush 10, 2) := by decide +kernel
theorem dX6_first_26 : decode cX6_first 26 = .ok (.if_icmp .lt 5, 3) := by decide +kernel
theorem dX6_first_29 : decode cX6_first 29 = .ok (.iconst (-1), 1) := by decide +kernel
theorem dX6_first_30 : decode cX6_first 30 = .ok (.ireturn, 1) := by decide +kernel
theorem dX6_first_31 : decode cX6_first 31 = .ok (.aload_n 0, 1) := by decide +kernel
theorem dX6_first_32 : decode cX6_first 32 = .ok (.getfield 24, 3) := by decide +kernel
theorem dX6_first_35 : decode cX6_first 35 = .ok (.aload 4, 2) := by decide +kernel
theorem dX6_first_37 : decode cX6_first 37 = .ok (.iload_n 2, 1) := by decide +kernel
theorem dX6_first_38 : decode cX6_first 38 = .ok (.iload_n 3, 1) := by decide +kernel
theorem dX6_first_39 : decode cX6_first 39 = .ok (.invokevirtual 162, 3) := by decide +kernel
theorem dX6_first_42 : decode cX6_first 42 = .ok (.ireturn, 1) := by decide +kernel
theorem dX6_orders_0 : decode cX6_orders 0 = .ok (.aload_n 0, 1) := by decide +kernel
theorem dX6_orders_1 : decode cX6_orders 1 = .ok (.iload_n 1, 1) := by decide +kernel
theorem dX6_orders_2 : decode cX6_orders 2 = .ok (.invokevirtual 76, 3) := by decide +kernel
theorem dX6_orders_5 : decode cX6_orders 5 = .ok (.astore_n 3, 1) := by decide +kernel
theorem dX6_orders_6 : decode cX6_orders 6 = .ok (.aload_n 3, 1) := by decide +kernel
theorem dX6_orders_7 : decode cX6_orders 7 = .ok (.ifnull 10, 3) := by decide +kernel
theorem dX6_orders_10 : decode cX6_orders 10 = .ok (.iload_n 2, 1) := by decide +kernel
theorem dX6_orders_11 : decode cX6_orders 11 = .ok (.invokestatic 145, 3) := by decide +kernel
theorem dX6_orders_14 : decode cX6_orders 14 = .ok (.ifCond .ne 7, 3) := by decide +kernel
theorem dX6_orders_17 : decode cX6_orders 17 = .ok (.ldc2_w 166, 3) := by decide +kernel
theorem dX6_orders_20 : decode cX6_orders 20 = .ok (.lreturn, 1) := by decide +kernel
theorem dX6_orders_21 : decode cX6_orders 21 = .ok (.aload_n 0, 1) := by decide +kernel
theorem dX6_orders_22 : decode cX6_orders 22 = .ok (.getfield 24, 3) := by decide +kernel
theorem dX6_orders_25 : decode cX6_orders 25 = .ok (.aload_n 3, 1) := by decide +kernel
theorem dX6_orders_26 : decode cX6_orders 26 = .ok (.iload_n 2, 1) := by decide +kernel
theorem dX6_orders_27 : decode cX6_orders 27 = .ok (.invokevirtual 168, 3) := by decide +kernel
theorem dX6_orders_30 : decode cX6_orders 30 = .ok (.lreturn, 1) := by decide +kernel
theorem dX6_least_0 : decode cX6_least 0 = .ok (.aload_n 0, 1) := by decide +kernel
theorem dX6_least_1 : decode cX6_least 1 = .ok (.iload_n 1, 1) := by decide +kernel
theorem dX6_least_2 : decode cX6_least 2 = .ok (.invokevirtual 76, 3) := by decide +kernel
theorem dX6_least_5 : decode cX6_least 5 = .ok (.astore_n 3, 1) := by decide +kernel
theorem dX6_least_6 : decode cX6_least 6 = .ok (.aload_n 3, 1) := by decide +kernel
theorem dX6_least_7 : decode cX6_least 7 = .ok (.ifnull 10, 3) := by decide +kernel
theorem dX6_least_10 : decode cX6_least 10 = .ok (.iload_n 2, 1) := by decide +kernel
theorem dX6_least_11 : decode cX6_least 11 = .ok (.invokestatic 145, 3) := by decide +kernel
theorem dX6_least_14 : decode cX6_least 14 = .ok (.ifCond .ne 5, 3) := by decide +kernel
theorem dX6_least_17 : decode cX6_least 17 = .ok (.iconst (-1), 1) := by decide +kernel
theorem dX6_least_18 : decode cX6_least 18 = .ok (.ireturn, 1) := by decide +kernel
theorem dX6_least_19 : decode cX6_least 19 = .ok (.aload_n 0, 1) := by decide +kernel
theorem dX6_least_20 : decode cX6_least 20 = .ok (.aload_n 0, 1) := by decide +kernel
theorem dX6_least_21 : decode cX6_least 21 = .ok (.getfield 24, 3) := by decide +kernel
theorem dX6_least_24 : decode cX6_least 24 = .ok (.aload_n 3, 1) := by decide +kernel
theorem dX6_least_25 : decode cX6_least 25 = .ok (.iload_n 2, 1) := by decide +kernel
theorem dX6_least_26 : decode cX6_least 26 = .ok (.invokevirtual 172, 3) := by decide +kernel
theorem dX6_least_29 : decode cX6_least 29 = .ok (.putfield 176, 3) := by decide +kernel
theorem dX6_least_32 : decode cX6_least 32 = .ok (.aload_n 0, 1) := by decide +kernel
theorem dX6_least_33 : decode cX6_least 33 = .ok (.getfield 176, 3) := by decide +kernel
theorem dX6_least_36 : decode cX6_least 36 = .ok (.invokestatic 136, 3) := by decide +kernel
theorem dX6_least_39 : decode cX6_least 39 = .ok (.ireturn, 1) := by decide +kernel
theorem dX6_part_0 : decode cX6_part 0 = .ok (.iconst 0, 1) := by decide +kernel
theorem dX6_part_1 : decode cX6_part 1 = .ok (.istore_n 2, 1) := by decide +kernel
theorem dX6_part_2 : decode cX6_part 2 = .ok (.iconst 0, 1) := by decide +kernel
theorem dX6_part_3 : decode cX6_part 3 = .ok (.istore_n 3, 1) := by decide +kernel
theorem dX6_part_4 : decode cX6_part 4 = .ok (.iload_n 3, 1) := by decide +kernel
theorem dX6_part_5 : decode cX6_part 5 = .ok (.bipush 10, 2) := by decide +kernel
theorem dX6_part_7 : decode cX6_part 7 = .ok (.if_icmp .ge 30, 3) := by decide +kernel
theorem dX6_part_10 : decode cX6_part 10 = .ok (.aload_n 0, 1) := by decide +kernel
theorem dX6_part_11 : decode cX6_part 11 = .ok (.getfield 176, 3) := by decide +kernel
theorem dX6_part_14 : decode cX6_part 14 = .ok (.iload_n 3, 1) := by decide +kernel
theorem dX6_part_15 : decode cX6_part 15 = .ok (.invokestatic 178, 3) := by decide +kernel
theorem dX6_part_18 : decode cX6_part 18 = .ok (.ifCond .eq 13, 3) := by decide +kernel
theorem dX6_part_21 : decode cX6_part 21 = .ok (.iload_n 2, 1) := by decide +kernel
theorem dX6_part_22 : decode cX6_part 22 = .ok (.iload_n 1, 1) := by decide +kernel
theorem dX6_part_23 : decode cX6_part 23 = .ok (.if_icmp .ne 5, 3) := by decide +kernel
theorem dX6_part_26 : decode cX6_part 26 = .ok (.iload_n 3, 1) := by decide +kernel
theorem dX6_part_27 : decode cX6_part 27 = .ok (.ireturn, 1) := by decide +kernel
theorem dX6_part_28 : decode cX6_part 28 = .ok (.iinc 2 1, 3) := by decide +kernel
theorem dX6_part_31 : decode cX6_part 31 = .ok (.iinc 3 1, 3) := by decide +kernel
theorem dX6_part_34 : decode cX6_part 34 = .ok (.goto (-30), 3) := by decide +kernel
theorem dX6_part_37 : decode cX6_part 37 = .ok (.iconst (-1), 1) := by decide +kernel
theorem dX6_part_38 : decode cX6_part 38 = .ok (.ireturn, 1) := by decide +kernel
theorem dX6_fills_0 : decode cX6_fills 0 = .ok (.aload_n 0, 1) := by decide +kernel
theorem dX6_fills_1 : decode cX6_fills 1 = .ok (.iload_n 1, 1) := by decide +kernel
theorem dX6_fills_2 : decode cX6_fills 2 = .ok (.invokevirtual 76, 3) := by decide +kernel
theorem dX6_fills_5 : decode cX6_fills 5 = .ok (.astore 4, 2) := by decide +kernel
theorem dX6_fills_7 : decode cX6_fills 7 = .ok (.aload 4, 2) := by decide +kernel
theorem dX6_fills_9 : decode cX6_fills 9 = .ok (.ifnull 19, 3) := by decide +kernel
theorem dX6_fills_12 : decode cX6_fills 12 = .ok (.iload_n 2, 1) := by decide +kernel
theorem dX6_fills_13 : decode cX6_fills 13 = .ok (.invokestatic 145, 3) := by decide +kernel
theorem dX6_fills_16 : decode cX6_fills 16 = .ok (.ifCond .eq 12, 3) := by decide +kernel
theorem dX6_fills_19 : decode cX6_fills 19 = .ok (.aload 4, 2) := by decide +kernel
theorem dX6_fills_21 : decode cX6_fills 21 = .ok (.iload_n 3, 1) := by decide +kernel
theorem dX6_fills_22 : decode cX6_fills 22 = .ok (.invokevirtual 101, 3) := by decide +kernel
theorem dX6_fills_25 : decode cX6_fills 25 = .ok (.ifCond .ne 5, 3) := by decide +kernel
theorem dX6_fills_28 : decode cX6_fills 28 = .ok (.iconst (-1), 1) := by decide +kernel
theorem dX6_fills_29 : decode cX6_fills 29 = .ok (.ireturn, 1) := by decide +kernel
theorem dX6_fills_30 : decode cX6_fills 30 = .ok (.aload 4, 2) := by decide +kernel
theorem dX6_fills_32 : decode cX6_fills 32 = .ok (.iload_n 3, 1) := by decide +kernel
theorem dX6_fills_33 : decode cX6_fills 33 = .ok (.invokevirtual 104, 3) := by decide +kernel
theorem dX6_fills_36 : decode cX6_fills 36 = .ok (.ifCond .ne 6, 3) := by decide +kernel
theorem dX6_fills_39 : decode cX6_fills 39 = .ok (.bipush (-3), 2) := by decide +kernel
theorem dX6_fills_41 : decode cX6_fills 41 = .ok (.ireturn, 1) := by decide +kernel
theorem dX6_fills_42 : decode cX6_fills 42 = .ok (.aload_n 0, 1) := by decide +kernel
theorem dX6_fills_43 : decode cX6_fills 43 = .ok (.getfield 24, 3) := by decide +kernel
theorem dX6_fills_46 : decode cX6_fills 46 = .ok (.aload 4, 2) := by decide +kernel
theorem dX6_fills_48 : decode cX6_fills 48 = .ok (.iload_n 2, 1) := by decide +kernel
theorem dX6_fills_49 : decode cX6_fills 49 = .ok (.iload_n 3, 1) := by decide +kernel
theorem dX6_fills_50 : decode cX6_fills 50 = .ok (.aload_n 0, 1) := by decide +kernel
theorem dX6_fills_51 : decode cX6_fills 51 = .ok (.getfield 31, 3) := by decide +kernel
theorem dX6_fills_54 : decode cX6_fills 54 = .ok (.invokevirtual 182, 3) := by decide +kernel
theorem dX6_fills_57 : decode cX6_fills 57 = .ok (.aload_n 0, 1) := by decide +kernel
theorem dX6_fills_58 : decode cX6_fills 58 = .ok (.getfield 31, 3) := by decide +kernel
theorem dX6_fills_61 : decode cX6_fills 61 = .ok (.getfield 186, 3) := by decide +kernel
theorem dX6_fills_64 : decode cX6_fills 64 = .ok (.ireturn, 1) := by decide +kernel
theorem dX6_fill_0 : decode cX6_fill 0 = .ok (.iload_n 1, 1) := by decide +kernel
theorem dX6_fill_1 : decode cX6_fill 1 = .ok (.ifCond .lt 14, 3) := by decide +kernel
theorem dX6_fill_4 : decode cX6_fill 4 = .ok (.iload_n 1, 1) := by decide +kernel
theorem dX6_fill_5 : decode cX6_fill 5 = .ok (.aload_n 0, 1) := by decide +kernel
theorem dX6_fill_6 : decode cX6_fill 6 = .ok (.getfield 31, 3) := by decide +kernel
theorem dX6_fill_9 : decode cX6_fill 9 = .ok (.getfield 186, 3) := by decide +kernel
theorem dX6_fill_12 : decode cX6_fill 12 = .ok (.if_icmp .lt 10, 3) := by decide +kernel
theorem dX6_fill_15 : decode cX6_fill 15 = .ok (.aload_n 0, 1) := by decide +kernel
theorem dX6_fill_16 : decode cX6_fill 16 = .ok (.iconst (-1), 1) := by decide +kernel
theorem dX6_fill_17 : decode cX6_fill 17 = .ok (.putfield 114, 3) := by decide +kernel
theorem dX6_fill_20 : decode cX6_fill 20 = .ok (.iconst 0, 1) := by decide +kernel
theorem dX6_fill_21 : decode cX6_fill 21 = .ok (.ireturn, 1) := by decide +kernel
theorem dX6_fill_22 : decode cX6_fill 22 = .ok (.aload_n 0, 1) := by decide +kernel
theorem dX6_fill_23 : decode cX6_fill 23 = .ok (.iconst 0, 1) := by decide +kernel
theorem dX6_fill_24 : decode cX6_fill 24 = .ok (.putfield 114, 3) := by decide +kernel
theorem dX6_fill_27 : decode cX6_fill 27 = .ok (.aload_n 0, 1) := by decide +kernel
theorem dX6_fill_28 : decode cX6_fill 28 = .ok (.getfield 31, 3) := by decide +kernel
theorem dX6_fill_31 : decode cX6_fill 31 = .ok (.getfield 188, 3) := by decide +kernel
theorem dX6_fill_34 : decode cX6_fill 34 = .ok (.iload_n 1, 1) := by decide +kernel
theorem dX6_fill_35 : decode cX6_fill 35 = .ok (.iaload, 1) := by decide +kernel
theorem dX6_fill_36 : decode cX6_fill 36 = .ok (.ireturn, 1) := by decide +kernel
theorem dX6_apart_0 : decode cX6_apart 0 = .ok (.aload_n 0, 1) := by decide +kernel
theorem dX6_apart_1 : decode cX6_apart 1 = .ok (.iload_n 1, 1) := by decide +kernel
theorem dX6_apart_2 : decode cX6_apart 2 = .ok (.invokevirtual 76, 3) := by decide +kernel
theorem dX6_apart_5 : decode cX6_apart 5 = .ok (.astore 4, 2) := by decide +kernel
theorem dX6_apart_7 : decode cX6_apart 7 = .ok (.iload_n 3, 1) := by decide +kernel
theorem dX6_apart_8 : decode cX6_apart 8 = .ok (.ifCond .lt 12, 3) := by decide +kernel
theorem dX6_apart_11 : decode cX6_apart 11 = .ok (.iload_n 3, 1) := by decide +kernel
theorem dX6_apart_12 : decode cX6_apart 12 = .ok (.iconst 4, 1) := by decide +kernel
theorem dX6_apart_13 : decode cX6_apart 13 = .ok (.if_icmp .ge 7, 3) := by decide +kernel
theorem dX6_apart_16 : decode cX6_apart 16 = .ok (.iconst 1, 1) := by decide +kernel
theorem dX6_apart_17 : decode cX6_apart 17 = .ok (.goto 4, 3) := by decide +kernel
theorem dX6_apart_20 : decode cX6_apart 20 = .ok (.iconst 0, 1) := by decide +kernel
theorem dX6_apart_21 : decode cX6_apart 21 = .ok (.istore 5, 2) := by decide +kernel
theorem dX6_apart_23 : decode cX6_apart 23 = .ok (.aload 4, 2) := by decide +kernel
theorem dX6_apart_25 : decode cX6_apart 25 = .ok (.ifnull 24, 3) := by decide +kernel
theorem dX6_apart_28 : decode cX6_apart 28 = .ok (.iload_n 2, 1) := by decide +kernel
theorem dX6_apart_29 : decode cX6_apart 29 = .ok (.invokestatic 145, 3) := by decide +kernel
theorem dX6_apart_32 : decode cX6_apart 32 = .ok (.ifCond .eq 17, 3) := by decide +kernel
theorem dX6_apart_35 : decode cX6_apart 35 = .ok (.aload 4, 2) := by decide +kernel
theorem dX6_apart_37 : decode cX6_apart 37 = .ok (.getfield 84, 3) := by decide +kernel
theorem dX6_apart_40 : decode cX6_apart 40 = .ok (.iconst 5, 1) := by decide +kernel
theorem dX6_apart_41 : decode cX6_apart 41 = .ok (.if_icmp .ne 8, 3) := by decide +kernel
theorem dX6_apart_44 : decode cX6_apart 44 = .ok (.iload 5, 2) := by decide +kernel
theorem dX6_apart_46 : decode cX6_apart 46 = .ok (.ifCond .ne 5, 3) := by decide +kernel
theorem dX6_apart_49 : decode cX6_apart 49 = .ok (.iconst (-1), 1) := by decide +kernel
theorem dX6_apart_50 : decode cX6_apart 50 = .ok (.ireturn, 1) := by decide +kernel
theorem dX6_apart_51 : decode cX6_apart 51 = .ok (.aload_n 0, 1) := by decide +kernel
theorem dX6_apart_52 : decode cX6_apart 52 = .ok (.getfield 24, 3) := by decide +kernel
theorem dX6_apart_55 : decode cX6_apart 55 = .ok (.aload 4, 2) := by decide +kernel
theorem dX6_apart_57 : decode cX6_apart 57 = .ok (.iload_n 2, 1) := by decide +kernel
theorem dX6_apart_58 : decode cX6_apart 58 = .ok (.aload 4, 2) := by decide +kernel
theorem dX6_apart_60 : decode cX6_apart 60 = .ok (.iload_n 3, 1) := by decide +kernel
theorem dX6_apart_61 : decode cX6_apart 61 = .ok (.invokevirtual 191, 3) := by decide +kernel
theorem dX6_apart_64 : decode cX6_apart 64 = .ok (.invokevirtual 158, 3) := by decide +kernel
theorem dX6_apart_67 : decode cX6_apart 67 = .ok (.ifCond .eq 7, 3) := by decide +kernel
theorem dX6_apart_70 : decode cX6_apart 70 = .ok (.iconst 1, 1) := by decide +kernel
theorem dX6_apart_71 : decode cX6_apart 71 = .ok (.goto 4, 3) := by decide +kernel
theorem dX6_apart_74 : decode cX6_apart 74 = .ok (.iconst 0, 1) := by decide +kernel
theorem dX6_apart_75 : decode cX6_apart 75 = .ok (.ireturn, 1) := by decide +kernel
theorem dX6_rules_0 : decode cX6_rules 0 = .ok (.aload_n 0, 1) := by decide +kernel
theorem dX6_rules_1 : decode cX6_rules 1 = .ok (.iload_n 1, 1) := by decide +kernel
theorem dX6_rules_2 : decode cX6_rules 2 = .ok (.invokevirtual 76, 3) := by decide +kernel
theorem dX6_rules_5 : decode cX6_rules 5 = .ok (.astore_n 2, 1) := by decide +kernel
theorem dX6_rules_6 : decode cX6_rules 6 = .ok (.aload_n 2, 1) := by decide +kernel
theorem dX6_rules_7 : decode cX6_rules 7 = .ok (.ifnonnull 5, 3) := by decide +kernel
theorem dX6_rules_10 : decode cX6_rules 10 = .ok (.iconst (-1), 1) := by decide +kernel
theorem dX6_rules_11 : decode cX6_rules 11 = .ok (.ireturn, 1) := by decide +kernel
theorem dX6_rules_12 : decode cX6_rules 12 = .ok (.iconst 0, 1) := by decide +kernel
theorem dX6_rules_13 : decode cX6_rules 13 = .ok (.istore_n 3, 1) := by decide +kernel
theorem dX6_rules_14 : decode cX6_rules 14 = .ok (.iconst 0, 1) := by decide +kernel
theorem dX6_rules_15 : decode cX6_rules 15 = .ok (.istore 4, 2) := by decide +kernel
theorem dX6_rules_17 : decode cX6_rules 17 = .ok (.iload 4, 2) := by decide +kernel
theorem dX6_rules_19 : decode cX6_rules 19 = .ok (.iconst 3, 1) := by decide +kernel
theorem dX6_rules_20 : decode cX6_rules 20 = .ok (.if_icmp .ge 33, 3) := by decide +kernel
theorem dX6_rules_23 : decode cX6_rules 23 = .ok (.aload_n 0, 1) := by decide +kernel
theorem dX6_rules_24 : decode cX6_rules 24 = .ok (.getfield 24, 3) := by decide +kernel
theorem dX6_rules_27 : decode cX6_rules 27 = .ok (.aload_n 2, 1) := by decide +kernel
theorem dX6_rules_28 : decode cX6_rules 28 = .ok (.iload 4, 2) := by decide +kernel
theorem dX6_rules_30 : decode cX6_rules 30 = .ok (.aload_n 2, 1) := by decide +kernel
theorem dX6_rules_31 : decode cX6_rules 31 = .ok (.invokevirtual 148, 3) := by decide +kernel
theorem dX6_rules_34 : decode cX6_rules 34 = .ok (.invokevirtual 158, 3) := by decide +kernel
theorem dX6_rules_37 : decode cX6_rules 37 = .ok (.ifCond .eq 10, 3) := by decide +kernel
theorem dX6_rules_40 : decode cX6_rules 40 = .ok (.iload_n 3, 1) := by decide +kernel
theorem dX6_rules_41 : decode cX6_rules 41 = .ok (.iconst 1, 1) := by decide +kernel
theorem dX6_rules_42 : decode cX6_rules 42 = .ok (.iload 4, 2) := by decide +kernel
theorem dX6_rules_44 : decode cX6_rules 44 = .ok (.ishl, 1) := by decide +kernel
theorem dX6_rules_45 : decode cX6_rules 45 = .ok (.ior, 1) := by decide +kernel
theorem dX6_rules_46 : decode cX6_rules 46 = .ok (.istore_n 3, 1) := by decide +kernel
theorem dX6_rules_47 : decode cX6_rules 47 = .ok (.iinc 4 1, 3) := by decide +kernel
theorem dX6_rules_50 : decode cX6_rules 50 = .ok (.goto (-33), 3) := by decide +kernel
theorem dX6_rules_53 : decode cX6_rules 53 = .ok (.iload_n 3, 1) := by decide +kernel
theorem dX6_rules_54 : decode cX6_rules 54 = .ok (.ireturn, 1) := by decide +kernel
theorem dX6_say_0 : decode cX6_say 0 = .ok (.iload_n 1, 1) := by decide +kernel
theorem dX6_say_1 : decode cX6_say 1 = .ok (.ifCond .lt 9, 3) := by decide +kernel
theorem dX6_say_4 : decode cX6_say 4 = .ok (.iload_n 1, 1) := by decide +kernel
theorem dX6_say_5 : decode cX6_say 5 = .ok (.bipush 10, 2) := by decide +kernel
theorem dX6_say_7 : decode cX6_say 7 = .ok (.if_icmp .lt 6, 3) := by decide +kernel
theorem dX6_say_10 : decode cX6_say 10 = .ok (.bipush (-2), 2) := by decide +kernel
theorem dX6_say_12 : decode cX6_say 12 = .ok (.ireturn, 1) := by decide +kernel
theorem dX6_say_13 : decode cX6_say 13 = .ok (.aload_n 0, 1) := by decide +kernel
theorem dX6_say_14 : decode cX6_say 14 = .ok (.getfield 194, 3) := by decide +kernel
theorem dX6_say_17 : decode cX6_say 17 = .ok (.bipush 10, 2) := by decide +kernel
theorem dX6_say_19 : decode cX6_say 19 = .ok (.if_icmp .lt 6, 3) := by decide +kernel
theorem dX6_say_22 : decode cX6_say 22 = .ok (.bipush (-4), 2) := by decide +kernel
theorem dX6_say_24 : decode cX6_say 24 = .ok (.ireturn, 1) := by decide +kernel
theorem dX6_say_25 : decode cX6_say 25 = .ok (.aload_n 0, 1) := by decide +kernel
theorem dX6_say_26 : decode cX6_say 26 = .ok (.getfield 35, 3) := by decide +kernel
theorem dX6_say_29 : decode cX6_say 29 = .ok (.aload_n 0, 1) := by decide +kernel
theorem dX6_say_30 : decode cX6_say 30 = .ok (.getfield 194, 3) := by decide +kernel
theorem dX6_say_33 : decode cX6_say 33 = .ok (.iload_n 1, 1) := by decide +kernel
theorem dX6_say_34 : decode cX6_say 34 = .ok (.iastore, 1) := by decide +kernel
theorem dX6_say_35 : decode cX6_say 35 = .ok (.aload_n 0, 1) := by decide +kernel
theorem dX6_say_36 : decode cX6_say 36 = .ok (.dup, 1) := by decide +kernel
theorem dX6_say_37 : decode cX6_say 37 = .ok (.getfield 194, 3) := by decide +kernel
theorem dX6_say_40 : decode cX6_say 40 = .ok (.iconst 1, 1) := by decide +kernel
theorem dX6_say_41 : decode cX6_say 41 = .ok (.iadd, 1) := by decide +kernel
theorem dX6_say_42 : decode cX6_say 42 = .ok (.putfield 194, 3) := by decide +kernel
theorem dX6_say_45 : decode cX6_say 45 = .ok (.aload_n 0, 1) := by decide +kernel
theorem dX6_say_46 : decode cX6_say 46 = .ok (.getfield 194, 3) := by decide +kernel
theorem dX6_say_49 : decode cX6_say 49 = .ok (.ireturn, 1) := by decide +kernel
theorem dX6_check_0 : decode cX6_check 0 = .ok (.aload_n 0, 1) := by decide +kernel
theorem dX6_check_1 : decode cX6_check 1 = .ok (.iload_n 1, 1) := by decide +kernel
theorem dX6_check_2 : decode cX6_check 2 = .ok (.invokevirtual 76, 3) := by decide +kernel
theorem dX6_check_5 : decode cX6_check 5 = .ok (.astore_n 3, 1) := by decide +kernel
theorem dX6_check_6 : decode cX6_check 6 = .ok (.aload_n 3, 1) := by decide +kernel
theorem dX6_check_7 : decode cX6_check 7 = .ok (.ifnull 10, 3) := by decide +kernel
theorem dX6_check_10 : decode cX6_check 10 = .ok (.iload_n 2, 1) := by decide +kernel
theorem dX6_check_11 : decode cX6_check 11 = .ok (.invokestatic 145, 3) := by decide +kernel
theorem dX6_check_14 : decode cX6_check 14 = .ok (.ifCond .ne 5, 3) := by decide +kernel
theorem dX6_check_17 : decode cX6_check 17 = .ok (.iconst (-1), 1) := by decide +kernel
theorem dX6_check_18 : decode cX6_check 18 = .ok (.ireturn, 1) := by decide +kernel
theorem dX6_check_19 : decode cX6_check 19 = .ok (.aload_n 0, 1) := by decide +kernel
theorem dX6_check_20 : decode cX6_check 20 = .ok (.getfield 194, 3) := by decide +kernel
theorem dX6_check_23 : decode cX6_check 23 = .ok (.istore 4, 2) := by decide +kernel
theorem dX6_check_25 : decode cX6_check 25 = .ok (.aload_n 0, 1) := by decide +kernel
theorem dX6_check_26 : decode cX6_check 26 = .ok (.iconst 0, 1) := by decide +kernel
theorem dX6_check_27 : decode cX6_check 27 = .ok (.putfield 194, 3) := by decide +kernel
theorem dX6_check_30 : decode cX6_check 30 = .ok (.aload_n 0, 1) := by decide +kernel
theorem dX6_check_31 : decode cX6_check 31 = .ok (.getfield 24, 3) := by decide +kernel
theorem dX6_check_34 : decode cX6_check 34 = .ok (.aload_n 3, 1) := by decide +kernel
theorem dX6_check_35 : decode cX6_check 35 = .ok (.iload_n 2, 1) := by decide +kernel
theorem dX6_check_36 : decode cX6_check 36 = .ok (.aload_n 0, 1) := by decide +kernel
theorem dX6_check_37 : decode cX6_check 37 = .ok (.getfield 35, 3) := by decide +kernel
theorem dX6_check_40 : decode cX6_check 40 = .ok (.iload 4, 2) := by decide +kernel
theorem dX6_check_42 : decode cX6_check 42 = .ok (.invokevirtual 197, 3) := by decide +kernel
theorem dX6_check_45 : decode cX6_check 45 = .ok (.ireturn, 1) := by decide +kernel
theorem dX6_tableOf_0 : decode cX6_tableOf 0 = .ok (.iload_n 1, 1) := by decide +kernel
theorem dX6_tableOf_1 : decode cX6_tableOf 1 = .ok (.ifCond .lt 20, 3) := by decide +kernel
theorem dX6_tableOf_4 : decode cX6_tableOf 4 = .ok (.iload_n 1, 1) := by decide +kernel
theorem dX6_tableOf_5 : decode cX6_tableOf 5 = .ok (.aload_n 0, 1) := by decide +kernel
theorem dX6_tableOf_6 : decode cX6_tableOf 6 = .ok (.getfield 39, 3) := by decide +kernel
theorem dX6_tableOf_9 : decode cX6_tableOf 9 = .ok (.if_icmp .ge 12, 3) := by decide +kernel
theorem dX6_tableOf_12 : decode cX6_tableOf 12 = .ok (.aload_n 0, 1) := by decide +kernel
theorem dX6_tableOf_13 : decode cX6_tableOf 13 = .ok (.getfield 11, 3) := by decide +kernel
theorem dX6_tableOf_16 : decode cX6_tableOf 16 = .ok (.iload_n 1, 1) := by decide +kernel
theorem dX6_tableOf_17 : decode cX6_tableOf 17 = .ok (.aaload, 1) := by decide +kernel
theorem dX6_tableOf_18 : decode cX6_tableOf 18 = .ok (.goto 4, 3) := by decide +kernel
theorem dX6_tableOf_21 : decode cX6_tableOf 21 = .ok (.aconst_null, 1) := by decide +kernel
theorem dX6_tableOf_22 : decode cX6_tableOf 22 = .ok (.areturn, 1) := by decide +kernel
theorem dX6_historyOf_0 : decode cX6_historyOf 0 = .ok (.iload_n 1, 1) := by decide +kernel
theorem dX6_historyOf_1 : decode cX6_historyOf 1 = .ok (.ifCond .lt 20, 3) := by decide +kernel
theorem dX6_historyOf_4 : decode cX6_historyOf 4 = .ok (.iload_n 1, 1) := by decide +kernel
theorem dX6_historyOf_5 : decode cX6_historyOf 5 = .ok (.aload_n 0, 1) := by decide +kernel
theorem dX6_historyOf_6 : decode cX6_historyOf 6 = .ok (.getfield 66, 3) := by decide +kernel
theorem dX6_historyOf_9 : decode cX6_historyOf 9 = .ok (.if_icmp .ge 12, 3) := by decide +kernel
theorem dX6_historyOf_12 : decode cX6_historyOf 12 = .ok (.aload_n 0, 1) := by decide +kernel
theorem dX6_historyOf_13 : decode cX6_historyOf 13 = .ok (.getfield 17, 3) := by decide +kernel
theorem dX6_historyOf_16 : decode cX6_historyOf 16 = .ok (.iload_n 1, 1) := by decide +kernel
theorem dX6_historyOf_17 : decode cX6_historyOf 17 = .ok (.aaload, 1) := by decide +kernel
theorem dX6_historyOf_18 : decode cX6_historyOf 18 = .ok (.goto 4, 3) := by decide +kernel
theorem dX6_historyOf_21 : decode cX6_historyOf 21 = .ok (.aconst_null, 1) := by decide +kernel
theorem dX6_historyOf_22 : decode cX6_historyOf 22 = .ok (.areturn, 1) := by decide +kernel
theorem dX6_keep_0 : decode cX6_keep 0 = .ok (.aload_n 0, 1) := by decide +kernel
theorem dX6_keep_1 : decode cX6_keep 1 = .ok (.getfield 66, 3) := by decide +kernel
theorem dX6_keep_4 : decode cX6_keep 4 = .ok (.bipush 12, 2) := by decide +kernel
theorem dX6_keep_6 : decode cX6_keep 6 = .ok (.if_icmp .lt 6, 3) := by decide +kernel
theorem dX6_keep_9 : decode cX6_keep 9 = .ok (.bipush (-4), 2) := by decide +kernel
theorem dX6_keep_11 : decode cX6_keep 11 = .ok (.ireturn, 1) := by decide +kernel
theorem dX6_keep_12 : decode cX6_keep 12 = .ok (.aload_n 0, 1) := by decide +kernel
theorem dX6_keep_13 : decode cX6_keep 13 = .ok (.getfield 17, 3) := by decide +kernel
theorem dX6_keep_16 : decode cX6_keep 16 = .ok (.aload_n 0, 1) := by decide +kernel
theorem dX6_keep_17 : decode cX6_keep 17 = .ok (.getfield 66, 3) := by decide +kernel
theorem dX6_keep_20 : decode cX6_keep 20 = .ok (.aload_n 1, 1) := by decide +kernel
theorem dX6_keep_21 : decode cX6_keep 21 = .ok (.aastore, 1) := by decide +kernel
theorem dX6_keep_22 : decode cX6_keep 22 = .ok (.aload_n 0, 1) := by decide +kernel
theorem dX6_keep_23 : decode cX6_keep 23 = .ok (.dup, 1) := by decide +kernel
theorem dX6_keep_24 : decode cX6_keep 24 = .ok (.getfield 66, 3) := by decide +kernel
theorem dX6_keep_27 : decode cX6_keep 27 = .ok (.iconst 1, 1) := by decide +kernel
theorem dX6_keep_28 : decode cX6_keep 28 = .ok (.iadd, 1) := by decide +kernel
theorem dX6_keep_29 : decode cX6_keep 29 = .ok (.putfield 66, 3) := by decide +kernel
theorem dX6_keep_32 : decode cX6_keep 32 = .ok (.aload_n 0, 1) := by decide +kernel
theorem dX6_keep_33 : decode cX6_keep 33 = .ok (.getfield 66, 3) := by decide +kernel
theorem dX6_keep_36 : decode cX6_keep 36 = .ok (.iconst 1, 1) := by decide +kernel
theorem dX6_keep_37 : decode cX6_keep 37 = .ok (.isub, 1) := by decide +kernel
theorem dX6_keep_38 : decode cX6_keep 38 = .ok (.ireturn, 1) := by decide +kernel
theorem dX6_isRule_0 : decode cX6_isRule 0 = .ok (.iload_n 0, 1) := by decide +kernel
theorem dX6_isRule_1 : decode cX6_isRule 1 = .ok (.ifCond .lt 12, 3) := by decide +kernel
theorem dX6_isRule_4 : decode cX6_isRule 4 = .ok (.iload_n 0, 1) := by decide +kernel
theorem dX6_isRule_5 : decode cX6_isRule 5 = .ok (.iconst 3, 1) := by decide +kernel
theorem dX6_isRule_6 : decode cX6_isRule 6 = .ok (.if_icmp .ge 7, 3) := by decide +kernel
theorem dX6_isRule_9 : decode cX6_isRule 9 = .ok (.iconst 1, 1) := by decide +kernel
theorem dX6_isRule_10 : decode cX6_isRule 10 = .ok (.goto 4, 3) := by decide +kernel
theorem dX6_isRule_13 : decode cX6_isRule 13 = .ok (.iconst 0, 1) := by decide +kernel
theorem dX6_isRule_14 : decode cX6_isRule 14 = .ok (.ireturn, 1) := by decide +kernel
theorem dX6_holds_0 : decode cX6_holds 0 = .ok (.iload_n 0, 1) := by decide +kernel
theorem dX6_holds_1 : decode cX6_holds 1 = .ok (.iload_n 1, 1) := by decide +kernel
theorem dX6_holds_2 : decode cX6_holds 2 = .ok (.ishr, 1) := by decide +kernel
theorem dX6_holds_3 : decode cX6_holds 3 = .ok (.iconst 1, 1) := by decide +kernel
theorem dX6_holds_4 : decode cX6_holds 4 = .ok (.iand, 1) := by decide +kernel
theorem dX6_holds_5 : decode cX6_holds 5 = .ok (.ifCond .eq 7, 3) := by decide +kernel
theorem dX6_holds_8 : decode cX6_holds 8 = .ok (.iconst 1, 1) := by decide +kernel
theorem dX6_holds_9 : decode cX6_holds 9 = .ok (.goto 4, 3) := by decide +kernel
theorem dX6_holds_12 : decode cX6_holds 12 = .ok (.iconst 0, 1) := by decide +kernel
theorem dX6_holds_13 : decode cX6_holds 13 = .ok (.ireturn, 1) := by decide +kernel
