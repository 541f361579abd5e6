theorem dX0_init_0 : decode cX0_init 0 = .ok (.aload_n 0, 1) := by decide +kernel
theorem dX0_init_1 : decode cX0_init 1 = .ok (.invokespecial 3, 3) := by decide +kernel
theorem dX0_init_4 : decode cX0_init 4 = .ok (.aload_n 0, 1) := by decide +kernel
theorem dX0_init_5 : decode cX0_init 5 = .ok (.aload_n 1, 1) := by decide +kernel
theorem dX0_init_6 : decode cX0_init 6 = .ok (.putfield 9, 3) := by decide +kernel
theorem dX0_init_9 : decode cX0_init 9 = .ok (.aload_n 0, 1) := by decide +kernel
theorem dX0_init_10 : decode cX0_init 10 = .ok (.aload_n 2, 1) := by decide +kernel
theorem dX0_init_11 : decode cX0_init 11 = .ok (.putfield 15, 3) := by decide +kernel
theorem dX0_init_14 : decode cX0_init 14 = .ok (.aload_n 0, 1) := by decide +kernel
theorem dX0_init_15 : decode cX0_init 15 = .ok (.new 19, 3) := by decide +kernel
theorem dX0_init_18 : decode cX0_init 18 = .ok (.dup, 1) := by decide +kernel
theorem dX0_init_19 : decode cX0_init 19 = .ok (.invokespecial 21, 3) := by decide +kernel
theorem dX0_init_22 : decode cX0_init 22 = .ok (.putfield 22, 3) := by decide +kernel
theorem dX0_init_25 : decode cX0_init 25 = .ok (.return_, 1) := by decide +kernel
theorem dX0_begin_0 : decode cX0_begin 0 = .ok (.aload_n 0, 1) := by decide +kernel
theorem dX0_begin_1 : decode cX0_begin 1 = .ok (.getfield 15, 3) := by decide +kernel
theorem dX0_begin_4 : decode cX0_begin 4 = .ok (.invokevirtual 26, 3) := by decide +kernel
theorem dX0_begin_7 : decode cX0_begin 7 = .ok (.aload_n 0, 1) := by decide +kernel
theorem dX0_begin_8 : decode cX0_begin 8 = .ok (.getfield 22, 3) := by decide +kernel
theorem dX0_begin_11 : decode cX0_begin 11 = .ok (.invokevirtual 31, 3) := by decide +kernel
theorem dX0_begin_14 : decode cX0_begin 14 = .ok (.return_, 1) := by decide +kernel
theorem dX0_depth_0 : decode cX0_depth 0 = .ok (.aload_n 0, 1) := by decide +kernel
theorem dX0_depth_1 : decode cX0_depth 1 = .ok (.getfield 22, 3) := by decide +kernel
theorem dX0_depth_4 : decode cX0_depth 4 = .ok (.invokevirtual 32, 3) := by decide +kernel
theorem dX0_depth_7 : decode cX0_depth 7 = .ok (.ireturn, 1) := by decide +kernel
theorem dX0_start_0 : decode cX0_start 0 = .ok (.aload_n 0, 1) := by decide +kernel
theorem dX0_start_1 : decode cX0_start 1 = .ok (.aload_n 1, 1) := by decide +kernel
theorem dX0_start_2 : decode cX0_start 2 = .ok (.invokevirtual 36, 3) := by decide +kernel
theorem dX0_start_5 : decode cX0_start 5 = .ok (.invokevirtual 41, 3) := by decide +kernel
theorem dX0_start_8 : decode cX0_start 8 = .ok (.istore_n 2, 1) := by decide +kernel
theorem dX0_start_9 : decode cX0_start 9 = .ok (.iload_n 2, 1) := by decide +kernel
theorem dX0_start_10 : decode cX0_start 10 = .ok (.iconst (-1), 1) := by decide +kernel
theorem dX0_start_11 : decode cX0_start 11 = .ok (.if_icmp .ne 5, 3) := by decide +kernel
theorem dX0_start_14 : decode cX0_start 14 = .ok (.iconst 0, 1) := by decide +kernel
theorem dX0_start_15 : decode cX0_start 15 = .ok (.ireturn, 1) := by decide +kernel
theorem dX0_start_16 : decode cX0_start 16 = .ok (.aload_n 0, 1) := by decide +kernel
theorem dX0_start_17 : decode cX0_start 17 = .ok (.getfield 15, 3) := by decide +kernel
theorem dX0_start_20 : decode cX0_start 20 = .ok (.aload_n 1, 1) := by decide +kernel
theorem dX0_start_21 : decode cX0_start 21 = .ok (.aload_n 0, 1) := by decide +kernel
theorem dX0_start_22 : decode cX0_start 22 = .ok (.getfield 9, 3) := by decide +kernel
theorem dX0_start_25 : decode cX0_start 25 = .ok (.invokevirtual 45, 3) := by decide +kernel
theorem dX0_start_28 : decode cX0_start 28 = .ok (.aload_n 1, 1) := by decide +kernel
theorem dX0_start_29 : decode cX0_start 29 = .ok (.invokevirtual 36, 3) := by decide +kernel
theorem dX0_start_32 : decode cX0_start 32 = .ok (.bipush 18, 2) := by decide +kernel
theorem dX0_start_34 : decode cX0_start 34 = .ok (.if_icmp .ne 18, 3) := by decide +kernel
theorem dX0_start_37 : decode cX0_start 37 = .ok (.aload_n 0, 1) := by decide +kernel
theorem dX0_start_38 : decode cX0_start 38 = .ok (.getfield 15, 3) := by decide +kernel
theorem dX0_start_41 : decode cX0_start 41 = .ok (.iload_n 2, 1) := by decide +kernel
theorem dX0_start_42 : decode cX0_start 42 = .ok (.invokevirtual 49, 3) := by decide +kernel
theorem dX0_start_45 : decode cX0_start 45 = .ok (.ifCond .ne 7, 3) := by decide +kernel
theorem dX0_start_48 : decode cX0_start 48 = .ok (.iconst 1, 1) := by decide +kernel
theorem dX0_start_49 : decode cX0_start 49 = .ok (.goto 4, 3) := by decide +kernel
theorem dX0_start_52 : decode cX0_start 52 = .ok (.iconst 0, 1) := by decide +kernel
theorem dX0_start_53 : decode cX0_start 53 = .ok (.ireturn, 1) := by decide +kernel
theorem dX0_end_0 : decode cX0_end 0 = .ok (.aload_n 0, 1) := by decide +kernel
theorem dX0_end_1 : decode cX0_end 1 = .ok (.getfield 22, 3) := by decide +kernel
theorem dX0_end_4 : decode cX0_end 4 = .ok (.iload_n 1, 1) := by decide +kernel
theorem dX0_end_5 : decode cX0_end 5 = .ok (.invokevirtual 53, 3) := by decide +kernel
theorem dX0_end_8 : decode cX0_end 8 = .ok (.istore_n 2, 1) := by decide +kernel
theorem dX0_end_9 : decode cX0_end 9 = .ok (.iload_n 2, 1) := by decide +kernel
theorem dX0_end_10 : decode cX0_end 10 = .ok (.iconst (-1), 1) := by decide +kernel
theorem dX0_end_11 : decode cX0_end 11 = .ok (.if_icmp .eq 14, 3) := by decide +kernel
theorem dX0_end_14 : decode cX0_end 14 = .ok (.aload_n 0, 1) := by decide +kernel
theorem dX0_end_15 : decode cX0_end 15 = .ok (.getfield 22, 3) := by decide +kernel
theorem dX0_end_18 : decode cX0_end 18 = .ok (.iload_n 2, 1) := by decide +kernel
theorem dX0_end_19 : decode cX0_end 19 = .ok (.invokevirtual 56, 3) := by decide +kernel
theorem dX0_end_22 : decode cX0_end 22 = .ok (.goto 45, 3) := by decide +kernel
theorem dX0_end_25 : decode cX0_end 25 = .ok (.iload_n 1, 1) := by decide +kernel
theorem dX0_end_26 : decode cX0_end 26 = .ok (.bipush 15, 2) := by decide +kernel
theorem dX0_end_28 : decode cX0_end 28 = .ok (.if_icmp .ne 39, 3) := by decide +kernel
theorem dX0_end_31 : decode cX0_end 31 = .ok (.aload_n 0, 1) := by decide +kernel
theorem dX0_end_32 : decode cX0_end 32 = .ok (.getfield 22, 3) := by decide +kernel
theorem dX0_end_35 : decode cX0_end 35 = .ok (.invokevirtual 60, 3) := by decide +kernel
theorem dX0_end_38 : decode cX0_end 38 = .ok (.ifCond .ne 29, 3) := by decide +kernel
theorem dX0_end_41 : decode cX0_end 41 = .ok (.aload_n 0, 1) := by decide +kernel
theorem dX0_end_42 : decode cX0_end 42 = .ok (.bipush 15, 2) := by decide +kernel
theorem dX0_end_44 : decode cX0_end 44 = .ok (.invokevirtual 41, 3) := by decide +kernel
theorem dX0_end_47 : decode cX0_end 47 = .ok (.iconst (-1), 1) := by decide +kernel
theorem dX0_end_48 : decode cX0_end 48 = .ok (.if_icmp .eq 19, 3) := by decide +kernel
theorem dX0_end_51 : decode cX0_end 51 = .ok (.aload_n 0, 1) := by decide +kernel
theorem dX0_end_52 : decode cX0_end 52 = .ok (.getfield 22, 3) := by decide +kernel
theorem dX0_end_55 : decode cX0_end 55 = .ok (.aload_n 0, 1) := by decide +kernel
theorem dX0_end_56 : decode cX0_end 56 = .ok (.getfield 22, 3) := by decide +kernel
theorem dX0_end_59 : decode cX0_end 59 = .ok (.invokevirtual 32, 3) := by decide +kernel
theorem dX0_end_62 : decode cX0_end 62 = .ok (.iconst 1, 1) := by decide +kernel
theorem dX0_end_63 : decode cX0_end 63 = .ok (.isub, 1) := by decide +kernel
theorem dX0_end_64 : decode cX0_end 64 = .ok (.invokevirtual 56, 3) := by decide +kernel
theorem dX0_end_67 : decode cX0_end 67 = .ok (.return_, 1) := by decide +kernel
theorem dX0_putElement_0 : decode cX0_putElement 0 = .ok (.iload_n 1, 1) := by decide +kernel
theorem dX0_putElement_1 : decode cX0_putElement 1 = .ok (.invokestatic 64, 3) := by decide +kernel
theorem dX0_putElement_4 : decode cX0_putElement 4 = .ok (.ifCond .eq 7, 3) := by decide +kernel
theorem dX0_putElement_7 : decode cX0_putElement 7 = .ok (.aload_n 0, 1) := by decide +kernel
theorem dX0_putElement_8 : decode cX0_putElement 8 = .ok (.invokevirtual 67, 3) := by decide +kernel
theorem dX0_putElement_11 : decode cX0_putElement 11 = .ok (.aload_n 0, 1) := by decide +kernel
theorem dX0_putElement_12 : decode cX0_putElement 12 = .ok (.getfield 22, 3) := by decide +kernel
theorem dX0_putElement_15 : decode cX0_putElement 15 = .ok (.invokevirtual 60, 3) := by decide +kernel
theorem dX0_putElement_18 : decode cX0_putElement 18 = .ok (.istore_n 2, 1) := by decide +kernel
theorem dX0_putElement_19 : decode cX0_putElement 19 = .ok (.iload_n 2, 1) := by decide +kernel
theorem dX0_putElement_20 : decode cX0_putElement 20 = .ok (.ifCond .ne 8, 3) := by decide +kernel
theorem dX0_putElement_23 : decode cX0_putElement 23 = .ok (.aload_n 0, 1) := by decide +kernel
theorem dX0_putElement_24 : decode cX0_putElement 24 = .ok (.iload_n 1, 1) := by decide +kernel
theorem dX0_putElement_25 : decode cX0_putElement 25 = .ok (.invokevirtual 70, 3) := by decide +kernel
theorem dX0_putElement_28 : decode cX0_putElement 28 = .ok (.iload_n 2, 1) := by decide +kernel
theorem dX0_putElement_29 : decode cX0_putElement 29 = .ok (.ifCond .ne 10, 3) := by decide +kernel
theorem dX0_putElement_32 : decode cX0_putElement 32 = .ok (.iload_n 1, 1) := by decide +kernel
theorem dX0_putElement_33 : decode cX0_putElement 33 = .ok (.invokestatic 73, 3) := by decide +kernel
theorem dX0_putElement_36 : decode cX0_putElement 36 = .ok (.ifCond .ne 7, 3) := by decide +kernel
theorem dX0_putElement_39 : decode cX0_putElement 39 = .ok (.iconst 1, 1) := by decide +kernel
theorem dX0_putElement_40 : decode cX0_putElement 40 = .ok (.goto 4, 3) := by decide +kernel
theorem dX0_putElement_43 : decode cX0_putElement 43 = .ok (.iconst 0, 1) := by decide +kernel
theorem dX0_putElement_44 : decode cX0_putElement 44 = .ok (.istore_n 3, 1) := by decide +kernel
theorem dX0_putElement_45 : decode cX0_putElement 45 = .ok (.iload_n 3, 1) := by decide +kernel
theorem dX0_putElement_46 : decode cX0_putElement 46 = .ok (.ifCond .eq 15, 3) := by decide +kernel
theorem dX0_putElement_49 : decode cX0_putElement 49 = .ok (.aload_n 0, 1) := by decide +kernel
theorem dX0_putElement_50 : decode cX0_putElement 50 = .ok (.getfield 22, 3) := by decide +kernel
theorem dX0_putElement_53 : decode cX0_putElement 53 = .ok (.invokevirtual 76, 3) := by decide +kernel
theorem dX0_putElement_56 : decode cX0_putElement 56 = .ok (.ifCond .eq 5, 3) := by decide +kernel
theorem dX0_putElement_59 : decode cX0_putElement 59 = .ok (.iconst (-1), 1) := by decide +kernel
theorem dX0_putElement_60 : decode cX0_putElement 60 = .ok (.ireturn, 1) := by decide +kernel
theorem dX0_putElement_61 : decode cX0_putElement 61 = .ok (.iload_n 2, 1) := by decide +kernel
theorem dX0_putElement_62 : decode cX0_putElement 62 = .ok (.ifCond .ne 9, 3) := by decide +kernel
theorem dX0_putElement_65 : decode cX0_putElement 65 = .ok (.iload_n 1, 1) := by decide +kernel
theorem dX0_putElement_66 : decode cX0_putElement 66 = .ok (.bipush 21, 2) := by decide +kernel
theorem dX0_putElement_68 : decode cX0_putElement 68 = .ok (.if_icmp .ne 7, 3) := by decide +kernel
theorem dX0_putElement_71 : decode cX0_putElement 71 = .ok (.iconst 1, 1) := by decide +kernel
theorem dX0_putElement_72 : decode cX0_putElement 72 = .ok (.goto 4, 3) := by decide +kernel
theorem dX0_putElement_75 : decode cX0_putElement 75 = .ok (.iconst 0, 1) := by decide +kernel
theorem dX0_putElement_76 : decode cX0_putElement 76 = .ok (.istore 4, 2) := by decide +kernel
theorem dX0_putElement_78 : decode cX0_putElement 78 = .ok (.aload_n 0, 1) := by decide +kernel
theorem dX0_putElement_79 : decode cX0_putElement 79 = .ok (.getfield 15, 3) := by decide +kernel
theorem dX0_putElement_82 : decode cX0_putElement 82 = .ok (.iload_n 1, 1) := by decide +kernel
theorem dX0_putElement_83 : decode cX0_putElement 83 = .ok (.aload_n 0, 1) := by decide +kernel
theorem dX0_putElement_84 : decode cX0_putElement 84 = .ok (.invokevirtual 79, 3) := by decide +kernel
theorem dX0_putElement_87 : decode cX0_putElement 87 = .ok (.iload 4, 2) := by decide +kernel
theorem dX0_putElement_89 : decode cX0_putElement 89 = .ok (.invokevirtual 82, 3) := by decide +kernel
theorem dX0_putElement_92 : decode cX0_putElement 92 = .ok (.istore 5, 2) := by decide +kernel
theorem dX0_putElement_94 : decode cX0_putElement 94 = .ok (.iload_n 3, 1) := by decide +kernel
theorem dX0_putElement_95 : decode cX0_putElement 95 = .ok (.ifCond .eq 13, 3) := by decide +kernel
theorem dX0_putElement_98 : decode cX0_putElement 98 = .ok (.aload_n 0, 1) := by decide +kernel
theorem dX0_putElement_99 : decode cX0_putElement 99 = .ok (.getfield 22, 3) := by decide +kernel
theorem dX0_putElement_102 : decode cX0_putElement 102 = .ok (.iload_n 1, 1) := by decide +kernel
theorem dX0_putElement_103 : decode cX0_putElement 103 = .ok (.iload 4, 2) := by decide +kernel
theorem dX0_putElement_105 : decode cX0_putElement 105 = .ok (.invokevirtual 86, 3) := by decide +kernel
theorem dX0_putElement_108 : decode cX0_putElement 108 = .ok (.iload 5, 2) := by decide +kernel
theorem dX0_putElement_110 : decode cX0_putElement 110 = .ok (.ireturn, 1) := by decide +kernel
theorem dX0_leaveAliens_0 : decode cX0_leaveAliens 0 = .ok (.iconst 0, 1) := by decide +kernel
theorem dX0_leaveAliens_1 : decode cX0_leaveAliens 1 = .ok (.istore_n 1, 1) := by decide +kernel
theorem dX0_leaveAliens_2 : decode cX0_leaveAliens 2 = .ok (.iload_n 1, 1) := by decide +kernel
theorem dX0_leaveAliens_3 : decode cX0_leaveAliens 3 = .ok (.bipush 8, 2) := by decide +kernel
theorem dX0_leaveAliens_5 : decode cX0_leaveAliens 5 = .ok (.if_icmp .ge 35, 3) := by decide +kernel
theorem dX0_leaveAliens_8 : decode cX0_leaveAliens 8 = .ok (.aload_n 0, 1) := by decide +kernel
theorem dX0_leaveAliens_9 : decode cX0_leaveAliens 9 = .ok (.getfield 22, 3) := by decide +kernel
theorem dX0_leaveAliens_12 : decode cX0_leaveAliens 12 = .ok (.invokevirtual 60, 3) := by decide +kernel
theorem dX0_leaveAliens_15 : decode cX0_leaveAliens 15 = .ok (.ifCond .eq 25, 3) := by decide +kernel
theorem dX0_leaveAliens_18 : decode cX0_leaveAliens 18 = .ok (.aload_n 0, 1) := by decide +kernel
theorem dX0_leaveAliens_19 : decode cX0_leaveAliens 19 = .ok (.getfield 22, 3) := by decide +kernel
theorem dX0_leaveAliens_22 : decode cX0_leaveAliens 22 = .ok (.aload_n 0, 1) := by decide +kernel
theorem dX0_leaveAliens_23 : decode cX0_leaveAliens 23 = .ok (.getfield 22, 3) := by decide +kernel
theorem dX0_leaveAliens_26 : decode cX0_leaveAliens 26 = .ok (.invokevirtual 32, 3) := by decide +kernel
theorem dX0_leaveAliens_29 : decode cX0_leaveAliens 29 = .ok (.iconst 1, 1) := by decide +kernel
theorem dX0_leaveAliens_30 : decode cX0_leaveAliens 30 = .ok (.isub, 1) := by decide +kernel
theorem dX0_leaveAliens_31 : decode cX0_leaveAliens 31 = .ok (.invokevirtual 56, 3) := by decide +kernel
theorem dX0_leaveAliens_34 : decode cX0_leaveAliens 34 = .ok (.iinc 1 1, 3) := by decide +kernel
theorem dX0_leaveAliens_37 : decode cX0_leaveAliens 37 = .ok (.goto (-35), 3) := by decide +kernel
theorem dX0_leaveAliens_40 : decode cX0_leaveAliens 40 = .ok (.return_, 1) := by decide +kernel
theorem dX0_closeBefore_0 : decode cX0_closeBefore 0 = .ok (.iload_n 1, 1) := by decide +kernel
theorem dX0_closeBefore_1 : decode cX0_closeBefore 1 = .ok (.invokestatic 64, 3) := by decide +kernel
theorem dX0_closeBefore_4 : decode cX0_closeBefore 4 = .ok (.ifCond .eq 19, 3) := by decide +kernel
theorem dX0_closeBefore_7 : decode cX0_closeBefore 7 = .ok (.aload_n 0, 1) := by decide +kernel
theorem dX0_closeBefore_8 : decode cX0_closeBefore 8 = .ok (.getfield 22, 3) := by decide +kernel
theorem dX0_closeBefore_11 : decode cX0_closeBefore 11 = .ok (.aload_n 0, 1) := by decide +kernel
theorem dX0_closeBefore_12 : decode cX0_closeBefore 12 = .ok (.getfield 22, 3) := by decide +kernel
theorem dX0_closeBefore_15 : decode cX0_closeBefore 15 = .ok (.bipush 15, 2) := by decide +kernel
theorem dX0_closeBefore_17 : decode cX0_closeBefore 17 = .ok (.invokevirtual 90, 3) := by decide +kernel
theorem dX0_closeBefore_20 : decode cX0_closeBefore 20 = .ok (.invokevirtual 56, 3) := by decide +kernel
theorem dX0_closeBefore_23 : decode cX0_closeBefore 23 = .ok (.iload_n 1, 1) := by decide +kernel
theorem dX0_closeBefore_24 : decode cX0_closeBefore 24 = .ok (.ifCond .ne 18, 3) := by decide +kernel
theorem dX0_closeBefore_27 : decode cX0_closeBefore 27 = .ok (.aload_n 0, 1) := by decide +kernel
theorem dX0_closeBefore_28 : decode cX0_closeBefore 28 = .ok (.getfield 22, 3) := by decide +kernel
theorem dX0_closeBefore_31 : decode cX0_closeBefore 31 = .ok (.aload_n 0, 1) := by decide +kernel
theorem dX0_closeBefore_32 : decode cX0_closeBefore 32 = .ok (.getfield 22, 3) := by decide +kernel
theorem dX0_closeBefore_35 : decode cX0_closeBefore 35 = .ok (.iconst 0, 1) := by decide +kernel
theorem dX0_closeBefore_36 : decode cX0_closeBefore 36 = .ok (.invokevirtual 90, 3) := by decide +kernel
theorem dX0_closeBefore_39 : decode cX0_closeBefore 39 = .ok (.invokevirtual 56, 3) := by decide +kernel
theorem dX0_closeBefore_42 : decode cX0_closeBefore 42 = .ok (.iload_n 1, 1) := by decide +kernel
theorem dX0_closeBefore_43 : decode cX0_closeBefore 43 = .ok (.bipush 11, 2) := by decide +kernel
theorem dX0_closeBefore_45 : decode cX0_closeBefore 45 = .ok (.if_icmp .ne 34, 3) := by decide +kernel
theorem dX0_closeBefore_48 : decode cX0_closeBefore 48 = .ok (.aload_n 0, 1) := by decide +kernel
theorem dX0_closeBefore_49 : decode cX0_closeBefore 49 = .ok (.getfield 22, 3) := by decide +kernel
theorem dX0_closeBefore_52 : decode cX0_closeBefore 52 = .ok (.bipush 11, 2) := by decide +kernel
theorem dX0_closeBefore_54 : decode cX0_closeBefore 54 = .ok (.invokevirtual 90, 3) := by decide +kernel
theorem dX0_closeBefore_57 : decode cX0_closeBefore 57 = .ok (.istore_n 2, 1) := by decide +kernel
theorem dX0_closeBefore_58 : decode cX0_closeBefore 58 = .ok (.iload_n 2, 1) := by decide +kernel
theorem dX0_closeBefore_59 : decode cX0_closeBefore 59 = .ok (.aload_n 0, 1) := by decide +kernel
theorem dX0_closeBefore_60 : decode cX0_closeBefore 60 = .ok (.getfield 22, 3) := by decide +kernel
theorem dX0_closeBefore_63 : decode cX0_closeBefore 63 = .ok (.bipush 20, 2) := by decide +kernel
theorem dX0_closeBefore_65 : decode cX0_closeBefore 65 = .ok (.invokevirtual 90, 3) := by decide +kernel
theorem dX0_closeBefore_68 : decode cX0_closeBefore 68 = .ok (.if_icmp .le 11, 3) := by decide +kernel
theorem dX0_closeBefore_71 : decode cX0_closeBefore 71 = .ok (.aload_n 0, 1) := by decide +kernel
theorem dX0_closeBefore_72 : decode cX0_closeBefore 72 = .ok (.getfield 22, 3) := by decide +kernel
theorem dX0_closeBefore_75 : decode cX0_closeBefore 75 = .ok (.iload_n 2, 1) := by decide +kernel
theorem dX0_closeBefore_76 : decode cX0_closeBefore 76 = .ok (.invokevirtual 56, 3) := by decide +kernel
theorem dX0_closeBefore_79 : decode cX0_closeBefore 79 = .ok (.return_, 1) := by decide +kernel
theorem dX1_init_0 : decode cX1_init 0 = .ok (.aload_n 0, 1) := by decide +kernel
theorem dX1_init_1 : decode cX1_init 1 = .ok (.invokespecial 3, 3) := by decide +kernel
theorem dX1_init_4 : decode cX1_init 4 = .ok (.aload_n 0, 1) := by decide +kernel
theorem dX1_init_5 : decode cX1_init 5 = .ok (.sipush 200, 3) := by decide +kernel
theorem dX1_init_8 : decode cX1_init 8 = .ok (.newarray .char, 2) := by decide +kernel
theorem dX1_init_10 : decode cX1_init 10 = .ok (.putfield 9, 3) := by decide +kernel
theorem dX1_init_13 : decode cX1_init 13 = .ok (.aload_n 0, 1) := by decide +kernel
theorem dX1_init_14 : decode cX1_init 14 = .ok (.iconst 0, 1) := by decide +kernel
theorem dX1_init_15 : decode cX1_init 15 = .ok (.putfield 15, 3) := by decide +kernel
theorem dX1_init_18 : decode cX1_init 18 = .ok (.aload_n 0, 1) := by decide +kernel
theorem dX1_init_19 : decode cX1_init 19 = .ok (.iconst 0, 1) := by decide +kernel
theorem dX1_init_20 : decode cX1_init 20 = .ok (.putfield 19, 3) := by decide +kernel
theorem dX1_init_23 : decode cX1_init 23 = .ok (.return_, 1) := by decide +kernel
theorem dX1_size_0 : decode cX1_size 0 = .ok (.aload_n 0, 1) := by decide +kernel
theorem dX1_size_1 : decode cX1_size 1 = .ok (.getfield 15, 3) := by decide +kernel
theorem dX1_size_4 : decode cX1_size 4 = .ok (.ireturn, 1) := by decide +kernel
theorem dX1_isOverflowed_0 : decode cX1_isOverflowed 0 = .ok (.aload_n 0, 1) := by decide +kernel
theorem dX1_isOverflowed_1 : decode cX1_isOverflowed 1 = .ok (.getfield 19, 3) := by decide +kernel
theorem dX1_isOverflowed_4 : decode cX1_isOverflowed 4 = .ok (.ireturn, 1) := by decide +kernel
theorem dX1_empty_0 : decode cX1_empty 0 = .ok (.aload_n 0, 1) := by decide +kernel
theorem dX1_empty_1 : decode cX1_empty 1 = .ok (.iconst 0, 1) := by decide +kernel
theorem dX1_empty_2 : decode cX1_empty 2 = .ok (.putfield 15, 3) := by decide +kernel
theorem dX1_empty_5 : decode cX1_empty 5 = .ok (.aload_n 0, 1) := by decide +kernel
theorem dX1_empty_6 : decode cX1_empty 6 = .ok (.iconst 0, 1) := by decide +kernel
theorem dX1_empty_7 : decode cX1_empty 7 = .ok (.putfield 19, 3) := by decide +kernel
theorem dX1_empty_10 : decode cX1_empty 10 = .ok (.return_, 1) := by decide +kernel
theorem dX1_at_0 : decode cX1_at 0 = .ok (.iload_n 1, 1) := by decide +kernel
theorem dX1_at_1 : decode cX1_at 1 = .ok (.ifCond .lt 20, 3) := by decide +kernel
theorem dX1_at_4 : decode cX1_at 4 = .ok (.iload_n 1, 1) := by decide +kernel
theorem dX1_at_5 : decode cX1_at 5 = .ok (.aload_n 0, 1) := by decide +kernel
theorem dX1_at_6 : decode cX1_at 6 = .ok (.getfield 15, 3) := by decide +kernel
theorem dX1_at_9 : decode cX1_at 9 = .ok (.if_icmp .ge 12, 3) := by decide +kernel
theorem dX1_at_12 : decode cX1_at 12 = .ok (.aload_n 0, 1) := by decide +kernel
theorem dX1_at_13 : decode cX1_at 13 = .ok (.getfield 9, 3) := by decide +kernel
theorem dX1_at_16 : decode cX1_at 16 = .ok (.iload_n 1, 1) := by decide +kernel
theorem dX1_at_17 : decode cX1_at 17 = .ok (.caload, 1) := by decide +kernel
theorem dX1_at_18 : decode cX1_at 18 = .ok (.goto 4, 3) := by decide +kernel
theorem dX1_at_21 : decode cX1_at 21 = .ok (.iconst 0, 1) := by decide +kernel
theorem dX1_at_22 : decode cX1_at 22 = .ok (.ireturn, 1) := by decide +kernel
theorem dX1_add_0 : decode cX1_add 0 = .ok (.aload_n 0, 1) := by decide +kernel
theorem dX1_add_1 : decode cX1_add 1 = .ok (.getfield 15, 3) := by decide +kernel
theorem dX1_add_4 : decode cX1_add 4 = .ok (.sipush 200, 3) := by decide +kernel
theorem dX1_add_7 : decode cX1_add 7 = .ok (.if_icmp .lt 9, 3) := by decide +kernel
theorem dX1_add_10 : decode cX1_add 10 = .ok (.aload_n 0, 1) := by decide +kernel
theorem dX1_add_11 : decode cX1_add 11 = .ok (.iconst 1, 1) := by decide +kernel
theorem dX1_add_12 : decode cX1_add 12 = .ok (.putfield 19, 3) := by decide +kernel
theorem dX1_add_15 : decode cX1_add 15 = .ok (.return_, 1) := by decide +kernel
theorem dX1_add_16 : decode cX1_add 16 = .ok (.aload_n 0, 1) := by decide +kernel
theorem dX1_add_17 : decode cX1_add 17 = .ok (.getfield 9, 3) := by decide +kernel
theorem dX1_add_20 : decode cX1_add 20 = .ok (.aload_n 0, 1) := by decide +kernel
theorem dX1_add_21 : decode cX1_add 21 = .ok (.getfield 15, 3) := by decide +kernel
theorem dX1_add_24 : decode cX1_add 24 = .ok (.iload_n 1, 1) := by decide +kernel
theorem dX1_add_25 : decode cX1_add 25 = .ok (.castore, 1) := by decide +kernel
theorem dX1_add_26 : decode cX1_add 26 = .ok (.aload_n 0, 1) := by decide +kernel
theorem dX1_add_27 : decode cX1_add 27 = .ok (.dup, 1) := by decide +kernel
theorem dX1_add_28 : decode cX1_add 28 = .ok (.getfield 15, 3) := by decide +kernel
theorem dX1_add_31 : decode cX1_add 31 = .ok (.iconst 1, 1) := by decide +kernel
theorem dX1_add_32 : decode cX1_add 32 = .ok (.iadd, 1) := by decide +kernel
theorem dX1_add_33 : decode cX1_add 33 = .ok (.putfield 15, 3) := by decide +kernel
theorem dX1_add_36 : decode cX1_add 36 = .ok (.return_, 1) := by decide +kernel
theorem dX1_addWord_0 : decode cX1_addWord 0 = .ok (.iconst 0, 1) := by decide +kernel
theorem dX1_addWord_1 : decode cX1_addWord 1 = .ok (.istore_n 2, 1) := by decide +kernel
theorem dX1_addWord_2 : decode cX1_addWord 2 = .ok (.iload_n 2, 1) := by decide +kernel
theorem dX1_addWord_3 : decode cX1_addWord 3 = .ok (.aload_n 1, 1) := by decide +kernel
theorem dX1_addWord_4 : decode cX1_addWord 4 = .ok (.invokevirtual 23, 3) := by decide +kernel
theorem dX1_addWord_7 : decode cX1_addWord 7 = .ok (.if_icmp .ge 18, 3) := by decide +kernel
theorem dX1_addWord_10 : decode cX1_addWord 10 = .ok (.aload_n 0, 1) := by decide +kernel
theorem dX1_addWord_11 : decode cX1_addWord 11 = .ok (.aload_n 1, 1) := by decide +kernel
theorem dX1_addWord_12 : decode cX1_addWord 12 = .ok (.iload_n 2, 1) := by decide +kernel
theorem dX1_addWord_13 : decode cX1_addWord 13 = .ok (.invokevirtual 29, 3) := by decide +kernel
theorem dX1_addWord_16 : decode cX1_addWord 16 = .ok (.invokevirtual 33, 3) := by decide +kernel
theorem dX1_addWord_19 : decode cX1_addWord 19 = .ok (.iinc 2 1, 3) := by decide +kernel
theorem dX1_addWord_22 : decode cX1_addWord 22 = .ok (.goto (-20), 3) := by decide +kernel
theorem dX1_addWord_25 : decode cX1_addWord 25 = .ok (.return_, 1) := by decide +kernel
theorem dX1_has_0 : decode cX1_has 0 = .ok (.iconst 0, 1) := by decide +kernel
theorem dX1_has_1 : decode cX1_has 1 = .ok (.istore_n 3, 1) := by decide +kernel
theorem dX1_has_2 : decode cX1_has 2 = .ok (.iload_n 3, 1) := by decide +kernel
theorem dX1_has_3 : decode cX1_has 3 = .ok (.aload_n 2, 1) := by decide +kernel
theorem dX1_has_4 : decode cX1_has 4 = .ok (.invokevirtual 23, 3) := by decide +kernel
theorem dX1_has_7 : decode cX1_has 7 = .ok (.if_icmp .ge 26, 3) := by decide +kernel
theorem dX1_has_10 : decode cX1_has 10 = .ok (.aload_n 0, 1) := by decide +kernel
theorem dX1_has_11 : decode cX1_has 11 = .ok (.iload_n 1, 1) := by decide +kernel
theorem dX1_has_12 : decode cX1_has 12 = .ok (.iload_n 3, 1) := by decide +kernel
theorem dX1_has_13 : decode cX1_has 13 = .ok (.iadd, 1) := by decide +kernel
theorem dX1_has_14 : decode cX1_has 14 = .ok (.invokevirtual 37, 3) := by decide +kernel
theorem dX1_has_17 : decode cX1_has 17 = .ok (.aload_n 2, 1) := by decide +kernel
theorem dX1_has_18 : decode cX1_has 18 = .ok (.iload_n 3, 1) := by decide +kernel
theorem dX1_has_19 : decode cX1_has 19 = .ok (.invokevirtual 29, 3) := by decide +kernel
theorem dX1_has_22 : decode cX1_has 22 = .ok (.if_icmp .eq 5, 3) := by decide +kernel
theorem dX1_has_25 : decode cX1_has 25 = .ok (.iconst 0, 1) := by decide +kernel
theorem dX1_has_26 : decode cX1_has 26 = .ok (.ireturn, 1) := by decide +kernel
theorem dX1_has_27 : decode cX1_has 27 = .ok (.iinc 3 1, 3) := by decide +kernel
theorem dX1_has_30 : decode cX1_has 30 = .ok (.goto (-28), 3) := by decide +kernel
theorem dX1_has_33 : decode cX1_has 33 = .ok (.iconst 1, 1) := by decide +kernel
theorem dX1_has_34 : decode cX1_has 34 = .ok (.ireturn, 1) := by decide +kernel
theorem dX1_isSame_0 : decode cX1_isSame 0 = .ok (.aload_n 0, 1) := by decide +kernel
theorem dX1_isSame_1 : decode cX1_isSame 1 = .ok (.getfield 15, 3) := by decide +kernel
theorem dX1_isSame_4 : decode cX1_isSame 4 = .ok (.aload_n 1, 1) := by decide +kernel
theorem dX1_isSame_5 : decode cX1_isSame 5 = .ok (.getfield 15, 3) := by decide +kernel
theorem dX1_isSame_8 : decode cX1_isSame 8 = .ok (.if_icmp .eq 5, 3) := by decide +kernel
theorem dX1_isSame_11 : decode cX1_isSame 11 = .ok (.iconst 0, 1) := by decide +kernel
theorem dX1_isSame_12 : decode cX1_isSame 12 = .ok (.ireturn, 1) := by decide +kernel
theorem dX1_isSame_13 : decode cX1_isSame 13 = .ok (.iconst 0, 1) := by decide +kernel
theorem dX1_isSame_14 : decode cX1_isSame 14 = .ok (.istore_n 2, 1) := by decide +kernel
theorem dX1_isSame_15 : decode cX1_isSame 15 = .ok (.iload_n 2, 1) := by decide +kernel
theorem dX1_isSame_16 : decode cX1_isSame 16 = .ok (.aload_n 0, 1) := by decide +kernel
theorem dX1_isSame_17 : decode cX1_isSame 17 = .ok (.getfield 15, 3) := by decide +kernel
theorem dX1_isSame_20 : decode cX1_isSame 20 = .ok (.if_icmp .ge 24, 3) := by decide +kernel
theorem dX1_isSame_23 : decode cX1_isSame 23 = .ok (.aload_n 0, 1) := by decide +kernel
theorem dX1_isSame_24 : decode cX1_isSame 24 = .ok (.iload_n 2, 1) := by decide +kernel
theorem dX1_isSame_25 : decode cX1_isSame 25 = .ok (.invokevirtual 37, 3) := by decide +kernel
theorem dX1_isSame_28 : decode cX1_isSame 28 = .ok (.aload_n 1, 1) := by decide +kernel
theorem dX1_isSame_29 : decode cX1_isSame 29 = .ok (.iload_n 2, 1) := by decide +kernel
theorem dX1_isSame_30 : decode cX1_isSame 30 = .ok (.invokevirtual 37, 3) := by decide +kernel
theorem dX1_isSame_33 : decode cX1_isSame 33 = .ok (.if_icmp .eq 5, 3) := by decide +kernel
theorem dX1_isSame_36 : decode cX1_isSame 36 = .ok (.iconst 0, 1) := by decide +kernel
theorem dX1_isSame_37 : decode cX1_isSame 37 = .ok (.ireturn, 1) := by decide +kernel
theorem dX1_isSame_38 : decode cX1_isSame 38 = .ok (.iinc 2 1, 3) := by decide +kernel
theorem dX1_isSame_41 : decode cX1_isSame 41 = .ok (.goto (-26), 3) := by decide +kernel
theorem dX1_isSame_44 : decode cX1_isSame 44 = .ok (.iconst 1, 1) := by decide +kernel
theorem dX1_isSame_45 : decode cX1_isSame 45 = .ok (.ireturn, 1) := by decide +kernel
theorem dX1_copy_0 : decode cX1_copy 0 = .ok (.aload_n 0, 1) := by decide +kernel
theorem dX1_copy_1 : decode cX1_copy 1 = .ok (.invokevirtual 40, 3) := by decide +kernel
theorem dX1_copy_4 : decode cX1_copy 4 = .ok (.aload_n 0, 1) := by decide +kernel
theorem dX1_copy_5 : decode cX1_copy 5 = .ok (.aload_n 1, 1) := by decide +kernel
theorem dX1_copy_6 : decode cX1_copy 6 = .ok (.iconst 0, 1) := by decide +kernel
theorem dX1_copy_7 : decode cX1_copy 7 = .ok (.aload_n 1, 1) := by decide +kernel
theorem dX1_copy_8 : decode cX1_copy 8 = .ok (.getfield 15, 3) := by decide +kernel
theorem dX1_copy_11 : decode cX1_copy 11 = .ok (.invokevirtual 43, 3) := by decide +kernel
theorem dX1_copy_14 : decode cX1_copy 14 = .ok (.return_, 1) := by decide +kernel
theorem dX1_addPiece_0 : decode cX1_addPiece 0 = .ok (.iload_n 2, 1) := by decide +kernel
theorem dX1_addPiece_1 : decode cX1_addPiece 1 = .ok (.istore 4, 2) := by decide +kernel
theorem dX1_addPiece_3 : decode cX1_addPiece 3 = .ok (.iload 4, 2) := by decide +kernel
theorem dX1_addPiece_5 : decode cX1_addPiece 5 = .ok (.iload_n 3, 1) := by decide +kernel
theorem dX1_addPiece_6 : decode cX1_addPiece 6 = .ok (.if_icmp .ge 19, 3) := by decide +kernel
theorem dX1_addPiece_9 : decode cX1_addPiece 9 = .ok (.aload_n 0, 1) := by decide +kernel
theorem dX1_addPiece_10 : decode cX1_addPiece 10 = .ok (.aload_n 1, 1) := by decide +kernel
theorem dX1_addPiece_11 : decode cX1_addPiece 11 = .ok (.iload 4, 2) := by decide +kernel
theorem dX1_addPiece_13 : decode cX1_addPiece 13 = .ok (.invokevirtual 37, 3) := by decide +kernel
theorem dX1_addPiece_16 : decode cX1_addPiece 16 = .ok (.invokevirtual 33, 3) := by decide +kernel
theorem dX1_addPiece_19 : decode cX1_addPiece 19 = .ok (.iinc 4 1, 3) := by decide +kernel
theorem dX1_addPiece_22 : decode cX1_addPiece 22 = .ok (.goto (-19), 3) := by decide +kernel
theorem dX1_addPiece_25 : decode cX1_addPiece 25 = .ok (.return_, 1) := by decide +kernel
theorem dX1_addResolved_0 : decode cX1_addResolved 0 = .ok (.iload_n 2, 1) := by decide +kernel
theorem dX1_addResolved_1 : decode cX1_addResolved 1 = .ok (.istore 4, 2) := by decide +kernel
theorem dX1_addResolved_3 : decode cX1_addResolved 3 = .ok (.iload 4, 2) := by decide +kernel
theorem dX1_addResolved_5 : decode cX1_addResolved 5 = .ok (.iload_n 3, 1) := by decide +kernel
theorem dX1_addResolved_6 : decode cX1_addResolved 6 = .ok (.if_icmp .ge 81, 3) := by decide +kernel
theorem dX1_addResolved_9 : decode cX1_addResolved 9 = .ok (.aload_n 1, 1) := by decide +kernel
theorem dX1_addResolved_10 : decode cX1_addResolved 10 = .ok (.iload 4, 2) := by decide +kernel
theorem dX1_addResolved_12 : decode cX1_addResolved 12 = .ok (.invokestatic 47, 3) := by decide +kernel
theorem dX1_addResolved_15 : decode cX1_addResolved 15 = .ok (.istore 5, 2) := by decide +kernel
theorem dX1_addResolved_17 : decode cX1_addResolved 17 = .ok (.iload 5, 2) := by decide +kernel
theorem dX1_addResolved_19 : decode cX1_addResolved 19 = .ok (.invokestatic 53, 3) := by decide +kernel
theorem dX1_addResolved_22 : decode cX1_addResolved 22 = .ok (.istore 6, 2) := by decide +kernel
theorem dX1_addResolved_24 : decode cX1_addResolved 24 = .ok (.iload 6, 2) := by decide +kernel
theorem dX1_addResolved_26 : decode cX1_addResolved 26 = .ok (.ifCond .le 16, 3) := by decide +kernel
theorem dX1_addResolved_29 : decode cX1_addResolved 29 = .ok (.iload 4, 2) := by decide +kernel
theorem dX1_addResolved_31 : decode cX1_addResolved 31 = .ok (.iload 6, 2) := by decide +kernel
theorem dX1_addResolved_33 : decode cX1_addResolved 33 = .ok (.iadd, 1) := by decide +kernel
theorem dX1_addResolved_34 : decode cX1_addResolved 34 = .ok (.iload_n 3, 1) := by decide +kernel
theorem dX1_addResolved_35 : decode cX1_addResolved 35 = .ok (.if_icmp .gt 7, 3) := by decide +kernel
theorem dX1_addResolved_38 : decode cX1_addResolved 38 = .ok (.iconst 1, 1) := by decide +kernel
theorem dX1_addResolved_39 : decode cX1_addResolved 39 = .ok (.goto 4, 3) := by decide +kernel
theorem dX1_addResolved_42 : decode cX1_addResolved 42 = .ok (.iconst 0, 1) := by decide +kernel
theorem dX1_addResolved_43 : decode cX1_addResolved 43 = .ok (.istore 7, 2) := by decide +kernel
theorem dX1_addResolved_45 : decode cX1_addResolved 45 = .ok (.aload_n 0, 1) := by decide +kernel
theorem dX1_addResolved_46 : decode cX1_addResolved 46 = .ok (.iload 7, 2) := by decide +kernel
theorem dX1_addResolved_48 : decode cX1_addResolved 48 = .ok (.ifCond .eq 11, 3) := by decide +kernel
theorem dX1_addResolved_51 : decode cX1_addResolved 51 = .ok (.iload 5, 2) := by decide +kernel
theorem dX1_addResolved_53 : decode cX1_addResolved 53 = .ok (.invokestatic 57, 3) := by decide +kernel
theorem dX1_addResolved_56 : decode cX1_addResolved 56 = .ok (.goto 9, 3) := by decide +kernel
theorem dX1_addResolved_59 : decode cX1_addResolved 59 = .ok (.aload_n 1, 1) := by decide +kernel
theorem dX1_addResolved_60 : decode cX1_addResolved 60 = .ok (.iload 4, 2) := by decide +kernel
theorem dX1_addResolved_62 : decode cX1_addResolved 62 = .ok (.invokevirtual 37, 3) := by decide +kernel
theorem dX1_addResolved_65 : decode cX1_addResolved 65 = .ok (.invokevirtual 33, 3) := by decide +kernel
theorem dX1_addResolved_68 : decode cX1_addResolved 68 = .ok (.iload 4, 2) := by decide +kernel
theorem dX1_addResolved_70 : decode cX1_addResolved 70 = .ok (.iload 7, 2) := by decide +kernel
theorem dX1_addResolved_72 : decode cX1_addResolved 72 = .ok (.ifCond .eq 8, 3) := by decide +kernel
theorem dX1_addResolved_75 : decode cX1_addResolved 75 = .ok (.iload 6, 2) := by decide +kernel
theorem dX1_addResolved_77 : decode cX1_addResolved 77 = .ok (.goto 4, 3) := by decide +kernel
theorem dX1_addResolved_80 : decode cX1_addResolved 80 = .ok (.iconst 1, 1) := by decide +kernel
theorem dX1_addResolved_81 : decode cX1_addResolved 81 = .ok (.iadd, 1) := by decide +kernel
theorem dX1_addResolved_82 : decode cX1_addResolved 82 = .ok (.istore 4, 2) := by decide +kernel
theorem dX1_addResolved_84 : decode cX1_addResolved 84 = .ok (.goto (-81), 3) := by decide +kernel
theorem dX1_addResolved_87 : decode cX1_addResolved 87 = .ok (.return_, 1) := by decide +kernel
theorem dX1_eight_0 : decode cX1_eight 0 = .ok (.iload_n 3, 1) := by decide +kernel
theorem dX1_eight_1 : decode cX1_eight 1 = .ok (.ifCond .lt 9, 3) := by decide +kernel
theorem dX1_eight_4 : decode cX1_eight 4 = .ok (.iload_n 3, 1) := by decide +kernel
theorem dX1_eight_5 : decode cX1_eight 5 = .ok (.bipush 25, 2) := by decide +kernel
theorem dX1_eight_7 : decode cX1_eight 7 = .ok (.if_icmp .le 5, 3) := by decide +kernel
theorem dX1_eight_10 : decode cX1_eight 10 = .ok (.lconst 0, 1) := by decide +kernel
theorem dX1_eight_11 : decode cX1_eight 11 = .ok (.lreturn, 1) := by decide +kernel
theorem dX1_eight_12 : decode cX1_eight 12 = .ok (.lconst 0, 1) := by decide +kernel
theorem dX1_eight_13 : decode cX1_eight 13 = .ok (.lstore 4, 2) := by decide +kernel
theorem dX1_eight_15 : decode cX1_eight 15 = .ok (.iconst 0, 1) := by decide +kernel
theorem dX1_eight_16 : decode cX1_eight 16 = .ok (.istore 6, 2) := by decide +kernel
theorem dX1_eight_18 : decode cX1_eight 18 = .ok (.iload 6, 2) := by decide +kernel
theorem dX1_eight_20 : decode cX1_eight 20 = .ok (.bipush 8, 2) := by decide +kernel
theorem dX1_eight_22 : decode cX1_eight 22 = .ok (.if_icmp .ge 44, 3) := by decide +kernel
theorem dX1_eight_25 : decode cX1_eight 25 = .ok (.iload_n 1, 1) := by decide +kernel
theorem dX1_eight_26 : decode cX1_eight 26 = .ok (.bipush 8, 2) := by decide +kernel
theorem dX1_eight_28 : decode cX1_eight 28 = .ok (.iload_n 3, 1) := by decide +kernel
theorem dX1_eight_29 : decode cX1_eight 29 = .ok (.imul, 1) := by decide +kernel
theorem dX1_eight_30 : decode cX1_eight 30 = .ok (.iadd, 1) := by decide +kernel
theorem dX1_eight_31 : decode cX1_eight 31 = .ok (.iload 6, 2) := by decide +kernel
theorem dX1_eight_33 : decode cX1_eight 33 = .ok (.iadd, 1) := by decide +kernel
theorem dX1_eight_34 : decode cX1_eight 34 = .ok (.istore 7, 2) := by decide +kernel
theorem dX1_eight_36 : decode cX1_eight 36 = .ok (.iload 7, 2) := by decide +kernel
theorem dX1_eight_38 : decode cX1_eight 38 = .ok (.iload_n 2, 1) := by decide +kernel
theorem dX1_eight_39 : decode cX1_eight 39 = .ok (.if_icmp .ge 21, 3) := by decide +kernel
theorem dX1_eight_42 : decode cX1_eight 42 = .ok (.lload 4, 2) := by decide +kernel
theorem dX1_eight_44 : decode cX1_eight 44 = .ok (.aload_n 0, 1) := by decide +kernel
theorem dX1_eight_45 : decode cX1_eight 45 = .ok (.iload 7, 2) := by decide +kernel
theorem dX1_eight_47 : decode cX1_eight 47 = .ok (.invokevirtual 37, 3) := by decide +kernel
theorem dX1_eight_50 : decode cX1_eight 50 = .ok (.i2l, 1) := by decide +kernel
theorem dX1_eight_51 : decode cX1_eight 51 = .ok (.bipush 8, 2) := by decide +kernel
theorem dX1_eight_53 : decode cX1_eight 53 = .ok (.iload 6, 2) := by decide +kernel
theorem dX1_eight_55 : decode cX1_eight 55 = .ok (.imul, 1) := by decide +kernel
theorem dX1_eight_56 : decode cX1_eight 56 = .ok (.lshl, 1) := by decide +kernel
theorem dX1_eight_57 : decode cX1_eight 57 = .ok (.lor, 1) := by decide +kernel
theorem dX1_eight_58 : decode cX1_eight 58 = .ok (.lstore 4, 2) := by decide +kernel
theorem dX1_eight_60 : decode cX1_eight 60 = .ok (.iinc 6 1, 3) := by decide +kernel
theorem dX1_eight_63 : decode cX1_eight 63 = .ok (.goto (-45), 3) := by decide +kernel
theorem dX1_eight_66 : decode cX1_eight 66 = .ok (.lload 4, 2) := by decide +kernel
theorem dX1_eight_68 : decode cX1_eight 68 = .ok (.lreturn, 1) := by decide +kernel
theorem dX2_init_0 : decode cX2_init 0 = .ok (.aload_n 0, 1) := by decide +kernel
theorem dX2_init_1 : decode cX2_init 1 = .ok (.invokespecial 3, 3) := by decide +kernel
theorem dX2_init_4 : decode cX2_init 4 = .ok (.aload_n 0, 1) := by decide +kernel
theorem dX2_init_5 : decode cX2_init 5 = .ok (.bipush 8, 2) := by decide +kernel
theorem dX2_init_7 : decode cX2_init 7 = .ok (.newarray .int, 2) := by decide +kernel
theorem dX2_init_9 : decode cX2_init 9 = .ok (.putfield 9, 3) := by decide +kernel
theorem dX2_init_12 : decode cX2_init 12 = .ok (.aload_n 0, 1) := by decide +kernel
theorem dX2_init_13 : decode cX2_init 13 = .ok (.bipush 8, 2) := by decide +kernel
theorem dX2_init_15 : decode cX2_init 15 = .ok (.newarray .boolean, 2) := by decide +kernel
theorem dX2_init_17 : decode cX2_init 17 = .ok (.putfield 15, 3) := by decide +kernel
theorem dX2_init_20 : decode cX2_init 20 = .ok (.aload_n 0, 1) := by decide +kernel
theorem dX2_init_21 : decode cX2_init 21 = .ok (.iconst 0, 1) := by decide +kernel
theorem dX2_init_22 : decode cX2_init 22 = .ok (.putfield 19, 3) := by decide +kernel
theorem dX2_init_25 : decode cX2_init 25 = .ok (.return_, 1) := by decide +kernel
theorem dX2_size_0 : decode cX2_size 0 = .ok (.aload_n 0, 1) := by decide +kernel
theorem dX2_size_1 : decode cX2_size 1 = .ok (.getfield 19, 3) := by decide +kernel
theorem dX2_size_4 : decode cX2_size 4 = .ok (.ireturn, 1) := by decide +kernel
theorem dX2_empty_0 : decode cX2_empty 0 = .ok (.aload_n 0, 1) := by decide +kernel
theorem dX2_empty_1 : decode cX2_empty 1 = .ok (.iconst 0, 1) := by decide +kernel
theorem dX2_empty_2 : decode cX2_empty 2 = .ok (.putfield 19, 3) := by decide +kernel
theorem dX2_empty_5 : decode cX2_empty 5 = .ok (.return_, 1) := by decide +kernel
theorem dX2_isFull_0 : decode cX2_isFull 0 = .ok (.aload_n 0, 1) := by decide +kernel
theorem dX2_isFull_1 : decode cX2_isFull 1 = .ok (.getfield 19, 3) := by decide +kernel
theorem dX2_isFull_4 : decode cX2_isFull 4 = .ok (.bipush 8, 2) := by decide +kernel
theorem dX2_isFull_6 : decode cX2_isFull 6 = .ok (.if_icmp .lt 7, 3) := by decide +kernel
theorem dX2_isFull_9 : decode cX2_isFull 9 = .ok (.iconst 1, 1) := by decide +kernel
theorem dX2_isFull_10 : decode cX2_isFull 10 = .ok (.goto 4, 3) := by decide +kernel
theorem dX2_isFull_13 : decode cX2_isFull 13 = .ok (.iconst 0, 1) := by decide +kernel
theorem dX2_isFull_14 : decode cX2_isFull 14 = .ok (.ireturn, 1) := by decide +kernel
theorem dX2_add_0 : decode cX2_add 0 = .ok (.aload_n 0, 1) := by decide +kernel
theorem dX2_add_1 : decode cX2_add 1 = .ok (.getfield 19, 3) := by decide +kernel
theorem dX2_add_4 : decode cX2_add 4 = .ok (.bipush 8, 2) := by decide +kernel
theorem dX2_add_6 : decode cX2_add 6 = .ok (.if_icmp .ge 33, 3) := by decide +kernel
theorem dX2_add_9 : decode cX2_add 9 = .ok (.aload_n 0, 1) := by decide +kernel
theorem dX2_add_10 : decode cX2_add 10 = .ok (.getfield 9, 3) := by decide +kernel
theorem dX2_add_13 : decode cX2_add 13 = .ok (.aload_n 0, 1) := by decide +kernel
theorem dX2_add_14 : decode cX2_add 14 = .ok (.getfield 19, 3) := by decide +kernel
theorem dX2_add_17 : decode cX2_add 17 = .ok (.iload_n 1, 1) := by decide +kernel
theorem dX2_add_18 : decode cX2_add 18 = .ok (.iastore, 1) := by decide +kernel
theorem dX2_add_19 : decode cX2_add 19 = .ok (.aload_n 0, 1) := by decide +kernel
theorem dX2_add_20 : decode cX2_add 20 = .ok (.getfield 15, 3) := by decide +kernel
theorem dX2_add_23 : decode cX2_add 23 = .ok (.aload_n 0, 1) := by decide +kernel
theorem dX2_add_24 : decode cX2_add 24 = .ok (.getfield 19, 3) := by decide +kernel
theorem dX2_add_27 : decode cX2_add 27 = .ok (.iload_n 2, 1) := by decide +kernel
theorem dX2_add_28 : decode cX2_add 28 = .ok (.bastore, 1) := by decide +kernel
theorem dX2_add_29 : decode cX2_add 29 = .ok (.aload_n 0, 1) := by decide +kernel
theorem dX2_add_30 : decode cX2_add 30 = .ok (.dup, 1) := by decide +kernel
theorem dX2_add_31 : decode cX2_add 31 = .ok (.getfield 19, 3) := by decide +kernel
theorem dX2_add_34 : decode cX2_add 34 = .ok (.iconst 1, 1) := by decide +kernel
theorem dX2_add_35 : decode cX2_add 35 = .ok (.iadd, 1) := by decide +kernel
theorem dX2_add_36 : decode cX2_add 36 = .ok (.putfield 19, 3) := by decide +kernel
theorem dX2_add_39 : decode cX2_add 39 = .ok (.return_, 1) := by decide +kernel
theorem dX2_isAlien_0 : decode cX2_isAlien 0 = .ok (.aload_n 0, 1) := by decide +kernel
theorem dX2_isAlien_1 : decode cX2_isAlien 1 = .ok (.aload_n 0, 1) := by decide +kernel
theorem dX2_isAlien_2 : decode cX2_isAlien 2 = .ok (.getfield 19, 3) := by decide +kernel
theorem dX2_isAlien_5 : decode cX2_isAlien 5 = .ok (.iconst 1, 1) := by decide +kernel
theorem dX2_isAlien_6 : decode cX2_isAlien 6 = .ok (.isub, 1) := by decide +kernel
theorem dX2_isAlien_7 : decode cX2_isAlien 7 = .ok (.invokevirtual 23, 3) := by decide +kernel
theorem dX2_isAlien_10 : decode cX2_isAlien 10 = .ok (.ifCond .eq 21, 3) := by decide +kernel
theorem dX2_isAlien_13 : decode cX2_isAlien 13 = .ok (.aload_n 0, 1) := by decide +kernel
theorem dX2_isAlien_14 : decode cX2_isAlien 14 = .ok (.aload_n 0, 1) := by decide +kernel
theorem dX2_isAlien_15 : decode cX2_isAlien 15 = .ok (.getfield 19, 3) := by decide +kernel
theorem dX2_isAlien_18 : decode cX2_isAlien 18 = .ok (.iconst 1, 1) := by decide +kernel
theorem dX2_isAlien_19 : decode cX2_isAlien 19 = .ok (.isub, 1) := by decide +kernel
theorem dX2_isAlien_20 : decode cX2_isAlien 20 = .ok (.iconst 5, 1) := by decide +kernel
theorem dX2_isAlien_21 : decode cX2_isAlien 21 = .ok (.invokevirtual 27, 3) := by decide +kernel
theorem dX2_isAlien_24 : decode cX2_isAlien 24 = .ok (.ifCond .ne 7, 3) := by decide +kernel
theorem dX2_isAlien_27 : decode cX2_isAlien 27 = .ok (.iconst 1, 1) := by decide +kernel
theorem dX2_isAlien_28 : decode cX2_isAlien 28 = .ok (.goto 4, 3) := by decide +kernel
theorem dX2_isAlien_31 : decode cX2_isAlien 31 = .ok (.iconst 0, 1) := by decide +kernel
theorem dX2_isAlien_32 : decode cX2_isAlien 32 = .ok (.ireturn, 1) := by decide +kernel
theorem dX2_isForeign_0 : decode cX2_isForeign 0 = .ok (.iload_n 1, 1) := by decide +kernel
theorem dX2_isForeign_1 : decode cX2_isForeign 1 = .ok (.ifCond .lt 24, 3) := by decide +kernel
theorem dX2_isForeign_4 : decode cX2_isForeign 4 = .ok (.iload_n 1, 1) := by decide +kernel
theorem dX2_isForeign_5 : decode cX2_isForeign 5 = .ok (.aload_n 0, 1) := by decide +kernel
theorem dX2_isForeign_6 : decode cX2_isForeign 6 = .ok (.getfield 19, 3) := by decide +kernel
theorem dX2_isForeign_9 : decode cX2_isForeign 9 = .ok (.if_icmp .ge 16, 3) := by decide +kernel
theorem dX2_isForeign_12 : decode cX2_isForeign 12 = .ok (.aload_n 0, 1) := by decide +kernel
theorem dX2_isForeign_13 : decode cX2_isForeign 13 = .ok (.getfield 15, 3) := by decide +kernel
theorem dX2_isForeign_16 : decode cX2_isForeign 16 = .ok (.iload_n 1, 1) := by decide +kernel
theorem dX2_isForeign_17 : decode cX2_isForeign 17 = .ok (.baload, 1) := by decide +kernel
theorem dX2_isForeign_18 : decode cX2_isForeign 18 = .ok (.ifCond .eq 7, 3) := by decide +kernel
theorem dX2_isForeign_21 : decode cX2_isForeign 21 = .ok (.iconst 1, 1) := by decide +kernel
theorem dX2_isForeign_22 : decode cX2_isForeign 22 = .ok (.goto 4, 3) := by decide +kernel
theorem dX2_isForeign_25 : decode cX2_isForeign 25 = .ok (.iconst 0, 1) := by decide +kernel
theorem dX2_isForeign_26 : decode cX2_isForeign 26 = .ok (.ireturn, 1) := by decide +kernel
theorem dX2_isNamed_0 : decode cX2_isNamed 0 = .ok (.iload_n 1, 1) := by decide +kernel
theorem dX2_isNamed_1 : decode cX2_isNamed 1 = .ok (.ifCond .lt 25, 3) := by decide +kernel
theorem dX2_isNamed_4 : decode cX2_isNamed 4 = .ok (.iload_n 1, 1) := by decide +kernel
theorem dX2_isNamed_5 : decode cX2_isNamed 5 = .ok (.aload_n 0, 1) := by decide +kernel
theorem dX2_isNamed_6 : decode cX2_isNamed 6 = .ok (.getfield 19, 3) := by decide +kernel
theorem dX2_isNamed_9 : decode cX2_isNamed 9 = .ok (.if_icmp .ge 17, 3) := by decide +kernel
theorem dX2_isNamed_12 : decode cX2_isNamed 12 = .ok (.aload_n 0, 1) := by decide +kernel
theorem dX2_isNamed_13 : decode cX2_isNamed 13 = .ok (.getfield 9, 3) := by decide +kernel
theorem dX2_isNamed_16 : decode cX2_isNamed 16 = .ok (.iload_n 1, 1) := by decide +kernel
theorem dX2_isNamed_17 : decode cX2_isNamed 17 = .ok (.iaload, 1) := by decide +kernel
theorem dX2_isNamed_18 : decode cX2_isNamed 18 = .ok (.iload_n 2, 1) := by decide +kernel
theorem dX2_isNamed_19 : decode cX2_isNamed 19 = .ok (.if_icmp .ne 7, 3) := by decide +kernel
theorem dX2_isNamed_22 : decode cX2_isNamed 22 = .ok (.iconst 1, 1) := by decide +kernel
theorem dX2_isNamed_23 : decode cX2_isNamed 23 = .ok (.goto 4, 3) := by decide +kernel
theorem dX2_isNamed_26 : decode cX2_isNamed 26 = .ok (.iconst 0, 1) := by decide +kernel
theorem dX2_isNamed_27 : decode cX2_isNamed 27 = .ok (.ireturn, 1) := by decide +kernel
theorem dX2_lastInTail_0 : decode cX2_lastInTail 0 = .ok (.aload_n 0, 1) := by decide +kernel
theorem dX2_lastInTail_1 : decode cX2_lastInTail 1 = .ok (.aload_n 0, 1) := by decide +kernel
theorem dX2_lastInTail_2 : decode cX2_lastInTail 2 = .ok (.getfield 19, 3) := by decide +kernel
theorem dX2_lastInTail_5 : decode cX2_lastInTail 5 = .ok (.iconst 1, 1) := by decide +kernel
theorem dX2_lastInTail_6 : decode cX2_lastInTail 6 = .ok (.isub, 1) := by decide +kernel
theorem dX2_lastInTail_7 : decode cX2_lastInTail 7 = .ok (.invokevirtual 23, 3) := by decide +kernel
theorem dX2_lastInTail_10 : decode cX2_lastInTail 10 = .ok (.istore_n 2, 1) := by decide +kernel
theorem dX2_lastInTail_11 : decode cX2_lastInTail 11 = .ok (.aload_n 0, 1) := by decide +kernel
theorem dX2_lastInTail_12 : decode cX2_lastInTail 12 = .ok (.getfield 19, 3) := by decide +kernel
theorem dX2_lastInTail_15 : decode cX2_lastInTail 15 = .ok (.iconst 1, 1) := by decide +kernel
theorem dX2_lastInTail_16 : decode cX2_lastInTail 16 = .ok (.isub, 1) := by decide +kernel
theorem dX2_lastInTail_17 : decode cX2_lastInTail 17 = .ok (.istore_n 3, 1) := by decide +kernel
theorem dX2_lastInTail_18 : decode cX2_lastInTail 18 = .ok (.iload_n 3, 1) := by decide +kernel
theorem dX2_lastInTail_19 : decode cX2_lastInTail 19 = .ok (.ifCond .lt 29, 3) := by decide +kernel
theorem dX2_lastInTail_22 : decode cX2_lastInTail 22 = .ok (.aload_n 0, 1) := by decide +kernel
theorem dX2_lastInTail_23 : decode cX2_lastInTail 23 = .ok (.iload_n 3, 1) := by decide +kernel
theorem dX2_lastInTail_24 : decode cX2_lastInTail 24 = .ok (.invokevirtual 23, 3) := by decide +kernel
theorem dX2_lastInTail_27 : decode cX2_lastInTail 27 = .ok (.iload_n 2, 1) := by decide +kernel
theorem dX2_lastInTail_28 : decode cX2_lastInTail 28 = .ok (.if_icmp .ne 20, 3) := by decide +kernel
theorem dX2_lastInTail_31 : decode cX2_lastInTail 31 = .ok (.aload_n 0, 1) := by decide +kernel
theorem dX2_lastInTail_32 : decode cX2_lastInTail 32 = .ok (.iload_n 3, 1) := by decide +kernel
theorem dX2_lastInTail_33 : decode cX2_lastInTail 33 = .ok (.iload_n 1, 1) := by decide +kernel
theorem dX2_lastInTail_34 : decode cX2_lastInTail 34 = .ok (.invokevirtual 27, 3) := by decide +kernel
theorem dX2_lastInTail_37 : decode cX2_lastInTail 37 = .ok (.ifCond .eq 5, 3) := by decide +kernel
theorem dX2_lastInTail_40 : decode cX2_lastInTail 40 = .ok (.iload_n 3, 1) := by decide +kernel
theorem dX2_lastInTail_41 : decode cX2_lastInTail 41 = .ok (.ireturn, 1) := by decide +kernel
theorem dX2_lastInTail_42 : decode cX2_lastInTail 42 = .ok (.iinc 3 (-1), 3) := by decide +kernel
theorem dX2_lastInTail_45 : decode cX2_lastInTail 45 = .ok (.goto (-27), 3) := by decide +kernel
theorem dX2_lastInTail_48 : decode cX2_lastInTail 48 = .ok (.iconst (-1), 1) := by decide +kernel
theorem dX2_lastInTail_49 : decode cX2_lastInTail 49 = .ok (.ireturn, 1) := by decide +kernel
theorem dX2_lastInScope_0 : decode cX2_lastInScope 0 = .ok (.aload_n 0, 1) := by decide +kernel
theorem dX2_lastInScope_1 : decode cX2_lastInScope 1 = .ok (.aload_n 0, 1) := by decide +kernel
theorem dX2_lastInScope_2 : decode cX2_lastInScope 2 = .ok (.getfield 19, 3) := by decide +kernel
theorem dX2_lastInScope_5 : decode cX2_lastInScope 5 = .ok (.iconst 1, 1) := by decide +kernel
theorem dX2_lastInScope_6 : decode cX2_lastInScope 6 = .ok (.isub, 1) := by decide +kernel
theorem dX2_lastInScope_7 : decode cX2_lastInScope 7 = .ok (.invokevirtual 23, 3) := by decide +kernel
theorem dX2_lastInScope_10 : decode cX2_lastInScope 10 = .ok (.ifCond .eq 7, 3) := by decide +kernel
theorem dX2_lastInScope_13 : decode cX2_lastInScope 13 = .ok (.iconst (-1), 1) := by decide +kernel
theorem dX2_lastInScope_14 : decode cX2_lastInScope 14 = .ok (.goto 8, 3) := by decide +kernel
theorem dX2_lastInScope_17 : decode cX2_lastInScope 17 = .ok (.aload_n 0, 1) := by decide +kernel
theorem dX2_lastInScope_18 : decode cX2_lastInScope 18 = .ok (.iload_n 1, 1) := by decide +kernel
theorem dX2_lastInScope_19 : decode cX2_lastInScope 19 = .ok (.invokevirtual 31, 3) := by decide +kernel
theorem dX2_lastInScope_22 : decode cX2_lastInScope 22 = .ok (.ireturn, 1) := by decide +kernel
theorem dX2_close_0 : decode cX2_close 0 = .ok (.iload_n 1, 1) := by decide +kernel
theorem dX2_close_1 : decode cX2_close 1 = .ok (.ifCond .lt 16, 3) := by decide +kernel
theorem dX2_close_4 : decode cX2_close 4 = .ok (.iload_n 1, 1) := by decide +kernel
theorem dX2_close_5 : decode cX2_close 5 = .ok (.aload_n 0, 1) := by decide +kernel
theorem dX2_close_6 : decode cX2_close 6 = .ok (.getfield 19, 3) := by decide +kernel
theorem dX2_close_9 : decode cX2_close 9 = .ok (.if_icmp .ge 8, 3) := by decide +kernel
theorem dX2_close_12 : decode cX2_close 12 = .ok (.aload_n 0, 1) := by decide +kernel
theorem dX2_close_13 : decode cX2_close 13 = .ok (.iload_n 1, 1) := by decide +kernel
theorem dX2_close_14 : decode cX2_close 14 = .ok (.putfield 19, 3) := by decide +kernel
theorem dX2_close_17 : decode cX2_close 17 = .ok (.return_, 1) := by decide +kernel
theorem dX3_init_0 : decode cX3_init 0 = .ok (.aload_n 0, 1) := by decide +kernel
theorem dX3_init_1 : decode cX3_init 1 = .ok (.invokespecial 3, 3) := by decide +kernel
theorem dX3_init_4 : decode cX3_init 4 = .ok (.aload_n 0, 1) := by decide +kernel
theorem dX3_init_5 : decode cX3_init 5 = .ok (.bipush 26, 2) := by decide +kernel
theorem dX3_init_7 : decode cX3_init 7 = .ok (.newarray .int, 2) := by decide +kernel
theorem dX3_init_9 : decode cX3_init 9 = .ok (.putfield 9, 3) := by decide +kernel
theorem dX3_init_12 : decode cX3_init 12 = .ok (.aload_n 0, 1) := by decide +kernel
theorem dX3_init_13 : decode cX3_init 13 = .ok (.bipush 27, 2) := by decide +kernel
theorem dX3_init_15 : decode cX3_init 15 = .ok (.newarray .int, 2) := by decide +kernel
theorem dX3_init_17 : decode cX3_init 17 = .ok (.putfield 15, 3) := by decide +kernel
theorem dX3_init_20 : decode cX3_init 20 = .ok (.aload_n 0, 1) := by decide +kernel
theorem dX3_init_21 : decode cX3_init 21 = .ok (.iconst 4, 1) := by decide +kernel
theorem dX3_init_22 : decode cX3_init 22 = .ok (.newarray .long, 2) := by decide +kernel
theorem dX3_init_24 : decode cX3_init 24 = .ok (.putfield 18, 3) := by decide +kernel
theorem dX3_init_27 : decode cX3_init 27 = .ok (.aload_n 0, 1) := by decide +kernel
theorem dX3_init_28 : decode cX3_init 28 = .ok (.invokevirtual 22, 3) := by decide +kernel
theorem dX3_init_31 : decode cX3_init 31 = .ok (.return_, 1) := by decide +kernel
theorem dX3_restore_0 : decode cX3_restore 0 = .ok (.iconst 0, 1) := by decide +kernel
theorem dX3_restore_1 : decode cX3_restore 1 = .ok (.istore_n 1, 1) := by decide +kernel
theorem dX3_restore_2 : decode cX3_restore 2 = .ok (.iload_n 1, 1) := by decide +kernel
theorem dX3_restore_3 : decode cX3_restore 3 = .ok (.bipush 26, 2) := by decide +kernel
theorem dX3_restore_5 : decode cX3_restore 5 = .ok (.if_icmp .ge 33, 3) := by decide +kernel
theorem dX3_restore_8 : decode cX3_restore 8 = .ok (.aload_n 0, 1) := by decide +kernel
theorem dX3_restore_9 : decode cX3_restore 9 = .ok (.getfield 9, 3) := by decide +kernel
theorem dX3_restore_12 : decode cX3_restore 12 = .ok (.iload_n 1, 1) := by decide +kernel
theorem dX3_restore_13 : decode cX3_restore 13 = .ok (.iload_n 1, 1) := by decide +kernel
theorem dX3_restore_14 : decode cX3_restore 14 = .ok (.bipush 18, 2) := by decide +kernel
theorem dX3_restore_16 : decode cX3_restore 16 = .ok (.if_icmp .ne 7, 3) := by decide +kernel
theorem dX3_restore_19 : decode cX3_restore 19 = .ok (.iconst 2, 1) := by decide +kernel
theorem dX3_restore_20 : decode cX3_restore 20 = .ok (.goto 4, 3) := by decide +kernel
theorem dX3_restore_23 : decode cX3_restore 23 = .ok (.iconst 1, 1) := by decide +kernel
theorem dX3_restore_24 : decode cX3_restore 24 = .ok (.iastore, 1) := by decide +kernel
theorem dX3_restore_25 : decode cX3_restore 25 = .ok (.aload_n 0, 1) := by decide +kernel
theorem dX3_restore_26 : decode cX3_restore 26 = .ok (.getfield 15, 3) := by decide +kernel
theorem dX3_restore_29 : decode cX3_restore 29 = .ok (.iload_n 1, 1) := by decide +kernel
theorem dX3_restore_30 : decode cX3_restore 30 = .ok (.iconst 0, 1) := by decide +kernel
theorem dX3_restore_31 : decode cX3_restore 31 = .ok (.iastore, 1) := by decide +kernel
theorem dX3_restore_32 : decode cX3_restore 32 = .ok (.iinc 1 1, 3) := by decide +kernel
theorem dX3_restore_35 : decode cX3_restore 35 = .ok (.goto (-33), 3) := by decide +kernel
theorem dX3_restore_38 : decode cX3_restore 38 = .ok (.aload_n 0, 1) := by decide +kernel
theorem dX3_restore_39 : decode cX3_restore 39 = .ok (.getfield 15, 3) := by decide +kernel
theorem dX3_restore_42 : decode cX3_restore 42 = .ok (.bipush 26, 2) := by decide +kernel
theorem dX3_restore_44 : decode cX3_restore 44 = .ok (.iconst 0, 1) := by decide +kernel
theorem dX3_restore_45 : decode cX3_restore 45 = .ok (.iastore, 1) := by decide +kernel
theorem dX3_restore_46 : decode cX3_restore 46 = .ok (.aload_n 0, 1) := by decide +kernel
theorem dX3_restore_47 : decode cX3_restore 47 = .ok (.iconst 0, 1) := by decide +kernel
theorem dX3_restore_48 : decode cX3_restore 48 = .ok (.putfield 25, 3) := by decide +kernel
theorem dX3_restore_51 : decode cX3_restore 51 = .ok (.return_, 1) := by decide +kernel
theorem dX3_setAction_0 : decode cX3_setAction 0 = .ok (.iload_n 1, 1) := by decide +kernel
theorem dX3_setAction_1 : decode cX3_setAction 1 = .ok (.invokestatic 29, 3) := by decide +kernel
theorem dX3_setAction_4 : decode cX3_setAction 4 = .ok (.ifCond .eq 10, 3) := by decide +kernel
theorem dX3_setAction_7 : decode cX3_setAction 7 = .ok (.aload_n 0, 1) := by decide +kernel
theorem dX3_setAction_8 : decode cX3_setAction 8 = .ok (.getfield 9, 3) := by decide +kernel
theorem dX3_setAction_11 : decode cX3_setAction 11 = .ok (.iload_n 1, 1) := by decide +kernel
theorem dX3_setAction_12 : decode cX3_setAction 12 = .ok (.iload_n 2, 1) := by decide +kernel
theorem dX3_setAction_13 : decode cX3_setAction 13 = .ok (.iastore, 1) := by decide +kernel
theorem dX3_setAction_14 : decode cX3_setAction 14 = .ok (.return_, 1) := by decide +kernel
theorem dX3_actionOf_0 : decode cX3_actionOf 0 = .ok (.iload_n 1, 1) := by decide +kernel
theorem dX3_actionOf_1 : decode cX3_actionOf 1 = .ok (.invokestatic 29, 3) := by decide +kernel
theorem dX3_actionOf_4 : decode cX3_actionOf 4 = .ok (.ifCond .eq 12, 3) := by decide +kernel
theorem dX3_actionOf_7 : decode cX3_actionOf 7 = .ok (.aload_n 0, 1) := by decide +kernel
theorem dX3_actionOf_8 : decode cX3_actionOf 8 = .ok (.getfield 9, 3) := by decide +kernel
theorem dX3_actionOf_11 : decode cX3_actionOf 11 = .ok (.iload_n 1, 1) := by decide +kernel
theorem dX3_actionOf_12 : decode cX3_actionOf 12 = .ok (.iaload, 1) := by decide +kernel
theorem dX3_actionOf_13 : decode cX3_actionOf 13 = .ok (.goto 4, 3) := by decide +kernel
theorem dX3_actionOf_16 : decode cX3_actionOf 16 = .ok (.iconst 1, 1) := by decide +kernel
theorem dX3_actionOf_17 : decode cX3_actionOf 17 = .ok (.ireturn, 1) := by decide +kernel
theorem dX3_setAttribute_0 : decode cX3_setAttribute 0 = .ok (.iload_n 1, 1) := by decide +kernel
theorem dX3_setAttribute_1 : decode cX3_setAttribute 1 = .ok (.invokestatic 29, 3) := by decide +kernel
theorem dX3_setAttribute_4 : decode cX3_setAttribute 4 = .ok (.ifCond .eq 7, 3) := by decide +kernel
theorem dX3_setAttribute_7 : decode cX3_setAttribute 7 = .ok (.iload_n 1, 1) := by decide +kernel
theorem dX3_setAttribute_8 : decode cX3_setAttribute 8 = .ok (.goto 5, 3) := by decide +kernel
theorem dX3_setAttribute_11 : decode cX3_setAttribute 11 = .ok (.bipush 26, 2) := by decide +kernel
theorem dX3_setAttribute_13 : decode cX3_setAttribute 13 = .ok (.istore 4, 2) := by decide +kernel
theorem dX3_setAttribute_15 : decode cX3_setAttribute 15 = .ok (.iload_n 3, 1) := by decide +kernel
theorem dX3_setAttribute_16 : decode cX3_setAttribute 16 = .ok (.ifCond .eq 19, 3) := by decide +kernel
theorem dX3_setAttribute_19 : decode cX3_setAttribute 19 = .ok (.aload_n 0, 1) := by decide +kernel
theorem dX3_setAttribute_20 : decode cX3_setAttribute 20 = .ok (.getfield 15, 3) := by decide +kernel
theorem dX3_setAttribute_23 : decode cX3_setAttribute 23 = .ok (.iload 4, 2) := by decide +kernel
theorem dX3_setAttribute_25 : decode cX3_setAttribute 25 = .ok (.dup2, 1) := by decide +kernel
theorem dX3_setAttribute_26 : decode cX3_setAttribute 26 = .ok (.iaload, 1) := by decide +kernel
theorem dX3_setAttribute_27 : decode cX3_setAttribute 27 = .ok (.iconst 1, 1) := by decide +kernel
theorem dX3_setAttribute_28 : decode cX3_setAttribute 28 = .ok (.iload_n 2, 1) := by decide +kernel
theorem dX3_setAttribute_29 : decode cX3_setAttribute 29 = .ok (.ishl, 1) := by decide +kernel
theorem dX3_setAttribute_30 : decode cX3_setAttribute 30 = .ok (.ior, 1) := by decide +kernel
theorem dX3_setAttribute_31 : decode cX3_setAttribute 31 = .ok (.iastore, 1) := by decide +kernel
theorem dX3_setAttribute_32 : decode cX3_setAttribute 32 = .ok (.goto 18, 3) := by decide +kernel
theorem dX3_setAttribute_35 : decode cX3_setAttribute 35 = .ok (.aload_n 0, 1) := by decide +kernel
theorem dX3_setAttribute_36 : decode cX3_setAttribute 36 = .ok (.getfield 15, 3) := by decide +kernel
theorem dX3_setAttribute_39 : decode cX3_setAttribute 39 = .ok (.iload 4, 2) := by decide +kernel
theorem dX3_setAttribute_41 : decode cX3_setAttribute 41 = .ok (.dup2, 1) := by decide +kernel
theorem dX3_setAttribute_42 : decode cX3_setAttribute 42 = .ok (.iaload, 1) := by decide +kernel
theorem dX3_setAttribute_43 : decode cX3_setAttribute 43 = .ok (.iconst 1, 1) := by decide +kernel
theorem dX3_setAttribute_44 : decode cX3_setAttribute 44 = .ok (.iload_n 2, 1) := by decide +kernel
theorem dX3_setAttribute_45 : decode cX3_setAttribute 45 = .ok (.ishl, 1) := by decide +kernel
theorem dX3_setAttribute_46 : decode cX3_setAttribute 46 = .ok (.iconst (-1), 1) := by decide +kernel
theorem dX3_setAttribute_47 : decode cX3_setAttribute 47 = .ok (.ixor, 1) := by decide +kernel
theorem dX3_setAttribute_48 : decode cX3_setAttribute 48 = .ok (.iand, 1) := by decide +kernel
theorem dX3_setAttribute_49 : decode cX3_setAttribute 49 = .ok (.iastore, 1) := by decide +kernel
theorem dX3_setAttribute_50 : decode cX3_setAttribute 50 = .ok (.return_, 1) := by decide +kernel
theorem dX3_allowsAttribute_0 : decode cX3_allowsAttribute 0 = .ok (.iload_n 1, 1) := by decide +kernel
theorem dX3_allowsAttribute_1 : decode cX3_allowsAttribute 1 = .ok (.invokestatic 29, 3) := by decide +kernel
theorem dX3_allowsAttribute_4 : decode cX3_allowsAttribute 4 = .ok (.ifCond .eq 7, 3) := by decide +kernel
theorem dX3_allowsAttribute_7 : decode cX3_allowsAttribute 7 = .ok (.iload_n 1, 1) := by decide +kernel
theorem dX3_allowsAttribute_8 : decode cX3_allowsAttribute 8 = .ok (.goto 5, 3) := by decide +kernel
theorem dX3_allowsAttribute_11 : decode cX3_allowsAttribute 11 = .ok (.bipush 26, 2) := by decide +kernel
theorem dX3_allowsAttribute_13 : decode cX3_allowsAttribute 13 = .ok (.istore_n 3, 1) := by decide +kernel
theorem dX3_allowsAttribute_14 : decode cX3_allowsAttribute 14 = .ok (.aload_n 0, 1) := by decide +kernel
theorem dX3_allowsAttribute_15 : decode cX3_allowsAttribute 15 = .ok (.getfield 15, 3) := by decide +kernel
theorem dX3_allowsAttribute_18 : decode cX3_allowsAttribute 18 = .ok (.iload_n 3, 1) := by decide +kernel
theorem dX3_allowsAttribute_19 : decode cX3_allowsAttribute 19 = .ok (.iaload, 1) := by decide +kernel
theorem dX3_allowsAttribute_20 : decode cX3_allowsAttribute 20 = .ok (.aload_n 0, 1) := by decide +kernel
theorem dX3_allowsAttribute_21 : decode cX3_allowsAttribute 21 = .ok (.getfield 15, 3) := by decide +kernel
theorem dX3_allowsAttribute_24 : decode cX3_allowsAttribute 24 = .ok (.bipush 26, 2) := by decide +kernel
theorem dX3_allowsAttribute_26 : decode cX3_allowsAttribute 26 = .ok (.iaload, 1) := by decide +kernel
theorem dX3_allowsAttribute_27 : decode cX3_allowsAttribute 27 = .ok (.ior, 1) := by decide +kernel
theorem dX3_allowsAttribute_28 : decode cX3_allowsAttribute 28 = .ok (.iload_n 2, 1) := by decide +kernel
theorem dX3_allowsAttribute_29 : decode cX3_allowsAttribute 29 = .ok (.ishr, 1) := by decide +kernel
theorem dX3_allowsAttribute_30 : decode cX3_allowsAttribute 30 = .ok (.iconst 1, 1) := by decide +kernel
theorem dX3_allowsAttribute_31 : decode cX3_allowsAttribute 31 = .ok (.iand, 1) := by decide +kernel
theorem dX3_allowsAttribute_32 : decode cX3_allowsAttribute 32 = .ok (.ifCond .eq 7, 3) := by decide +kernel
theorem dX3_allowsAttribute_35 : decode cX3_allowsAttribute 35 = .ok (.iconst 1, 1) := by decide +kernel
theorem dX3_allowsAttribute_36 : decode cX3_allowsAttribute 36 = .ok (.goto 4, 3) := by decide +kernel
theorem dX3_allowsAttribute_39 : decode cX3_allowsAttribute 39 = .ok (.iconst 0, 1) := by decide +kernel
theorem dX3_allowsAttribute_40 : decode cX3_allowsAttribute 40 = .ok (.ireturn, 1) := by decide +kernel
theorem dX3_addScheme_0 : decode cX3_addScheme 0 = .ok (.aload_n 0, 1) := by decide +kernel
theorem dX3_addScheme_1 : decode cX3_addScheme 1 = .ok (.getfield 25, 3) := by decide +kernel
theorem dX3_addScheme_4 : decode cX3_addScheme 4 = .ok (.iconst 4, 1) := by decide +kernel
theorem dX3_addScheme_5 : decode cX3_addScheme 5 = .ok (.if_icmp .ge 11, 3) := by decide +kernel
theorem dX3_addScheme_8 : decode cX3_addScheme 8 = .ok (.aload_n 0, 1) := by decide +kernel
theorem dX3_addScheme_9 : decode cX3_addScheme 9 = .ok (.lload_n 1, 1) := by decide +kernel
theorem dX3_addScheme_10 : decode cX3_addScheme 10 = .ok (.invokevirtual 33, 3) := by decide +kernel
theorem dX3_addScheme_13 : decode cX3_addScheme 13 = .ok (.ifCond .eq 5, 3) := by decide +kernel
theorem dX3_addScheme_16 : decode cX3_addScheme 16 = .ok (.iconst 0, 1) := by decide +kernel
theorem dX3_addScheme_17 : decode cX3_addScheme 17 = .ok (.ireturn, 1) := by decide +kernel
theorem dX3_addScheme_18 : decode cX3_addScheme 18 = .ok (.aload_n 0, 1) := by decide +kernel
theorem dX3_addScheme_19 : decode cX3_addScheme 19 = .ok (.getfield 18, 3) := by decide +kernel
theorem dX3_addScheme_22 : decode cX3_addScheme 22 = .ok (.aload_n 0, 1) := by decide +kernel
theorem dX3_addScheme_23 : decode cX3_addScheme 23 = .ok (.getfield 25, 3) := by decide +kernel
theorem dX3_addScheme_26 : decode cX3_addScheme 26 = .ok (.lload_n 1, 1) := by decide +kernel
theorem dX3_addScheme_27 : decode cX3_addScheme 27 = .ok (.lastore, 1) := by decide +kernel
theorem dX3_addScheme_28 : decode cX3_addScheme 28 = .ok (.aload_n 0, 1) := by decide +kernel
theorem dX3_addScheme_29 : decode cX3_addScheme 29 = .ok (.dup, 1) := by decide +kernel
theorem dX3_addScheme_30 : decode cX3_addScheme 30 = .ok (.getfield 25, 3) := by decide +kernel
theorem dX3_addScheme_33 : decode cX3_addScheme 33 = .ok (.iconst 1, 1) := by decide +kernel
theorem dX3_addScheme_34 : decode cX3_addScheme 34 = .ok (.iadd, 1) := by decide +kernel
theorem dX3_addScheme_35 : decode cX3_addScheme 35 = .ok (.putfield 25, 3) := by decide +kernel
theorem dX3_addScheme_38 : decode cX3_addScheme 38 = .ok (.iconst 1, 1) := by decide +kernel
theorem dX3_addScheme_39 : decode cX3_addScheme 39 = .ok (.ireturn, 1) := by decide +kernel
theorem dX3_hasScheme_0 : decode cX3_hasScheme 0 = .ok (.iconst 0, 1) := by decide +kernel
theorem dX3_hasScheme_1 : decode cX3_hasScheme 1 = .ok (.istore_n 3, 1) := by decide +kernel
theorem dX3_hasScheme_2 : decode cX3_hasScheme 2 = .ok (.iload_n 3, 1) := by decide +kernel
theorem dX3_hasScheme_3 : decode cX3_hasScheme 3 = .ok (.aload_n 0, 1) := by decide +kernel
theorem dX3_hasScheme_4 : decode cX3_hasScheme 4 = .ok (.getfield 25, 3) := by decide +kernel
theorem dX3_hasScheme_7 : decode cX3_hasScheme 7 = .ok (.if_icmp .ge 22, 3) := by decide +kernel
theorem dX3_hasScheme_10 : decode cX3_hasScheme 10 = .ok (.aload_n 0, 1) := by decide +kernel
theorem dX3_hasScheme_11 : decode cX3_hasScheme 11 = .ok (.getfield 18, 3) := by decide +kernel
theorem dX3_hasScheme_14 : decode cX3_hasScheme 14 = .ok (.iload_n 3, 1) := by decide +kernel
theorem dX3_hasScheme_15 : decode cX3_hasScheme 15 = .ok (.laload, 1) := by decide +kernel
theorem dX3_hasScheme_16 : decode cX3_hasScheme 16 = .ok (.lload_n 1, 1) := by decide +kernel
theorem dX3_hasScheme_17 : decode cX3_hasScheme 17 = .ok (.lcmp, 1) := by decide +kernel
theorem dX3_hasScheme_18 : decode cX3_hasScheme 18 = .ok (.ifCond .ne 5, 3) := by decide +kernel
theorem dX3_hasScheme_21 : decode cX3_hasScheme 21 = .ok (.iconst 1, 1) := by decide +kernel
theorem dX3_hasScheme_22 : decode cX3_hasScheme 22 = .ok (.ireturn, 1) := by decide +kernel
theorem dX3_hasScheme_23 : decode cX3_hasScheme 23 = .ok (.iinc 3 1, 3) := by decide +kernel
theorem dX3_hasScheme_26 : decode cX3_hasScheme 26 = .ok (.goto (-24), 3) := by decide +kernel
theorem dX3_hasScheme_29 : decode cX3_hasScheme 29 = .ok (.iconst 0, 1) := by decide +kernel
theorem dX3_hasScheme_30 : decode cX3_hasScheme 30 = .ok (.ireturn, 1) := by decide +kernel
theorem dX3_allowsAddress_0 : decode cX3_allowsAddress 0 = .ok (.iload_n 2, 1) := by decide +kernel
theorem dX3_allowsAddress_1 : decode cX3_allowsAddress 1 = .ok (.istore 4, 2) := by decide +kernel
theorem dX3_allowsAddress_3 : decode cX3_allowsAddress 3 = .ok (.iload 4, 2) := by decide +kernel
theorem dX3_allowsAddress_5 : decode cX3_allowsAddress 5 = .ok (.iload_n 3, 1) := by decide +kernel
theorem dX3_allowsAddress_6 : decode cX3_allowsAddress 6 = .ok (.if_icmp .ge 20, 3) := by decide +kernel
theorem dX3_allowsAddress_9 : decode cX3_allowsAddress 9 = .ok (.aload_n 1, 1) := by decide +kernel
theorem dX3_allowsAddress_10 : decode cX3_allowsAddress 10 = .ok (.iload 4, 2) := by decide +kernel
theorem dX3_allowsAddress_12 : decode cX3_allowsAddress 12 = .ok (.invokevirtual 37, 3) := by decide +kernel
theorem dX3_allowsAddress_15 : decode cX3_allowsAddress 15 = .ok (.bipush 32, 2) := by decide +kernel
theorem dX3_allowsAddress_17 : decode cX3_allowsAddress 17 = .ok (.if_icmp .ne 9, 3) := by decide +kernel
theorem dX3_allowsAddress_20 : decode cX3_allowsAddress 20 = .ok (.iinc 4 1, 3) := by decide +kernel
theorem dX3_allowsAddress_23 : decode cX3_allowsAddress 23 = .ok (.goto (-20), 3) := by decide +kernel
theorem dX3_allowsAddress_26 : decode cX3_allowsAddress 26 = .ok (.iload 4, 2) := by decide +kernel
theorem dX3_allowsAddress_28 : decode cX3_allowsAddress 28 = .ok (.istore 5, 2) := by decide +kernel
theorem dX3_allowsAddress_30 : decode cX3_allowsAddress 30 = .ok (.iload 5, 2) := by decide +kernel
theorem dX3_allowsAddress_32 : decode cX3_allowsAddress 32 = .ok (.iload_n 3, 1) := by decide +kernel
theorem dX3_allowsAddress_33 : decode cX3_allowsAddress 33 = .ok (.if_icmp .ge 33, 3) := by decide +kernel
theorem dX3_allowsAddress_36 : decode cX3_allowsAddress 36 = .ok (.aload_n 1, 1) := by decide +kernel
theorem dX3_allowsAddress_37 : decode cX3_allowsAddress 37 = .ok (.iload 5, 2) := by decide +kernel
theorem dX3_allowsAddress_39 : decode cX3_allowsAddress 39 = .ok (.invokevirtual 37, 3) := by decide +kernel
theorem dX3_allowsAddress_42 : decode cX3_allowsAddress 42 = .ok (.iload 5, 2) := by decide +kernel
theorem dX3_allowsAddress_44 : decode cX3_allowsAddress 44 = .ok (.iload 4, 2) := by decide +kernel
theorem dX3_allowsAddress_46 : decode cX3_allowsAddress 46 = .ok (.if_icmp .ne 7, 3) := by decide +kernel
theorem dX3_allowsAddress_49 : decode cX3_allowsAddress 49 = .ok (.iconst 1, 1) := by decide +kernel
theorem dX3_allowsAddress_50 : decode cX3_allowsAddress 50 = .ok (.goto 4, 3) := by decide +kernel
theorem dX3_allowsAddress_53 : decode cX3_allowsAddress 53 = .ok (.iconst 0, 1) := by decide +kernel
theorem dX3_allowsAddress_54 : decode cX3_allowsAddress 54 = .ok (.invokestatic 43, 3) := by decide +kernel
theorem dX3_allowsAddress_57 : decode cX3_allowsAddress 57 = .ok (.ifCond .eq 9, 3) := by decide +kernel
theorem dX3_allowsAddress_60 : decode cX3_allowsAddress 60 = .ok (.iinc 5 1, 3) := by decide +kernel
theorem dX3_allowsAddress_63 : decode cX3_allowsAddress 63 = .ok (.goto (-33), 3) := by decide +kernel
theorem dX3_allowsAddress_66 : decode cX3_allowsAddress 66 = .ok (.iload 5, 2) := by decide +kernel
theorem dX3_allowsAddress_68 : decode cX3_allowsAddress 68 = .ok (.iload 4, 2) := by decide +kernel
theorem dX3_allowsAddress_70 : decode cX3_allowsAddress 70 = .ok (.if_icmp .le 24, 3) := by decide +kernel
theorem dX3_allowsAddress_73 : decode cX3_allowsAddress 73 = .ok (.iload 5, 2) := by decide +kernel
theorem dX3_allowsAddress_75 : decode cX3_allowsAddress 75 = .ok (.iload_n 3, 1) := by decide +kernel
theorem dX3_allowsAddress_76 : decode cX3_allowsAddress 76 = .ok (.if_icmp .ge 18, 3) := by decide +kernel
theorem dX3_allowsAddress_79 : decode cX3_allowsAddress 79 = .ok (.aload_n 1, 1) := by decide +kernel
theorem dX3_allowsAddress_80 : decode cX3_allowsAddress 80 = .ok (.iload 5, 2) := by decide +kernel
theorem dX3_allowsAddress_82 : decode cX3_allowsAddress 82 = .ok (.invokevirtual 37, 3) := by decide +kernel
theorem dX3_allowsAddress_85 : decode cX3_allowsAddress 85 = .ok (.bipush 58, 2) := by decide +kernel
theorem dX3_allowsAddress_87 : decode cX3_allowsAddress 87 = .ok (.if_icmp .ne 7, 3) := by decide +kernel
theorem dX3_allowsAddress_90 : decode cX3_allowsAddress 90 = .ok (.iconst 1, 1) := by decide +kernel
theorem dX3_allowsAddress_91 : decode cX3_allowsAddress 91 = .ok (.goto 4, 3) := by decide +kernel
theorem dX3_allowsAddress_94 : decode cX3_allowsAddress 94 = .ok (.iconst 0, 1) := by decide +kernel
theorem dX3_allowsAddress_95 : decode cX3_allowsAddress 95 = .ok (.istore 6, 2) := by decide +kernel
theorem dX3_allowsAddress_97 : decode cX3_allowsAddress 97 = .ok (.iload 6, 2) := by decide +kernel
theorem dX3_allowsAddress_99 : decode cX3_allowsAddress 99 = .ok (.ifCond .eq 15, 3) := by decide +kernel
theorem dX3_allowsAddress_102 : decode cX3_allowsAddress 102 = .ok (.aload_n 0, 1) := by decide +kernel
theorem dX3_allowsAddress_103 : decode cX3_allowsAddress 103 = .ok (.aload_n 1, 1) := by decide +kernel
theorem dX3_allowsAddress_104 : decode cX3_allowsAddress 104 = .ok (.iload 4, 2) := by decide +kernel
theorem dX3_allowsAddress_106 : decode cX3_allowsAddress 106 = .ok (.iload 5, 2) := by decide +kernel
theorem dX3_allowsAddress_108 : decode cX3_allowsAddress 108 = .ok (.invokevirtual 47, 3) := by decide +kernel
theorem dX3_allowsAddress_111 : decode cX3_allowsAddress 111 = .ok (.ifCond .eq 7, 3) := by decide +kernel
theorem dX3_allowsAddress_114 : decode cX3_allowsAddress 114 = .ok (.iconst 1, 1) := by decide +kernel
theorem dX3_allowsAddress_115 : decode cX3_allowsAddress 115 = .ok (.goto 4, 3) := by decide +kernel
theorem dX3_allowsAddress_118 : decode cX3_allowsAddress 118 = .ok (.iconst 0, 1) := by decide +kernel
theorem dX3_allowsAddress_119 : decode cX3_allowsAddress 119 = .ok (.ireturn, 1) := by decide +kernel
theorem dX3_isSchemeCharacter_0 : decode cX3_isSchemeCharacter 0 = .ok (.iload_n 0, 1) := by decide +kernel
theorem dX3_isSchemeCharacter_1 : decode cX3_isSchemeCharacter 1 = .ok (.invokestatic 51, 3) := by decide +kernel
theorem dX3_isSchemeCharacter_4 : decode cX3_isSchemeCharacter 4 = .ok (.ifCond .ne 32, 3) := by decide +kernel
theorem dX3_isSchemeCharacter_7 : decode cX3_isSchemeCharacter 7 = .ok (.iload_n 1, 1) := by decide +kernel
theorem dX3_isSchemeCharacter_8 : decode cX3_isSchemeCharacter 8 = .ok (.ifCond .ne 32, 3) := by decide +kernel
theorem dX3_isSchemeCharacter_11 : decode cX3_isSchemeCharacter 11 = .ok (.iload_n 0, 1) := by decide +kernel
theorem dX3_isSchemeCharacter_12 : decode cX3_isSchemeCharacter 12 = .ok (.invokestatic 55, 3) := by decide +kernel
theorem dX3_isSchemeCharacter_15 : decode cX3_isSchemeCharacter 15 = .ok (.ifCond .ne 21, 3) := by decide +kernel
theorem dX3_isSchemeCharacter_18 : decode cX3_isSchemeCharacter 18 = .ok (.iload_n 0, 1) := by decide +kernel
theorem dX3_isSchemeCharacter_19 : decode cX3_isSchemeCharacter 19 = .ok (.bipush 43, 2) := by decide +kernel
theorem dX3_isSchemeCharacter_21 : decode cX3_isSchemeCharacter 21 = .ok (.if_icmp .eq 15, 3) := by decide +kernel
theorem dX3_isSchemeCharacter_24 : decode cX3_isSchemeCharacter 24 = .ok (.iload_n 0, 1) := by decide +kernel
theorem dX3_isSchemeCharacter_25 : decode cX3_isSchemeCharacter 25 = .ok (.bipush 45, 2) := by decide +kernel
theorem dX3_isSchemeCharacter_27 : decode cX3_isSchemeCharacter 27 = .ok (.if_icmp .eq 9, 3) := by decide +kernel
theorem dX3_isSchemeCharacter_30 : decode cX3_isSchemeCharacter 30 = .ok (.iload_n 0, 1) := by decide +kernel
theorem dX3_isSchemeCharacter_31 : decode cX3_isSchemeCharacter 31 = .ok (.bipush 46, 2) := by decide +kernel
theorem dX3_isSchemeCharacter_33 : decode cX3_isSchemeCharacter 33 = .ok (.if_icmp .ne 7, 3) := by decide +kernel
theorem dX3_isSchemeCharacter_36 : decode cX3_isSchemeCharacter 36 = .ok (.iconst 1, 1) := by decide +kernel
theorem dX3_isSchemeCharacter_37 : decode cX3_isSchemeCharacter 37 = .ok (.goto 4, 3) := by decide +kernel
theorem dX3_isSchemeCharacter_40 : decode cX3_isSchemeCharacter 40 = .ok (.iconst 0, 1) := by decide +kernel
theorem dX3_isSchemeCharacter_41 : decode cX3_isSchemeCharacter 41 = .ok (.ireturn, 1) := by decide +kernel
theorem dX3_allowsScheme_0 : decode cX3_allowsScheme 0 = .ok (.iload_n 3, 1) := by decide +kernel
theorem dX3_allowsScheme_1 : decode cX3_allowsScheme 1 = .ok (.iload_n 2, 1) := by decide +kernel
theorem dX3_allowsScheme_2 : decode cX3_allowsScheme 2 = .ok (.isub, 1) := by decide +kernel
theorem dX3_allowsScheme_3 : decode cX3_allowsScheme 3 = .ok (.bipush 8, 2) := by decide +kernel
theorem dX3_allowsScheme_5 : decode cX3_allowsScheme 5 = .ok (.if_icmp .le 5, 3) := by decide +kernel
theorem dX3_allowsScheme_8 : decode cX3_allowsScheme 8 = .ok (.iconst 0, 1) := by decide +kernel
theorem dX3_allowsScheme_9 : decode cX3_allowsScheme 9 = .ok (.ireturn, 1) := by decide +kernel
theorem dX3_allowsScheme_10 : decode cX3_allowsScheme 10 = .ok (.lconst 0, 1) := by decide +kernel
theorem dX3_allowsScheme_11 : decode cX3_allowsScheme 11 = .ok (.lstore 4, 2) := by decide +kernel
theorem dX3_allowsScheme_13 : decode cX3_allowsScheme 13 = .ok (.iload_n 2, 1) := by decide +kernel
theorem dX3_allowsScheme_14 : decode cX3_allowsScheme 14 = .ok (.istore 6, 2) := by decide +kernel
theorem dX3_allowsScheme_16 : decode cX3_allowsScheme 16 = .ok (.iload 6, 2) := by decide +kernel
theorem dX3_allowsScheme_18 : decode cX3_allowsScheme 18 = .ok (.iload_n 3, 1) := by decide +kernel
theorem dX3_allowsScheme_19 : decode cX3_allowsScheme 19 = .ok (.if_icmp .ge 47, 3) := by decide +kernel
theorem dX3_allowsScheme_22 : decode cX3_allowsScheme 22 = .ok (.aload_n 1, 1) := by decide +kernel
theorem dX3_allowsScheme_23 : decode cX3_allowsScheme 23 = .ok (.iload 6, 2) := by decide +kernel
theorem dX3_allowsScheme_25 : decode cX3_allowsScheme 25 = .ok (.invokevirtual 37, 3) := by decide +kernel
theorem dX3_allowsScheme_28 : decode cX3_allowsScheme 28 = .ok (.invokestatic 58, 3) := by decide +kernel
theorem dX3_allowsScheme_31 : decode cX3_allowsScheme 31 = .ok (.istore 7, 2) := by decide +kernel
theorem dX3_allowsScheme_33 : decode cX3_allowsScheme 33 = .ok (.iload 7, 2) := by decide +kernel
theorem dX3_allowsScheme_35 : decode cX3_allowsScheme 35 = .ok (.iconst (-1), 1) := by decide +kernel
theorem dX3_allowsScheme_36 : decode cX3_allowsScheme 36 = .ok (.if_icmp .ne 5, 3) := by decide +kernel
theorem dX3_allowsScheme_39 : decode cX3_allowsScheme 39 = .ok (.iconst 0, 1) := by decide +kernel
theorem dX3_allowsScheme_40 : decode cX3_allowsScheme 40 = .ok (.ireturn, 1) := by decide +kernel
theorem dX3_allowsScheme_41 : decode cX3_allowsScheme 41 = .ok (.lload 4, 2) := by decide +kernel
theorem dX3_allowsScheme_43 : decode cX3_allowsScheme 43 = .ok (.bipush 97, 2) := by decide +kernel
theorem dX3_allowsScheme_45 : decode cX3_allowsScheme 45 = .ok (.iload 7, 2) := by decide +kernel
theorem dX3_allowsScheme_47 : decode cX3_allowsScheme 47 = .ok (.iadd, 1) := by decide +kernel
theorem dX3_allowsScheme_48 : decode cX3_allowsScheme 48 = .ok (.i2l, 1) := by decide +kernel
theorem dX3_allowsScheme_49 : decode cX3_allowsScheme 49 = .ok (.bipush 8, 2) := by decide +kernel
theorem dX3_allowsScheme_51 : decode cX3_allowsScheme 51 = .ok (.iload 6, 2) := by decide +kernel
theorem dX3_allowsScheme_53 : decode cX3_allowsScheme 53 = .ok (.iload_n 2, 1) := by decide +kernel
theorem dX3_allowsScheme_54 : decode cX3_allowsScheme 54 = .ok (.isub, 1) := by decide +kernel
theorem dX3_allowsScheme_55 : decode cX3_allowsScheme 55 = .ok (.imul, 1) := by decide +kernel
theorem dX3_allowsScheme_56 : decode cX3_allowsScheme 56 = .ok (.lshl, 1) := by decide +kernel
theorem dX3_allowsScheme_57 : decode cX3_allowsScheme 57 = .ok (.lor, 1) := by decide +kernel
theorem dX3_allowsScheme_58 : decode cX3_allowsScheme 58 = .ok (.lstore 4, 2) := by decide +kernel
theorem dX3_allowsScheme_60 : decode cX3_allowsScheme 60 = .ok (.iinc 6 1, 3) := by decide +kernel
theorem dX3_allowsScheme_63 : decode cX3_allowsScheme 63 = .ok (.goto (-47), 3) := by decide +kernel
theorem dX3_allowsScheme_66 : decode cX3_allowsScheme 66 = .ok (.aload_n 0, 1) := by decide +kernel
theorem dX3_allowsScheme_67 : decode cX3_allowsScheme 67 = .ok (.lload 4, 2) := by decide +kernel
theorem dX3_allowsScheme_69 : decode cX3_allowsScheme 69 = .ok (.invokevirtual 33, 3) := by decide +kernel
theorem dX3_allowsScheme_72 : decode cX3_allowsScheme 72 = .ok (.ireturn, 1) := by decide +kernel
theorem dX4_init_0 : decode cX4_init 0 = .ok (.aload_n 0, 1) := by decide +kernel
theorem dX4_init_1 : decode cX4_init 1 = .ok (.invokespecial 3, 3) := by decide +kernel
theorem dX4_init_4 : decode cX4_init 4 = .ok (.aload_n 0, 1) := by decide +kernel
theorem dX4_init_5 : decode cX4_init 5 = .ok (.aload_n 1, 1) := by decide +kernel
theorem dX4_init_6 : decode cX4_init 6 = .ok (.putfield 9, 3) := by decide +kernel
theorem dX4_init_9 : decode cX4_init 9 = .ok (.aload_n 0, 1) := by decide +kernel
theorem dX4_init_10 : decode cX4_init 10 = .ok (.aload_n 2, 1) := by decide +kernel
theorem dX4_init_11 : decode cX4_init 11 = .ok (.putfield 15, 3) := by decide +kernel
theorem dX4_init_14 : decode cX4_init 14 = .ok (.aload_n 0, 1) := by decide +kernel
theorem dX4_init_15 : decode cX4_init 15 = .ok (.new 19, 3) := by decide +kernel
theorem dX4_init_18 : decode cX4_init 18 = .ok (.dup, 1) := by decide +kernel
theorem dX4_init_19 : decode cX4_init 19 = .ok (.aload_n 1, 1) := by decide +kernel
theorem dX4_init_20 : decode cX4_init 20 = .ok (.aload_n 2, 1) := by decide +kernel
theorem dX4_init_21 : decode cX4_init 21 = .ok (.invokespecial 21, 3) := by decide +kernel
theorem dX4_init_24 : decode cX4_init 24 = .ok (.putfield 24, 3) := by decide +kernel
theorem dX4_init_27 : decode cX4_init 27 = .ok (.aload_n 0, 1) := by decide +kernel
theorem dX4_init_28 : decode cX4_init 28 = .ok (.new 28, 3) := by decide +kernel
theorem dX4_init_31 : decode cX4_init 31 = .ok (.dup, 1) := by decide +kernel
theorem dX4_init_32 : decode cX4_init 32 = .ok (.invokespecial 30, 3) := by decide +kernel
theorem dX4_init_35 : decode cX4_init 35 = .ok (.putfield 31, 3) := by decide +kernel
theorem dX4_init_38 : decode cX4_init 38 = .ok (.aload_n 0, 1) := by decide +kernel
theorem dX4_init_39 : decode cX4_init 39 = .ok (.iconst 0, 1) := by decide +kernel
theorem dX4_init_40 : decode cX4_init 40 = .ok (.putfield 35, 3) := by decide +kernel
theorem dX4_init_43 : decode cX4_init 43 = .ok (.aload_n 0, 1) := by decide +kernel
theorem dX4_init_44 : decode cX4_init 44 = .ok (.iconst 0, 1) := by decide +kernel
theorem dX4_init_45 : decode cX4_init 45 = .ok (.putfield 39, 3) := by decide +kernel
theorem dX4_init_48 : decode cX4_init 48 = .ok (.return_, 1) := by decide +kernel
theorem dX4_readAll_0 : decode cX4_readAll 0 = .ok (.aload_n 0, 1) := by decide +kernel
theorem dX4_readAll_1 : decode cX4_readAll 1 = .ok (.getfield 24, 3) := by decide +kernel
theorem dX4_readAll_4 : decode cX4_readAll 4 = .ok (.invokevirtual 43, 3) := by decide +kernel
theorem dX4_readAll_7 : decode cX4_readAll 7 = .ok (.aload_n 0, 1) := by decide +kernel
theorem dX4_readAll_8 : decode cX4_readAll 8 = .ok (.iconst 0, 1) := by decide +kernel
theorem dX4_readAll_9 : decode cX4_readAll 9 = .ok (.putfield 35, 3) := by decide +kernel
theorem dX4_readAll_12 : decode cX4_readAll 12 = .ok (.aload_n 0, 1) := by decide +kernel
theorem dX4_readAll_13 : decode cX4_readAll 13 = .ok (.iconst 0, 1) := by decide +kernel
theorem dX4_readAll_14 : decode cX4_readAll 14 = .ok (.putfield 39, 3) := by decide +kernel
theorem dX4_readAll_17 : decode cX4_readAll 17 = .ok (.iconst 0, 1) := by decide +kernel
theorem dX4_readAll_18 : decode cX4_readAll 18 = .ok (.istore_n 1, 1) := by decide +kernel
theorem dX4_readAll_19 : decode cX4_readAll 19 = .ok (.iload_n 1, 1) := by decide +kernel
theorem dX4_readAll_20 : decode cX4_readAll 20 = .ok (.sipush 200, 3) := by decide +kernel
theorem dX4_readAll_23 : decode cX4_readAll 23 = .ok (.if_icmp .ge 122, 3) := by decide +kernel
theorem dX4_readAll_26 : decode cX4_readAll 26 = .ok (.aload_n 0, 1) := by decide +kernel
theorem dX4_readAll_27 : decode cX4_readAll 27 = .ok (.getfield 35, 3) := by decide +kernel
theorem dX4_readAll_30 : decode cX4_readAll 30 = .ok (.aload_n 0, 1) := by decide +kernel
theorem dX4_readAll_31 : decode cX4_readAll 31 = .ok (.getfield 9, 3) := by decide +kernel
theorem dX4_readAll_34 : decode cX4_readAll 34 = .ok (.invokevirtual 46, 3) := by decide +kernel
theorem dX4_readAll_37 : decode cX4_readAll 37 = .ok (.if_icmp .ge 108, 3) := by decide +kernel
theorem dX4_readAll_40 : decode cX4_readAll 40 = .ok (.aload_n 0, 1) := by decide +kernel
theorem dX4_readAll_41 : decode cX4_readAll 41 = .ok (.getfield 39, 3) := by decide +kernel
theorem dX4_readAll_44 : decode cX4_readAll 44 = .ok (.ifCond .eq 10, 3) := by decide +kernel
theorem dX4_readAll_47 : decode cX4_readAll 47 = .ok (.aload_n 0, 1) := by decide +kernel
theorem dX4_readAll_48 : decode cX4_readAll 48 = .ok (.invokevirtual 52, 3) := by decide +kernel
theorem dX4_readAll_51 : decode cX4_readAll 51 = .ok (.goto 88, 3) := by decide +kernel
theorem dX4_readAll_54 : decode cX4_readAll 54 = .ok (.aload_n 0, 1) := by decide +kernel
theorem dX4_readAll_55 : decode cX4_readAll 55 = .ok (.aload_n 0, 1) := by decide +kernel
theorem dX4_readAll_56 : decode cX4_readAll 56 = .ok (.getfield 35, 3) := by decide +kernel
theorem dX4_readAll_59 : decode cX4_readAll 59 = .ok (.invokevirtual 55, 3) := by decide +kernel
theorem dX4_readAll_62 : decode cX4_readAll 62 = .ok (.ifCond .ne 10, 3) := by decide +kernel
theorem dX4_readAll_65 : decode cX4_readAll 65 = .ok (.aload_n 0, 1) := by decide +kernel
theorem dX4_readAll_66 : decode cX4_readAll 66 = .ok (.invokevirtual 59, 3) := by decide +kernel
theorem dX4_readAll_69 : decode cX4_readAll 69 = .ok (.goto 70, 3) := by decide +kernel
theorem dX4_readAll_72 : decode cX4_readAll 72 = .ok (.aload_n 0, 1) := by decide +kernel
theorem dX4_readAll_73 : decode cX4_readAll 73 = .ok (.aload_n 0, 1) := by decide +kernel
theorem dX4_readAll_74 : decode cX4_readAll 74 = .ok (.getfield 35, 3) := by decide +kernel
theorem dX4_readAll_77 : decode cX4_readAll 77 = .ok (.invokevirtual 62, 3) := by decide +kernel
theorem dX4_readAll_80 : decode cX4_readAll 80 = .ok (.ifCond .ne 10, 3) := by decide +kernel
theorem dX4_readAll_83 : decode cX4_readAll 83 = .ok (.aload_n 0, 1) := by decide +kernel
theorem dX4_readAll_84 : decode cX4_readAll 84 = .ok (.invokevirtual 65, 3) := by decide +kernel
theorem dX4_readAll_87 : decode cX4_readAll 87 = .ok (.goto 52, 3) := by decide +kernel
theorem dX4_readAll_90 : decode cX4_readAll 90 = .ok (.aload_n 0, 1) := by decide +kernel
theorem dX4_readAll_91 : decode cX4_readAll 91 = .ok (.invokevirtual 68, 3) := by decide +kernel
theorem dX4_readAll_94 : decode cX4_readAll 94 = .ok (.ifCond .eq 45, 3) := by decide +kernel
theorem dX4_readAll_97 : decode cX4_readAll 97 = .ok (.aload_n 0, 1) := by decide +kernel
theorem dX4_readAll_98 : decode cX4_readAll 98 = .ok (.getfield 31, 3) := by decide +kernel
theorem dX4_readAll_101 : decode cX4_readAll 101 = .ok (.invokevirtual 72, 3) := by decide +kernel
theorem dX4_readAll_104 : decode cX4_readAll 104 = .ok (.ifCond .eq 20, 3) := by decide +kernel
theorem dX4_readAll_107 : decode cX4_readAll 107 = .ok (.aload_n 0, 1) := by decide +kernel
theorem dX4_readAll_108 : decode cX4_readAll 108 = .ok (.getfield 24, 3) := by decide +kernel
theorem dX4_readAll_111 : decode cX4_readAll 111 = .ok (.aload_n 0, 1) := by decide +kernel
theorem dX4_readAll_112 : decode cX4_readAll 112 = .ok (.getfield 31, 3) := by decide +kernel
theorem dX4_readAll_115 : decode cX4_readAll 115 = .ok (.invokevirtual 75, 3) := by decide +kernel
theorem dX4_readAll_118 : decode cX4_readAll 118 = .ok (.invokevirtual 78, 3) := by decide +kernel
theorem dX4_readAll_121 : decode cX4_readAll 121 = .ok (.goto 18, 3) := by decide +kernel
theorem dX4_readAll_124 : decode cX4_readAll 124 = .ok (.aload_n 0, 1) := by decide +kernel
theorem dX4_readAll_125 : decode cX4_readAll 125 = .ok (.aload_n 0, 1) := by decide +kernel
theorem dX4_readAll_126 : decode cX4_readAll 126 = .ok (.getfield 24, 3) := by decide +kernel
theorem dX4_readAll_129 : decode cX4_readAll 129 = .ok (.aload_n 0, 1) := by decide +kernel
theorem dX4_readAll_130 : decode cX4_readAll 130 = .ok (.getfield 31, 3) := by decide +kernel
theorem dX4_readAll_133 : decode cX4_readAll 133 = .ok (.invokevirtual 82, 3) := by decide +kernel
theorem dX4_readAll_136 : decode cX4_readAll 136 = .ok (.putfield 39, 3) := by decide +kernel
theorem dX4_readAll_139 : decode cX4_readAll 139 = .ok (.iinc 1 1, 3) := by decide +kernel
theorem dX4_readAll_142 : decode cX4_readAll 142 = .ok (.goto (-123), 3) := by decide +kernel
theorem dX4_readAll_145 : decode cX4_readAll 145 = .ok (.aload_n 0, 1) := by decide +kernel
theorem dX4_readAll_146 : decode cX4_readAll 146 = .ok (.getfield 15, 3) := by decide +kernel
theorem dX4_readAll_149 : decode cX4_readAll 149 = .ok (.areturn, 1) := by decide +kernel
theorem dX4_isMarkup_0 : decode cX4_isMarkup 0 = .ok (.aload_n 0, 1) := by decide +kernel
theorem dX4_isMarkup_1 : decode cX4_isMarkup 1 = .ok (.getfield 9, 3) := by decide +kernel
theorem dX4_isMarkup_4 : decode cX4_isMarkup 4 = .ok (.iload_n 1, 1) := by decide +kernel
theorem dX4_isMarkup_5 : decode cX4_isMarkup 5 = .ok (.iconst 1, 1) := by decide +kernel
theorem dX4_isMarkup_6 : decode cX4_isMarkup 6 = .ok (.iadd, 1) := by decide +kernel
theorem dX4_isMarkup_7 : decode cX4_isMarkup 7 = .ok (.invokevirtual 86, 3) := by decide +kernel
theorem dX4_isMarkup_10 : decode cX4_isMarkup 10 = .ok (.istore_n 2, 1) := by decide +kernel
theorem dX4_isMarkup_11 : decode cX4_isMarkup 11 = .ok (.aload_n 0, 1) := by decide +kernel
theorem dX4_isMarkup_12 : decode cX4_isMarkup 12 = .ok (.getfield 9, 3) := by decide +kernel
theorem dX4_isMarkup_15 : decode cX4_isMarkup 15 = .ok (.iload_n 1, 1) := by decide +kernel
theorem dX4_isMarkup_16 : decode cX4_isMarkup 16 = .ok (.invokevirtual 86, 3) := by decide +kernel
theorem dX4_isMarkup_19 : decode cX4_isMarkup 19 = .ok (.bipush 60, 2) := by decide +kernel
theorem dX4_isMarkup_21 : decode cX4_isMarkup 21 = .ok (.if_icmp .ne 32, 3) := by decide +kernel
theorem dX4_isMarkup_24 : decode cX4_isMarkup 24 = .ok (.iload_n 2, 1) := by decide +kernel
theorem dX4_isMarkup_25 : decode cX4_isMarkup 25 = .ok (.bipush 33, 2) := by decide +kernel
theorem dX4_isMarkup_27 : decode cX4_isMarkup 27 = .ok (.if_icmp .eq 22, 3) := by decide +kernel
theorem dX4_isMarkup_30 : decode cX4_isMarkup 30 = .ok (.iload_n 2, 1) := by decide +kernel
theorem dX4_isMarkup_31 : decode cX4_isMarkup 31 = .ok (.bipush 63, 2) := by decide +kernel
theorem dX4_isMarkup_33 : decode cX4_isMarkup 33 = .ok (.if_icmp .eq 16, 3) := by decide +kernel
theorem dX4_isMarkup_36 : decode cX4_isMarkup 36 = .ok (.iload_n 2, 1) := by decide +kernel
theorem dX4_isMarkup_37 : decode cX4_isMarkup 37 = .ok (.bipush 47, 2) := by decide +kernel
theorem dX4_isMarkup_39 : decode cX4_isMarkup 39 = .ok (.if_icmp .eq 10, 3) := by decide +kernel
theorem dX4_isMarkup_42 : decode cX4_isMarkup 42 = .ok (.iload_n 2, 1) := by decide +kernel
theorem dX4_isMarkup_43 : decode cX4_isMarkup 43 = .ok (.invokestatic 89, 3) := by decide +kernel
theorem dX4_isMarkup_46 : decode cX4_isMarkup 46 = .ok (.ifCond .eq 7, 3) := by decide +kernel
theorem dX4_isMarkup_49 : decode cX4_isMarkup 49 = .ok (.iconst 1, 1) := by decide +kernel
theorem dX4_isMarkup_50 : decode cX4_isMarkup 50 = .ok (.goto 4, 3) := by decide +kernel
theorem dX4_isMarkup_53 : decode cX4_isMarkup 53 = .ok (.iconst 0, 1) := by decide +kernel
theorem dX4_isMarkup_54 : decode cX4_isMarkup 54 = .ok (.ireturn, 1) := by decide +kernel
theorem dX4_isTag_0 : decode cX4_isTag 0 = .ok (.aload_n 0, 1) := by decide +kernel
theorem dX4_isTag_1 : decode cX4_isTag 1 = .ok (.getfield 9, 3) := by decide +kernel
theorem dX4_isTag_4 : decode cX4_isTag 4 = .ok (.iload_n 1, 1) := by decide +kernel
theorem dX4_isTag_5 : decode cX4_isTag 5 = .ok (.iconst 1, 1) := by decide +kernel
theorem dX4_isTag_6 : decode cX4_isTag 6 = .ok (.iadd, 1) := by decide +kernel
theorem dX4_isTag_7 : decode cX4_isTag 7 = .ok (.invokevirtual 86, 3) := by decide +kernel
theorem dX4_isTag_10 : decode cX4_isTag 10 = .ok (.istore_n 2, 1) := by decide +kernel
theorem dX4_isTag_11 : decode cX4_isTag 11 = .ok (.iload_n 2, 1) := by decide +kernel
theorem dX4_isTag_12 : decode cX4_isTag 12 = .ok (.invokestatic 89, 3) := by decide +kernel
theorem dX4_isTag_15 : decode cX4_isTag 15 = .ok (.ifCond .ne 25, 3) := by decide +kernel
theorem dX4_isTag_18 : decode cX4_isTag 18 = .ok (.iload_n 2, 1) := by decide +kernel
theorem dX4_isTag_19 : decode cX4_isTag 19 = .ok (.bipush 47, 2) := by decide +kernel
theorem dX4_isTag_21 : decode cX4_isTag 21 = .ok (.if_icmp .ne 23, 3) := by decide +kernel
theorem dX4_isTag_24 : decode cX4_isTag 24 = .ok (.aload_n 0, 1) := by decide +kernel
theorem dX4_isTag_25 : decode cX4_isTag 25 = .ok (.getfield 9, 3) := by decide +kernel
theorem dX4_isTag_28 : decode cX4_isTag 28 = .ok (.iload_n 1, 1) := by decide +kernel
theorem dX4_isTag_29 : decode cX4_isTag 29 = .ok (.iconst 2, 1) := by decide +kernel
theorem dX4_isTag_30 : decode cX4_isTag 30 = .ok (.iadd, 1) := by decide +kernel
theorem dX4_isTag_31 : decode cX4_isTag 31 = .ok (.invokevirtual 86, 3) := by decide +kernel
theorem dX4_isTag_34 : decode cX4_isTag 34 = .ok (.invokestatic 89, 3) := by decide +kernel
theorem dX4_isTag_37 : decode cX4_isTag 37 = .ok (.ifCond .eq 7, 3) := by decide +kernel
theorem dX4_isTag_40 : decode cX4_isTag 40 = .ok (.iconst 1, 1) := by decide +kernel
theorem dX4_isTag_41 : decode cX4_isTag 41 = .ok (.goto 4, 3) := by decide +kernel
theorem dX4_isTag_44 : decode cX4_isTag 44 = .ok (.iconst 0, 1) := by decide +kernel
theorem dX4_isTag_45 : decode cX4_isTag 45 = .ok (.ireturn, 1) := by decide +kernel
theorem dX4_readRaw_0 : decode cX4_readRaw 0 = .ok (.aload_n 0, 1) := by decide +kernel
theorem dX4_readRaw_1 : decode cX4_readRaw 1 = .ok (.getfield 35, 3) := by decide +kernel
theorem dX4_readRaw_4 : decode cX4_readRaw 4 = .ok (.istore_n 1, 1) := by decide +kernel
theorem dX4_readRaw_5 : decode cX4_readRaw 5 = .ok (.aload_n 0, 1) := by decide +kernel
theorem dX4_readRaw_6 : decode cX4_readRaw 6 = .ok (.getfield 35, 3) := by decide +kernel
theorem dX4_readRaw_9 : decode cX4_readRaw 9 = .ok (.aload_n 0, 1) := by decide +kernel
theorem dX4_readRaw_10 : decode cX4_readRaw 10 = .ok (.getfield 9, 3) := by decide +kernel
theorem dX4_readRaw_13 : decode cX4_readRaw 13 = .ok (.invokevirtual 46, 3) := by decide +kernel
theorem dX4_readRaw_16 : decode cX4_readRaw 16 = .ok (.if_icmp .ge 27, 3) := by decide +kernel
theorem dX4_readRaw_19 : decode cX4_readRaw 19 = .ok (.aload_n 0, 1) := by decide +kernel
theorem dX4_readRaw_20 : decode cX4_readRaw 20 = .ok (.aload_n 0, 1) := by decide +kernel
theorem dX4_readRaw_21 : decode cX4_readRaw 21 = .ok (.getfield 35, 3) := by decide +kernel
theorem dX4_readRaw_24 : decode cX4_readRaw 24 = .ok (.invokevirtual 93, 3) := by decide +kernel
theorem dX4_readRaw_27 : decode cX4_readRaw 27 = .ok (.ifCond .ne 16, 3) := by decide +kernel
theorem dX4_readRaw_30 : decode cX4_readRaw 30 = .ok (.aload_n 0, 1) := by decide +kernel
theorem dX4_readRaw_31 : decode cX4_readRaw 31 = .ok (.dup, 1) := by decide +kernel
theorem dX4_readRaw_32 : decode cX4_readRaw 32 = .ok (.getfield 35, 3) := by decide +kernel
theorem dX4_readRaw_35 : decode cX4_readRaw 35 = .ok (.iconst 1, 1) := by decide +kernel
theorem dX4_readRaw_36 : decode cX4_readRaw 36 = .ok (.iadd, 1) := by decide +kernel
theorem dX4_readRaw_37 : decode cX4_readRaw 37 = .ok (.putfield 35, 3) := by decide +kernel
theorem dX4_readRaw_40 : decode cX4_readRaw 40 = .ok (.goto (-35), 3) := by decide +kernel
theorem dX4_readRaw_43 : decode cX4_readRaw 43 = .ok (.aload_n 0, 1) := by decide +kernel
theorem dX4_readRaw_44 : decode cX4_readRaw 44 = .ok (.getfield 35, 3) := by decide +kernel
theorem dX4_readRaw_47 : decode cX4_readRaw 47 = .ok (.iload_n 1, 1) := by decide +kernel
theorem dX4_readRaw_48 : decode cX4_readRaw 48 = .ok (.if_icmp .le 26, 3) := by decide +kernel
theorem dX4_readRaw_51 : decode cX4_readRaw 51 = .ok (.aload_n 0, 1) := by decide +kernel
theorem dX4_readRaw_52 : decode cX4_readRaw 52 = .ok (.getfield 15, 3) := by decide +kernel
theorem dX4_readRaw_55 : decode cX4_readRaw 55 = .ok (.aload_n 0, 1) := by decide +kernel
theorem dX4_readRaw_56 : decode cX4_readRaw 56 = .ok (.getfield 24, 3) := by decide +kernel
theorem dX4_readRaw_59 : decode cX4_readRaw 59 = .ok (.invokevirtual 96, 3) := by decide +kernel
theorem dX4_readRaw_62 : decode cX4_readRaw 62 = .ok (.aload_n 0, 1) := by decide +kernel
theorem dX4_readRaw_63 : decode cX4_readRaw 63 = .ok (.getfield 9, 3) := by decide +kernel
theorem dX4_readRaw_66 : decode cX4_readRaw 66 = .ok (.iload_n 1, 1) := by decide +kernel
theorem dX4_readRaw_67 : decode cX4_readRaw 67 = .ok (.aload_n 0, 1) := by decide +kernel
theorem dX4_readRaw_68 : decode cX4_readRaw 68 = .ok (.getfield 35, 3) := by decide +kernel
theorem dX4_readRaw_71 : decode cX4_readRaw 71 = .ok (.invokevirtual 99, 3) := by decide +kernel
theorem dX4_readRaw_74 : decode cX4_readRaw 74 = .ok (.aload_n 0, 1) := by decide +kernel
theorem dX4_readRaw_75 : decode cX4_readRaw 75 = .ok (.iconst 0, 1) := by decide +kernel
theorem dX4_readRaw_76 : decode cX4_readRaw 76 = .ok (.putfield 39, 3) := by decide +kernel
theorem dX4_readRaw_79 : decode cX4_readRaw 79 = .ok (.return_, 1) := by decide +kernel
theorem dX4_isRawEnd_0 : decode cX4_isRawEnd 0 = .ok (.aload_n 0, 1) := by decide +kernel
theorem dX4_isRawEnd_1 : decode cX4_isRawEnd 1 = .ok (.getfield 9, 3) := by decide +kernel
theorem dX4_isRawEnd_4 : decode cX4_isRawEnd 4 = .ok (.iload_n 1, 1) := by decide +kernel
theorem dX4_isRawEnd_5 : decode cX4_isRawEnd 5 = .ok (.ldc 105, 2) := by decide +kernel
theorem dX4_isRawEnd_7 : decode cX4_isRawEnd 7 = .ok (.invokevirtual 107, 3) := by decide +kernel
theorem dX4_isRawEnd_10 : decode cX4_isRawEnd 10 = .ok (.ifCond .ne 18, 3) := by decide +kernel
theorem dX4_isRawEnd_13 : decode cX4_isRawEnd 13 = .ok (.aload_n 0, 1) := by decide +kernel
theorem dX4_isRawEnd_14 : decode cX4_isRawEnd 14 = .ok (.getfield 9, 3) := by decide +kernel
theorem dX4_isRawEnd_17 : decode cX4_isRawEnd 17 = .ok (.iload_n 1, 1) := by decide +kernel
theorem dX4_isRawEnd_18 : decode cX4_isRawEnd 18 = .ok (.ldc 111, 2) := by decide +kernel
theorem dX4_isRawEnd_20 : decode cX4_isRawEnd 20 = .ok (.invokevirtual 107, 3) := by decide +kernel
theorem dX4_isRawEnd_23 : decode cX4_isRawEnd 23 = .ok (.ifCond .ne 5, 3) := by decide +kernel
theorem dX4_isRawEnd_26 : decode cX4_isRawEnd 26 = .ok (.iconst 0, 1) := by decide +kernel
theorem dX4_isRawEnd_27 : decode cX4_isRawEnd 27 = .ok (.ireturn, 1) := by decide +kernel
theorem dX4_isRawEnd_28 : decode cX4_isRawEnd 28 = .ok (.aload_n 0, 1) := by decide +kernel
theorem dX4_isRawEnd_29 : decode cX4_isRawEnd 29 = .ok (.getfield 9, 3) := by decide +kernel
theorem dX4_isRawEnd_32 : decode cX4_isRawEnd 32 = .ok (.iload_n 1, 1) := by decide +kernel
theorem dX4_isRawEnd_33 : decode cX4_isRawEnd 33 = .ok (.iconst 3, 1) := by decide +kernel
theorem dX4_isRawEnd_34 : decode cX4_isRawEnd 34 = .ok (.iadd, 1) := by decide +kernel
theorem dX4_isRawEnd_35 : decode cX4_isRawEnd 35 = .ok (.invokevirtual 86, 3) := by decide +kernel
theorem dX4_isRawEnd_38 : decode cX4_isRawEnd 38 = .ok (.istore_n 2, 1) := by decide +kernel
theorem dX4_isRawEnd_39 : decode cX4_isRawEnd 39 = .ok (.iload_n 2, 1) := by decide +kernel
theorem dX4_isRawEnd_40 : decode cX4_isRawEnd 40 = .ok (.bipush 32, 2) := by decide +kernel
theorem dX4_isRawEnd_42 : decode cX4_isRawEnd 42 = .ok (.if_icmp .eq 19, 3) := by decide +kernel
theorem dX4_isRawEnd_45 : decode cX4_isRawEnd 45 = .ok (.iload_n 2, 1) := by decide +kernel
theorem dX4_isRawEnd_46 : decode cX4_isRawEnd 46 = .ok (.bipush 47, 2) := by decide +kernel
theorem dX4_isRawEnd_48 : decode cX4_isRawEnd 48 = .ok (.if_icmp .eq 13, 3) := by decide +kernel
theorem dX4_isRawEnd_51 : decode cX4_isRawEnd 51 = .ok (.iload_n 2, 1) := by decide +kernel
theorem dX4_isRawEnd_52 : decode cX4_isRawEnd 52 = .ok (.bipush 62, 2) := by decide +kernel
theorem dX4_isRawEnd_54 : decode cX4_isRawEnd 54 = .ok (.if_icmp .eq 7, 3) := by decide +kernel
theorem dX4_isRawEnd_57 : decode cX4_isRawEnd 57 = .ok (.iload_n 2, 1) := by decide +kernel
theorem dX4_isRawEnd_58 : decode cX4_isRawEnd 58 = .ok (.ifCond .ne 7, 3) := by decide +kernel
theorem dX4_isRawEnd_61 : decode cX4_isRawEnd 61 = .ok (.iconst 1, 1) := by decide +kernel
theorem dX4_isRawEnd_62 : decode cX4_isRawEnd 62 = .ok (.goto 4, 3) := by decide +kernel
theorem dX4_isRawEnd_65 : decode cX4_isRawEnd 65 = .ok (.iconst 0, 1) := by decide +kernel
theorem dX4_isRawEnd_66 : decode cX4_isRawEnd 66 = .ok (.ireturn, 1) := by decide +kernel
theorem dX4_readText_0 : decode cX4_readText 0 = .ok (.aload_n 0, 1) := by decide +kernel
theorem dX4_readText_1 : decode cX4_readText 1 = .ok (.getfield 35, 3) := by decide +kernel
theorem dX4_readText_4 : decode cX4_readText 4 = .ok (.istore_n 1, 1) := by decide +kernel
theorem dX4_readText_5 : decode cX4_readText 5 = .ok (.aload_n 0, 1) := by decide +kernel
theorem dX4_readText_6 : decode cX4_readText 6 = .ok (.dup, 1) := by decide +kernel
theorem dX4_readText_7 : decode cX4_readText 7 = .ok (.getfield 35, 3) := by decide +kernel
theorem dX4_readText_10 : decode cX4_readText 10 = .ok (.iconst 1, 1) := by decide +kernel
theorem dX4_readText_11 : decode cX4_readText 11 = .ok (.iadd, 1) := by decide +kernel
theorem dX4_readText_12 : decode cX4_readText 12 = .ok (.putfield 35, 3) := by decide +kernel
theorem dX4_readText_15 : decode cX4_readText 15 = .ok (.aload_n 0, 1) := by decide +kernel
theorem dX4_readText_16 : decode cX4_readText 16 = .ok (.getfield 35, 3) := by decide +kernel
theorem dX4_readText_19 : decode cX4_readText 19 = .ok (.aload_n 0, 1) := by decide +kernel
theorem dX4_readText_20 : decode cX4_readText 20 = .ok (.getfield 9, 3) := by decide +kernel
theorem dX4_readText_23 : decode cX4_readText 23 = .ok (.invokevirtual 46, 3) := by decide +kernel
theorem dX4_readText_26 : decode cX4_readText 26 = .ok (.if_icmp .ge 27, 3) := by decide +kernel
theorem dX4_readText_29 : decode cX4_readText 29 = .ok (.aload_n 0, 1) := by decide +kernel
theorem dX4_readText_30 : decode cX4_readText 30 = .ok (.aload_n 0, 1) := by decide +kernel
theorem dX4_readText_31 : decode cX4_readText 31 = .ok (.getfield 35, 3) := by decide +kernel
theorem dX4_readText_34 : decode cX4_readText 34 = .ok (.invokevirtual 55, 3) := by decide +kernel
theorem dX4_readText_37 : decode cX4_readText 37 = .ok (.ifCond .ne 16, 3) := by decide +kernel
theorem dX4_readText_40 : decode cX4_readText 40 = .ok (.aload_n 0, 1) := by decide +kernel
theorem dX4_readText_41 : decode cX4_readText 41 = .ok (.dup, 1) := by decide +kernel
theorem dX4_readText_42 : decode cX4_readText 42 = .ok (.getfield 35, 3) := by decide +kernel
theorem dX4_readText_45 : decode cX4_readText 45 = .ok (.iconst 1, 1) := by decide +kernel
theorem dX4_readText_46 : decode cX4_readText 46 = .ok (.iadd, 1) := by decide +kernel
theorem dX4_readText_47 : decode cX4_readText 47 = .ok (.putfield 35, 3) := by decide +kernel
theorem dX4_readText_50 : decode cX4_readText 50 = .ok (.goto (-35), 3) := by decide +kernel
theorem dX4_readText_53 : decode cX4_readText 53 = .ok (.aload_n 0, 1) := by decide +kernel
theorem dX4_readText_54 : decode cX4_readText 54 = .ok (.getfield 15, 3) := by decide +kernel
theorem dX4_readText_57 : decode cX4_readText 57 = .ok (.aload_n 0, 1) := by decide +kernel
theorem dX4_readText_58 : decode cX4_readText 58 = .ok (.getfield 24, 3) := by decide +kernel
theorem dX4_readText_61 : decode cX4_readText 61 = .ok (.invokevirtual 96, 3) := by decide +kernel
theorem dX4_readText_64 : decode cX4_readText 64 = .ok (.aload_n 0, 1) := by decide +kernel
theorem dX4_readText_65 : decode cX4_readText 65 = .ok (.getfield 9, 3) := by decide +kernel
theorem dX4_readText_68 : decode cX4_readText 68 = .ok (.iload_n 1, 1) := by decide +kernel
theorem dX4_readText_69 : decode cX4_readText 69 = .ok (.aload_n 0, 1) := by decide +kernel
theorem dX4_readText_70 : decode cX4_readText 70 = .ok (.getfield 35, 3) := by decide +kernel
theorem dX4_readText_73 : decode cX4_readText 73 = .ok (.invokevirtual 113, 3) := by decide +kernel
theorem dX4_readText_76 : decode cX4_readText 76 = .ok (.return_, 1) := by decide +kernel
theorem dX4_readComment_0 : decode cX4_readComment 0 = .ok (.aload_n 0, 1) := by decide +kernel
theorem dX4_readComment_1 : decode cX4_readComment 1 = .ok (.getfield 9, 3) := by decide +kernel
theorem dX4_readComment_4 : decode cX4_readComment 4 = .ok (.aload_n 0, 1) := by decide +kernel
theorem dX4_readComment_5 : decode cX4_readComment 5 = .ok (.getfield 35, 3) := by decide +kernel
theorem dX4_readComment_8 : decode cX4_readComment 8 = .ok (.ldc 116, 2) := by decide +kernel
theorem dX4_readComment_10 : decode cX4_readComment 10 = .ok (.invokevirtual 107, 3) := by decide +kernel
theorem dX4_readComment_13 : decode cX4_readComment 13 = .ok (.istore_n 1, 1) := by decide +kernel
theorem dX4_readComment_14 : decode cX4_readComment 14 = .ok (.iload_n 1, 1) := by decide +kernel
theorem dX4_readComment_15 : decode cX4_readComment 15 = .ok (.ifCond .eq 8, 3) := by decide +kernel
theorem dX4_readComment_18 : decode cX4_readComment 18 = .ok (.ldc 118, 2) := by decide +kernel
theorem dX4_readComment_20 : decode cX4_readComment 20 = .ok (.goto 5, 3) := by decide +kernel
theorem dX4_readComment_23 : decode cX4_readComment 23 = .ok (.ldc 120, 2) := by decide +kernel
theorem dX4_readComment_25 : decode cX4_readComment 25 = .ok (.astore_n 2, 1) := by decide +kernel
theorem dX4_readComment_26 : decode cX4_readComment 26 = .ok (.aload_n 0, 1) := by decide +kernel
theorem dX4_readComment_27 : decode cX4_readComment 27 = .ok (.getfield 35, 3) := by decide +kernel
theorem dX4_readComment_30 : decode cX4_readComment 30 = .ok (.iload_n 1, 1) := by decide +kernel
theorem dX4_readComment_31 : decode cX4_readComment 31 = .ok (.ifCond .eq 11, 3) := by decide +kernel
theorem dX4_readComment_34 : decode cX4_readComment 34 = .ok (.ldc 116, 2) := by decide +kernel
theorem dX4_readComment_36 : decode cX4_readComment 36 = .ok (.invokevirtual 122, 3) := by decide +kernel
theorem dX4_readComment_39 : decode cX4_readComment 39 = .ok (.goto 4, 3) := by decide +kernel
theorem dX4_readComment_42 : decode cX4_readComment 42 = .ok (.iconst 2, 1) := by decide +kernel
theorem dX4_readComment_43 : decode cX4_readComment 43 = .ok (.iadd, 1) := by decide +kernel
theorem dX4_readComment_44 : decode cX4_readComment 44 = .ok (.istore_n 3, 1) := by decide +kernel
theorem dX4_readComment_45 : decode cX4_readComment 45 = .ok (.iload_n 3, 1) := by decide +kernel
theorem dX4_readComment_46 : decode cX4_readComment 46 = .ok (.istore 4, 2) := by decide +kernel
theorem dX4_readComment_48 : decode cX4_readComment 48 = .ok (.iload 4, 2) := by decide +kernel
theorem dX4_readComment_50 : decode cX4_readComment 50 = .ok (.aload_n 0, 1) := by decide +kernel
theorem dX4_readComment_51 : decode cX4_readComment 51 = .ok (.getfield 9, 3) := by decide +kernel
theorem dX4_readComment_54 : decode cX4_readComment 54 = .ok (.invokevirtual 46, 3) := by decide +kernel
theorem dX4_readComment_57 : decode cX4_readComment 57 = .ok (.if_icmp .ge 22, 3) := by decide +kernel
theorem dX4_readComment_60 : decode cX4_readComment 60 = .ok (.aload_n 0, 1) := by decide +kernel
theorem dX4_readComment_61 : decode cX4_readComment 61 = .ok (.getfield 9, 3) := by decide +kernel
theorem dX4_readComment_64 : decode cX4_readComment 64 = .ok (.iload 4, 2) := by decide +kernel
theorem dX4_readComment_66 : decode cX4_readComment 66 = .ok (.aload_n 2, 1) := by decide +kernel
theorem dX4_readComment_67 : decode cX4_readComment 67 = .ok (.invokevirtual 107, 3) := by decide +kernel
theorem dX4_readComment_70 : decode cX4_readComment 70 = .ok (.ifCond .ne 9, 3) := by decide +kernel
theorem dX4_readComment_73 : decode cX4_readComment 73 = .ok (.iinc 4 1, 3) := by decide +kernel
theorem dX4_readComment_76 : decode cX4_readComment 76 = .ok (.goto (-28), 3) := by decide +kernel
theorem dX4_readComment_79 : decode cX4_readComment 79 = .ok (.aload_n 0, 1) := by decide +kernel
theorem dX4_readComment_80 : decode cX4_readComment 80 = .ok (.getfield 15, 3) := by decide +kernel
theorem dX4_readComment_83 : decode cX4_readComment 83 = .ok (.aload_n 0, 1) := by decide +kernel
theorem dX4_readComment_84 : decode cX4_readComment 84 = .ok (.getfield 24, 3) := by decide +kernel
theorem dX4_readComment_87 : decode cX4_readComment 87 = .ok (.invokevirtual 96, 3) := by decide +kernel
theorem dX4_readComment_90 : decode cX4_readComment 90 = .ok (.aload_n 0, 1) := by decide +kernel
theorem dX4_readComment_91 : decode cX4_readComment 91 = .ok (.getfield 9, 3) := by decide +kernel
theorem dX4_readComment_94 : decode cX4_readComment 94 = .ok (.iload_n 3, 1) := by decide +kernel
theorem dX4_readComment_95 : decode cX4_readComment 95 = .ok (.iload 4, 2) := by decide +kernel
theorem dX4_readComment_97 : decode cX4_readComment 97 = .ok (.invokevirtual 127, 3) := by decide +kernel
theorem dX4_readComment_100 : decode cX4_readComment 100 = .ok (.aload_n 0, 1) := by decide +kernel
theorem dX4_readComment_101 : decode cX4_readComment 101 = .ok (.iload 4, 2) := by decide +kernel
theorem dX4_readComment_103 : decode cX4_readComment 103 = .ok (.aload_n 2, 1) := by decide +kernel
theorem dX4_readComment_104 : decode cX4_readComment 104 = .ok (.invokevirtual 122, 3) := by decide +kernel
theorem dX4_readComment_107 : decode cX4_readComment 107 = .ok (.iadd, 1) := by decide +kernel
theorem dX4_readComment_108 : decode cX4_readComment 108 = .ok (.putfield 35, 3) := by decide +kernel
theorem dX4_readComment_111 : decode cX4_readComment 111 = .ok (.return_, 1) := by decide +kernel
theorem dX4_readTag_0 : decode cX4_readTag 0 = .ok (.aload_n 0, 1) := by decide +kernel
theorem dX4_readTag_1 : decode cX4_readTag 1 = .ok (.getfield 9, 3) := by decide +kernel
theorem dX4_readTag_4 : decode cX4_readTag 4 = .ok (.aload_n 0, 1) := by decide +kernel
theorem dX4_readTag_5 : decode cX4_readTag 5 = .ok (.getfield 35, 3) := by decide +kernel
theorem dX4_readTag_8 : decode cX4_readTag 8 = .ok (.iconst 1, 1) := by decide +kernel
theorem dX4_readTag_9 : decode cX4_readTag 9 = .ok (.iadd, 1) := by decide +kernel
theorem dX4_readTag_10 : decode cX4_readTag 10 = .ok (.invokevirtual 86, 3) := by decide +kernel
theorem dX4_readTag_13 : decode cX4_readTag 13 = .ok (.bipush 47, 2) := by decide +kernel
theorem dX4_readTag_15 : decode cX4_readTag 15 = .ok (.if_icmp .ne 7, 3) := by decide +kernel
theorem dX4_readTag_18 : decode cX4_readTag 18 = .ok (.iconst 1, 1) := by decide +kernel
theorem dX4_readTag_19 : decode cX4_readTag 19 = .ok (.goto 4, 3) := by decide +kernel
theorem dX4_readTag_22 : decode cX4_readTag 22 = .ok (.iconst 0, 1) := by decide +kernel
theorem dX4_readTag_23 : decode cX4_readTag 23 = .ok (.istore_n 1, 1) := by decide +kernel
theorem dX4_readTag_24 : decode cX4_readTag 24 = .ok (.aload_n 0, 1) := by decide +kernel
theorem dX4_readTag_25 : decode cX4_readTag 25 = .ok (.dup, 1) := by decide +kernel
theorem dX4_readTag_26 : decode cX4_readTag 26 = .ok (.getfield 35, 3) := by decide +kernel
theorem dX4_readTag_29 : decode cX4_readTag 29 = .ok (.iload_n 1, 1) := by decide +kernel
theorem dX4_readTag_30 : decode cX4_readTag 30 = .ok (.ifCond .eq 7, 3) := by decide +kernel
theorem dX4_readTag_33 : decode cX4_readTag 33 = .ok (.iconst 2, 1) := by decide +kernel
theorem dX4_readTag_34 : decode cX4_readTag 34 = .ok (.goto 4, 3) := by decide +kernel
theorem dX4_readTag_37 : decode cX4_readTag 37 = .ok (.iconst 1, 1) := by decide +kernel
theorem dX4_readTag_38 : decode cX4_readTag 38 = .ok (.iadd, 1) := by decide +kernel
theorem dX4_readTag_39 : decode cX4_readTag 39 = .ok (.putfield 35, 3) := by decide +kernel
theorem dX4_readTag_42 : decode cX4_readTag 42 = .ok (.aload_n 0, 1) := by decide +kernel
theorem dX4_readTag_43 : decode cX4_readTag 43 = .ok (.getfield 31, 3) := by decide +kernel
theorem dX4_readTag_46 : decode cX4_readTag 46 = .ok (.aload_n 0, 1) := by decide +kernel
theorem dX4_readTag_47 : decode cX4_readTag 47 = .ok (.invokevirtual 130, 3) := by decide +kernel
theorem dX4_readTag_50 : decode cX4_readTag 50 = .ok (.iload_n 1, 1) := by decide +kernel
theorem dX4_readTag_51 : decode cX4_readTag 51 = .ok (.invokevirtual 133, 3) := by decide +kernel
theorem dX4_readTag_54 : decode cX4_readTag 54 = .ok (.iconst 0, 1) := by decide +kernel
theorem dX4_readTag_55 : decode cX4_readTag 55 = .ok (.istore_n 2, 1) := by decide +kernel
theorem dX4_readTag_56 : decode cX4_readTag 56 = .ok (.iload_n 2, 1) := by decide +kernel
theorem dX4_readTag_57 : decode cX4_readTag 57 = .ok (.sipush 200, 3) := by decide +kernel
theorem dX4_readTag_60 : decode cX4_readTag 60 = .ok (.if_icmp .ge 82, 3) := by decide +kernel
theorem dX4_readTag_63 : decode cX4_readTag 63 = .ok (.aload_n 0, 1) := by decide +kernel
theorem dX4_readTag_64 : decode cX4_readTag 64 = .ok (.getfield 35, 3) := by decide +kernel
theorem dX4_readTag_67 : decode cX4_readTag 67 = .ok (.aload_n 0, 1) := by decide +kernel
theorem dX4_readTag_68 : decode cX4_readTag 68 = .ok (.getfield 9, 3) := by decide +kernel
theorem dX4_readTag_71 : decode cX4_readTag 71 = .ok (.invokevirtual 46, 3) := by decide +kernel
theorem dX4_readTag_74 : decode cX4_readTag 74 = .ok (.if_icmp .ge 68, 3) := by decide +kernel
theorem dX4_readTag_77 : decode cX4_readTag 77 = .ok (.aload_n 0, 1) := by decide +kernel
theorem dX4_readTag_78 : decode cX4_readTag 78 = .ok (.getfield 9, 3) := by decide +kernel
theorem dX4_readTag_81 : decode cX4_readTag 81 = .ok (.aload_n 0, 1) := by decide +kernel
theorem dX4_readTag_82 : decode cX4_readTag 82 = .ok (.getfield 35, 3) := by decide +kernel
theorem dX4_readTag_85 : decode cX4_readTag 85 = .ok (.invokevirtual 86, 3) := by decide +kernel
theorem dX4_readTag_88 : decode cX4_readTag 88 = .ok (.istore_n 3, 1) := by decide +kernel
theorem dX4_readTag_89 : decode cX4_readTag 89 = .ok (.iload_n 3, 1) := by decide +kernel
theorem dX4_readTag_90 : decode cX4_readTag 90 = .ok (.bipush 62, 2) := by decide +kernel
theorem dX4_readTag_92 : decode cX4_readTag 92 = .ok (.if_icmp .ne 15, 3) := by decide +kernel
theorem dX4_readTag_95 : decode cX4_readTag 95 = .ok (.aload_n 0, 1) := by decide +kernel
theorem dX4_readTag_96 : decode cX4_readTag 96 = .ok (.dup, 1) := by decide +kernel
theorem dX4_readTag_97 : decode cX4_readTag 97 = .ok (.getfield 35, 3) := by decide +kernel
theorem dX4_readTag_100 : decode cX4_readTag 100 = .ok (.iconst 1, 1) := by decide +kernel
theorem dX4_readTag_101 : decode cX4_readTag 101 = .ok (.iadd, 1) := by decide +kernel
theorem dX4_readTag_102 : decode cX4_readTag 102 = .ok (.putfield 35, 3) := by decide +kernel
theorem dX4_readTag_105 : decode cX4_readTag 105 = .ok (.iconst 1, 1) := by decide +kernel
theorem dX4_readTag_106 : decode cX4_readTag 106 = .ok (.ireturn, 1) := by decide +kernel
theorem dX4_readTag_107 : decode cX4_readTag 107 = .ok (.iload_n 3, 1) := by decide +kernel
theorem dX4_readTag_108 : decode cX4_readTag 108 = .ok (.bipush 32, 2) := by decide +kernel
theorem dX4_readTag_110 : decode cX4_readTag 110 = .ok (.if_icmp .eq 9, 3) := by decide +kernel
theorem dX4_readTag_113 : decode cX4_readTag 113 = .ok (.iload_n 3, 1) := by decide +kernel
theorem dX4_readTag_114 : decode cX4_readTag 114 = .ok (.bipush 47, 2) := by decide +kernel
theorem dX4_readTag_116 : decode cX4_readTag 116 = .ok (.if_icmp .ne 16, 3) := by decide +kernel
theorem dX4_readTag_119 : decode cX4_readTag 119 = .ok (.aload_n 0, 1) := by decide +kernel
theorem dX4_readTag_120 : decode cX4_readTag 120 = .ok (.dup, 1) := by decide +kernel
theorem dX4_readTag_121 : decode cX4_readTag 121 = .ok (.getfield 35, 3) := by decide +kernel
theorem dX4_readTag_124 : decode cX4_readTag 124 = .ok (.iconst 1, 1) := by decide +kernel
theorem dX4_readTag_125 : decode cX4_readTag 125 = .ok (.iadd, 1) := by decide +kernel
theorem dX4_readTag_126 : decode cX4_readTag 126 = .ok (.putfield 35, 3) := by decide +kernel
theorem dX4_readTag_129 : decode cX4_readTag 129 = .ok (.goto 7, 3) := by decide +kernel
theorem dX4_readTag_132 : decode cX4_readTag 132 = .ok (.aload_n 0, 1) := by decide +kernel
theorem dX4_readTag_133 : decode cX4_readTag 133 = .ok (.invokevirtual 136, 3) := by decide +kernel
theorem dX4_readTag_136 : decode cX4_readTag 136 = .ok (.iinc 2 1, 3) := by decide +kernel
theorem dX4_readTag_139 : decode cX4_readTag 139 = .ok (.goto (-83), 3) := by decide +kernel
theorem dX4_readTag_142 : decode cX4_readTag 142 = .ok (.iconst 0, 1) := by decide +kernel
theorem dX4_readTag_143 : decode cX4_readTag 143 = .ok (.ireturn, 1) := by decide +kernel
theorem dX4_readName_0 : decode cX4_readName 0 = .ok (.aload_n 0, 1) := by decide +kernel
theorem dX4_readName_1 : decode cX4_readName 1 = .ok (.getfield 35, 3) := by decide +kernel
theorem dX4_readName_4 : decode cX4_readName 4 = .ok (.istore_n 1, 1) := by decide +kernel
theorem dX4_readName_5 : decode cX4_readName 5 = .ok (.aload_n 0, 1) := by decide +kernel
theorem dX4_readName_6 : decode cX4_readName 6 = .ok (.getfield 35, 3) := by decide +kernel
theorem dX4_readName_9 : decode cX4_readName 9 = .ok (.aload_n 0, 1) := by decide +kernel
theorem dX4_readName_10 : decode cX4_readName 10 = .ok (.getfield 9, 3) := by decide +kernel
theorem dX4_readName_13 : decode cX4_readName 13 = .ok (.invokevirtual 46, 3) := by decide +kernel
theorem dX4_readName_16 : decode cX4_readName 16 = .ok (.if_icmp .ge 33, 3) := by decide +kernel
theorem dX4_readName_19 : decode cX4_readName 19 = .ok (.aload_n 0, 1) := by decide +kernel
theorem dX4_readName_20 : decode cX4_readName 20 = .ok (.getfield 9, 3) := by decide +kernel
theorem dX4_readName_23 : decode cX4_readName 23 = .ok (.aload_n 0, 1) := by decide +kernel
theorem dX4_readName_24 : decode cX4_readName 24 = .ok (.getfield 35, 3) := by decide +kernel
theorem dX4_readName_27 : decode cX4_readName 27 = .ok (.invokevirtual 86, 3) := by decide +kernel
theorem dX4_readName_30 : decode cX4_readName 30 = .ok (.invokestatic 89, 3) := by decide +kernel
theorem dX4_readName_33 : decode cX4_readName 33 = .ok (.ifCond .eq 16, 3) := by decide +kernel
theorem dX4_readName_36 : decode cX4_readName 36 = .ok (.aload_n 0, 1) := by decide +kernel
theorem dX4_readName_37 : decode cX4_readName 37 = .ok (.dup, 1) := by decide +kernel
theorem dX4_readName_38 : decode cX4_readName 38 = .ok (.getfield 35, 3) := by decide +kernel
theorem dX4_readName_41 : decode cX4_readName 41 = .ok (.iconst 1, 1) := by decide +kernel
theorem dX4_readName_42 : decode cX4_readName 42 = .ok (.iadd, 1) := by decide +kernel
theorem dX4_readName_43 : decode cX4_readName 43 = .ok (.putfield 35, 3) := by decide +kernel
theorem dX4_readName_46 : decode cX4_readName 46 = .ok (.goto (-41), 3) := by decide +kernel
theorem dX4_readName_49 : decode cX4_readName 49 = .ok (.aload_n 0, 1) := by decide +kernel
theorem dX4_readName_50 : decode cX4_readName 50 = .ok (.getfield 35, 3) := by decide +kernel
theorem dX4_readName_53 : decode cX4_readName 53 = .ok (.iload_n 1, 1) := by decide +kernel
theorem dX4_readName_54 : decode cX4_readName 54 = .ok (.isub, 1) := by decide +kernel
theorem dX4_readName_55 : decode cX4_readName 55 = .ok (.iconst 1, 1) := by decide +kernel
theorem dX4_readName_56 : decode cX4_readName 56 = .ok (.if_icmp .ne 17, 3) := by decide +kernel
theorem dX4_readName_59 : decode cX4_readName 59 = .ok (.aload_n 0, 1) := by decide +kernel
theorem dX4_readName_60 : decode cX4_readName 60 = .ok (.getfield 9, 3) := by decide +kernel
theorem dX4_readName_63 : decode cX4_readName 63 = .ok (.iload_n 1, 1) := by decide +kernel
theorem dX4_readName_64 : decode cX4_readName 64 = .ok (.invokevirtual 86, 3) := by decide +kernel
theorem dX4_readName_67 : decode cX4_readName 67 = .ok (.invokestatic 139, 3) := by decide +kernel
theorem dX4_readName_70 : decode cX4_readName 70 = .ok (.goto 5, 3) := by decide +kernel
theorem dX4_readName_73 : decode cX4_readName 73 = .ok (.bipush 26, 2) := by decide +kernel
theorem dX4_readName_75 : decode cX4_readName 75 = .ok (.ireturn, 1) := by decide +kernel
theorem dX4_readAttribute_0 : decode cX4_readAttribute 0 = .ok (.aload_n 0, 1) := by decide +kernel
theorem dX4_readAttribute_1 : decode cX4_readAttribute 1 = .ok (.getfield 35, 3) := by decide +kernel
theorem dX4_readAttribute_4 : decode cX4_readAttribute 4 = .ok (.istore_n 1, 1) := by decide +kernel
theorem dX4_readAttribute_5 : decode cX4_readAttribute 5 = .ok (.aload_n 0, 1) := by decide +kernel
theorem dX4_readAttribute_6 : decode cX4_readAttribute 6 = .ok (.dup, 1) := by decide +kernel
theorem dX4_readAttribute_7 : decode cX4_readAttribute 7 = .ok (.getfield 35, 3) := by decide +kernel
theorem dX4_readAttribute_10 : decode cX4_readAttribute 10 = .ok (.iconst 1, 1) := by decide +kernel
theorem dX4_readAttribute_11 : decode cX4_readAttribute 11 = .ok (.iadd, 1) := by decide +kernel
theorem dX4_readAttribute_12 : decode cX4_readAttribute 12 = .ok (.putfield 35, 3) := by decide +kernel
theorem dX4_readAttribute_15 : decode cX4_readAttribute 15 = .ok (.aload_n 0, 1) := by decide +kernel
theorem dX4_readAttribute_16 : decode cX4_readAttribute 16 = .ok (.getfield 35, 3) := by decide +kernel
theorem dX4_readAttribute_19 : decode cX4_readAttribute 19 = .ok (.aload_n 0, 1) := by decide +kernel
theorem dX4_readAttribute_20 : decode cX4_readAttribute 20 = .ok (.getfield 9, 3) := by decide +kernel
theorem dX4_readAttribute_23 : decode cX4_readAttribute 23 = .ok (.invokevirtual 46, 3) := by decide +kernel
theorem dX4_readAttribute_26 : decode cX4_readAttribute 26 = .ok (.if_icmp .ge 33, 3) := by decide +kernel
theorem dX4_readAttribute_29 : decode cX4_readAttribute 29 = .ok (.aload_n 0, 1) := by decide +kernel
theorem dX4_readAttribute_30 : decode cX4_readAttribute 30 = .ok (.getfield 9, 3) := by decide +kernel
theorem dX4_readAttribute_33 : decode cX4_readAttribute 33 = .ok (.aload_n 0, 1) := by decide +kernel
theorem dX4_readAttribute_34 : decode cX4_readAttribute 34 = .ok (.getfield 35, 3) := by decide +kernel
theorem dX4_readAttribute_37 : decode cX4_readAttribute 37 = .ok (.invokevirtual 86, 3) := by decide +kernel
theorem dX4_readAttribute_40 : decode cX4_readAttribute 40 = .ok (.invokestatic 143, 3) := by decide +kernel
theorem dX4_readAttribute_43 : decode cX4_readAttribute 43 = .ok (.ifCond .ne 16, 3) := by decide +kernel
theorem dX4_readAttribute_46 : decode cX4_readAttribute 46 = .ok (.aload_n 0, 1) := by decide +kernel
theorem dX4_readAttribute_47 : decode cX4_readAttribute 47 = .ok (.dup, 1) := by decide +kernel
theorem dX4_readAttribute_48 : decode cX4_readAttribute 48 = .ok (.getfield 35, 3) := by decide +kernel
theorem dX4_readAttribute_51 : decode cX4_readAttribute 51 = .ok (.iconst 1, 1) := by decide +kernel
theorem dX4_readAttribute_52 : decode cX4_readAttribute 52 = .ok (.iadd, 1) := by decide +kernel
theorem dX4_readAttribute_53 : decode cX4_readAttribute 53 = .ok (.putfield 35, 3) := by decide +kernel
theorem dX4_readAttribute_56 : decode cX4_readAttribute 56 = .ok (.goto (-41), 3) := by decide +kernel
theorem dX4_readAttribute_59 : decode cX4_readAttribute 59 = .ok (.aload_n 0, 1) := by decide +kernel
theorem dX4_readAttribute_60 : decode cX4_readAttribute 60 = .ok (.getfield 35, 3) := by decide +kernel
theorem dX4_readAttribute_63 : decode cX4_readAttribute 63 = .ok (.iload_n 1, 1) := by decide +kernel
theorem dX4_readAttribute_64 : decode cX4_readAttribute 64 = .ok (.isub, 1) := by decide +kernel
theorem dX4_readAttribute_65 : decode cX4_readAttribute 65 = .ok (.iconst 1, 1) := by decide +kernel
theorem dX4_readAttribute_66 : decode cX4_readAttribute 66 = .ok (.if_icmp .ne 17, 3) := by decide +kernel
theorem dX4_readAttribute_69 : decode cX4_readAttribute 69 = .ok (.aload_n 0, 1) := by decide +kernel
theorem dX4_readAttribute_70 : decode cX4_readAttribute 70 = .ok (.getfield 9, 3) := by decide +kernel
theorem dX4_readAttribute_73 : decode cX4_readAttribute 73 = .ok (.iload_n 1, 1) := by decide +kernel
theorem dX4_readAttribute_74 : decode cX4_readAttribute 74 = .ok (.invokevirtual 86, 3) := by decide +kernel
theorem dX4_readAttribute_77 : decode cX4_readAttribute 77 = .ok (.invokestatic 139, 3) := by decide +kernel
theorem dX4_readAttribute_80 : decode cX4_readAttribute 80 = .ok (.goto 4, 3) := by decide +kernel
theorem dX4_readAttribute_83 : decode cX4_readAttribute 83 = .ok (.iconst (-1), 1) := by decide +kernel
theorem dX4_readAttribute_84 : decode cX4_readAttribute 84 = .ok (.istore_n 2, 1) := by decide +kernel
theorem dX4_readAttribute_85 : decode cX4_readAttribute 85 = .ok (.aload_n 0, 1) := by decide +kernel
theorem dX4_readAttribute_86 : decode cX4_readAttribute 86 = .ok (.invokevirtual 146, 3) := by decide +kernel
theorem dX4_readAttribute_89 : decode cX4_readAttribute 89 = .ok (.aload_n 0, 1) := by decide +kernel
theorem dX4_readAttribute_90 : decode cX4_readAttribute 90 = .ok (.getfield 9, 3) := by decide +kernel
theorem dX4_readAttribute_93 : decode cX4_readAttribute 93 = .ok (.aload_n 0, 1) := by decide +kernel
theorem dX4_readAttribute_94 : decode cX4_readAttribute 94 = .ok (.getfield 35, 3) := by decide +kernel
theorem dX4_readAttribute_97 : decode cX4_readAttribute 97 = .ok (.invokevirtual 86, 3) := by decide +kernel
theorem dX4_readAttribute_100 : decode cX4_readAttribute 100 = .ok (.bipush 61, 2) := by decide +kernel
theorem dX4_readAttribute_102 : decode cX4_readAttribute 102 = .ok (.if_icmp .ne 25, 3) := by decide +kernel
theorem dX4_readAttribute_105 : decode cX4_readAttribute 105 = .ok (.aload_n 0, 1) := by decide +kernel
theorem dX4_readAttribute_106 : decode cX4_readAttribute 106 = .ok (.dup, 1) := by decide +kernel
theorem dX4_readAttribute_107 : decode cX4_readAttribute 107 = .ok (.getfield 35, 3) := by decide +kernel
theorem dX4_readAttribute_110 : decode cX4_readAttribute 110 = .ok (.iconst 1, 1) := by decide +kernel
theorem dX4_readAttribute_111 : decode cX4_readAttribute 111 = .ok (.iadd, 1) := by decide +kernel
theorem dX4_readAttribute_112 : decode cX4_readAttribute 112 = .ok (.putfield 35, 3) := by decide +kernel
theorem dX4_readAttribute_115 : decode cX4_readAttribute 115 = .ok (.aload_n 0, 1) := by decide +kernel
theorem dX4_readAttribute_116 : decode cX4_readAttribute 116 = .ok (.invokevirtual 146, 3) := by decide +kernel
theorem dX4_readAttribute_119 : decode cX4_readAttribute 119 = .ok (.aload_n 0, 1) := by decide +kernel
theorem dX4_readAttribute_120 : decode cX4_readAttribute 120 = .ok (.iload_n 2, 1) := by decide +kernel
theorem dX4_readAttribute_121 : decode cX4_readAttribute 121 = .ok (.invokevirtual 149, 3) := by decide +kernel
theorem dX4_readAttribute_124 : decode cX4_readAttribute 124 = .ok (.goto 19, 3) := by decide +kernel
theorem dX4_readAttribute_127 : decode cX4_readAttribute 127 = .ok (.aload_n 0, 1) := by decide +kernel
theorem dX4_readAttribute_128 : decode cX4_readAttribute 128 = .ok (.getfield 31, 3) := by decide +kernel
theorem dX4_readAttribute_131 : decode cX4_readAttribute 131 = .ok (.iload_n 2, 1) := by decide +kernel
theorem dX4_readAttribute_132 : decode cX4_readAttribute 132 = .ok (.aload_n 0, 1) := by decide +kernel
theorem dX4_readAttribute_133 : decode cX4_readAttribute 133 = .ok (.getfield 35, 3) := by decide +kernel
theorem dX4_readAttribute_136 : decode cX4_readAttribute 136 = .ok (.aload_n 0, 1) := by decide +kernel
theorem dX4_readAttribute_137 : decode cX4_readAttribute 137 = .ok (.getfield 35, 3) := by decide +kernel
theorem dX4_readAttribute_140 : decode cX4_readAttribute 140 = .ok (.invokevirtual 152, 3) := by decide +kernel
theorem dX4_readAttribute_143 : decode cX4_readAttribute 143 = .ok (.return_, 1) := by decide +kernel
theorem dX4_isAttributeNameEnd_0 : decode cX4_isAttributeNameEnd 0 = .ok (.iload_n 0, 1) := by decide +kernel
theorem dX4_isAttributeNameEnd_1 : decode cX4_isAttributeNameEnd 1 = .ok (.bipush 32, 2) := by decide +kernel
theorem dX4_isAttributeNameEnd_3 : decode cX4_isAttributeNameEnd 3 = .ok (.if_icmp .eq 21, 3) := by decide +kernel
theorem dX4_isAttributeNameEnd_6 : decode cX4_isAttributeNameEnd 6 = .ok (.iload_n 0, 1) := by decide +kernel
theorem dX4_isAttributeNameEnd_7 : decode cX4_isAttributeNameEnd 7 = .ok (.bipush 47, 2) := by decide +kernel
theorem dX4_isAttributeNameEnd_9 : decode cX4_isAttributeNameEnd 9 = .ok (.if_icmp .eq 15, 3) := by decide +kernel
theorem dX4_isAttributeNameEnd_12 : decode cX4_isAttributeNameEnd 12 = .ok (.iload_n 0, 1) := by decide +kernel
theorem dX4_isAttributeNameEnd_13 : decode cX4_isAttributeNameEnd 13 = .ok (.bipush 62, 2) := by decide +kernel
theorem dX4_isAttributeNameEnd_15 : decode cX4_isAttributeNameEnd 15 = .ok (.if_icmp .eq 9, 3) := by decide +kernel
theorem dX4_isAttributeNameEnd_18 : decode cX4_isAttributeNameEnd 18 = .ok (.iload_n 0, 1) := by decide +kernel
theorem dX4_isAttributeNameEnd_19 : decode cX4_isAttributeNameEnd 19 = .ok (.bipush 61, 2) := by decide +kernel
theorem dX4_isAttributeNameEnd_21 : decode cX4_isAttributeNameEnd 21 = .ok (.if_icmp .ne 7, 3) := by decide +kernel
theorem dX4_isAttributeNameEnd_24 : decode cX4_isAttributeNameEnd 24 = .ok (.iconst 1, 1) := by decide +kernel
theorem dX4_isAttributeNameEnd_25 : decode cX4_isAttributeNameEnd 25 = .ok (.goto 4, 3) := by decide +kernel
theorem dX4_isAttributeNameEnd_28 : decode cX4_isAttributeNameEnd 28 = .ok (.iconst 0, 1) := by decide +kernel
theorem dX4_isAttributeNameEnd_29 : decode cX4_isAttributeNameEnd 29 = .ok (.ireturn, 1) := by decide +kernel
theorem dX4_passBlanks_0 : decode cX4_passBlanks 0 = .ok (.aload_n 0, 1) := by decide +kernel
theorem dX4_passBlanks_1 : decode cX4_passBlanks 1 = .ok (.getfield 35, 3) := by decide +kernel
theorem dX4_passBlanks_4 : decode cX4_passBlanks 4 = .ok (.aload_n 0, 1) := by decide +kernel
theorem dX4_passBlanks_5 : decode cX4_passBlanks 5 = .ok (.getfield 9, 3) := by decide +kernel
theorem dX4_passBlanks_8 : decode cX4_passBlanks 8 = .ok (.invokevirtual 46, 3) := by decide +kernel
theorem dX4_passBlanks_11 : decode cX4_passBlanks 11 = .ok (.if_icmp .ge 32, 3) := by decide +kernel
theorem dX4_passBlanks_14 : decode cX4_passBlanks 14 = .ok (.aload_n 0, 1) := by decide +kernel
theorem dX4_passBlanks_15 : decode cX4_passBlanks 15 = .ok (.getfield 9, 3) := by decide +kernel
theorem dX4_passBlanks_18 : decode cX4_passBlanks 18 = .ok (.aload_n 0, 1) := by decide +kernel
theorem dX4_passBlanks_19 : decode cX4_passBlanks 19 = .ok (.getfield 35, 3) := by decide +kernel
theorem dX4_passBlanks_22 : decode cX4_passBlanks 22 = .ok (.invokevirtual 86, 3) := by decide +kernel
theorem dX4_passBlanks_25 : decode cX4_passBlanks 25 = .ok (.bipush 32, 2) := by decide +kernel
theorem dX4_passBlanks_27 : decode cX4_passBlanks 27 = .ok (.if_icmp .ne 16, 3) := by decide +kernel
theorem dX4_passBlanks_30 : decode cX4_passBlanks 30 = .ok (.aload_n 0, 1) := by decide +kernel
theorem dX4_passBlanks_31 : decode cX4_passBlanks 31 = .ok (.dup, 1) := by decide +kernel
theorem dX4_passBlanks_32 : decode cX4_passBlanks 32 = .ok (.getfield 35, 3) := by decide +kernel
theorem dX4_passBlanks_35 : decode cX4_passBlanks 35 = .ok (.iconst 1, 1) := by decide +kernel
theorem dX4_passBlanks_36 : decode cX4_passBlanks 36 = .ok (.iadd, 1) := by decide +kernel
theorem dX4_passBlanks_37 : decode cX4_passBlanks 37 = .ok (.putfield 35, 3) := by decide +kernel
theorem dX4_passBlanks_40 : decode cX4_passBlanks 40 = .ok (.goto (-40), 3) := by decide +kernel
theorem dX4_passBlanks_43 : decode cX4_passBlanks 43 = .ok (.return_, 1) := by decide +kernel
theorem dX4_readValue_0 : decode cX4_readValue 0 = .ok (.aload_n 0, 1) := by decide +kernel
theorem dX4_readValue_1 : decode cX4_readValue 1 = .ok (.getfield 9, 3) := by decide +kernel
theorem dX4_readValue_4 : decode cX4_readValue 4 = .ok (.aload_n 0, 1) := by decide +kernel
theorem dX4_readValue_5 : decode cX4_readValue 5 = .ok (.getfield 35, 3) := by decide +kernel
theorem dX4_readValue_8 : decode cX4_readValue 8 = .ok (.invokevirtual 86, 3) := by decide +kernel
theorem dX4_readValue_11 : decode cX4_readValue 11 = .ok (.istore_n 2, 1) := by decide +kernel
theorem dX4_readValue_12 : decode cX4_readValue 12 = .ok (.iload_n 2, 1) := by decide +kernel
theorem dX4_readValue_13 : decode cX4_readValue 13 = .ok (.bipush 34, 2) := by decide +kernel
theorem dX4_readValue_15 : decode cX4_readValue 15 = .ok (.if_icmp .eq 9, 3) := by decide +kernel
theorem dX4_readValue_18 : decode cX4_readValue 18 = .ok (.iload_n 2, 1) := by decide +kernel
theorem dX4_readValue_19 : decode cX4_readValue 19 = .ok (.bipush 39, 2) := by decide +kernel
theorem dX4_readValue_21 : decode cX4_readValue 21 = .ok (.if_icmp .ne 7, 3) := by decide +kernel
theorem dX4_readValue_24 : decode cX4_readValue 24 = .ok (.iconst 1, 1) := by decide +kernel
theorem dX4_readValue_25 : decode cX4_readValue 25 = .ok (.goto 4, 3) := by decide +kernel
theorem dX4_readValue_28 : decode cX4_readValue 28 = .ok (.iconst 0, 1) := by decide +kernel
theorem dX4_readValue_29 : decode cX4_readValue 29 = .ok (.istore_n 3, 1) := by decide +kernel
theorem dX4_readValue_30 : decode cX4_readValue 30 = .ok (.aload_n 0, 1) := by decide +kernel
theorem dX4_readValue_31 : decode cX4_readValue 31 = .ok (.dup, 1) := by decide +kernel
theorem dX4_readValue_32 : decode cX4_readValue 32 = .ok (.getfield 35, 3) := by decide +kernel
theorem dX4_readValue_35 : decode cX4_readValue 35 = .ok (.iload_n 3, 1) := by decide +kernel
theorem dX4_readValue_36 : decode cX4_readValue 36 = .ok (.ifCond .eq 7, 3) := by decide +kernel
theorem dX4_readValue_39 : decode cX4_readValue 39 = .ok (.iconst 1, 1) := by decide +kernel
theorem dX4_readValue_40 : decode cX4_readValue 40 = .ok (.goto 4, 3) := by decide +kernel
theorem dX4_readValue_43 : decode cX4_readValue 43 = .ok (.iconst 0, 1) := by decide +kernel
theorem dX4_readValue_44 : decode cX4_readValue 44 = .ok (.iadd, 1) := by decide +kernel
theorem dX4_readValue_45 : decode cX4_readValue 45 = .ok (.putfield 35, 3) := by decide +kernel
theorem dX4_readValue_48 : decode cX4_readValue 48 = .ok (.aload_n 0, 1) := by decide +kernel
theorem dX4_readValue_49 : decode cX4_readValue 49 = .ok (.getfield 35, 3) := by decide +kernel
theorem dX4_readValue_52 : decode cX4_readValue 52 = .ok (.istore 4, 2) := by decide +kernel
theorem dX4_readValue_54 : decode cX4_readValue 54 = .ok (.aload_n 0, 1) := by decide +kernel
theorem dX4_readValue_55 : decode cX4_readValue 55 = .ok (.getfield 35, 3) := by decide +kernel
theorem dX4_readValue_58 : decode cX4_readValue 58 = .ok (.aload_n 0, 1) := by decide +kernel
theorem dX4_readValue_59 : decode cX4_readValue 59 = .ok (.getfield 9, 3) := by decide +kernel
theorem dX4_readValue_62 : decode cX4_readValue 62 = .ok (.invokevirtual 46, 3) := by decide +kernel
theorem dX4_readValue_65 : decode cX4_readValue 65 = .ok (.if_icmp .ge 35, 3) := by decide +kernel
theorem dX4_readValue_68 : decode cX4_readValue 68 = .ok (.aload_n 0, 1) := by decide +kernel
theorem dX4_readValue_69 : decode cX4_readValue 69 = .ok (.getfield 9, 3) := by decide +kernel
theorem dX4_readValue_72 : decode cX4_readValue 72 = .ok (.aload_n 0, 1) := by decide +kernel
theorem dX4_readValue_73 : decode cX4_readValue 73 = .ok (.getfield 35, 3) := by decide +kernel
theorem dX4_readValue_76 : decode cX4_readValue 76 = .ok (.invokevirtual 86, 3) := by decide +kernel
theorem dX4_readValue_79 : decode cX4_readValue 79 = .ok (.iload_n 3, 1) := by decide +kernel
theorem dX4_readValue_80 : decode cX4_readValue 80 = .ok (.iload_n 2, 1) := by decide +kernel
theorem dX4_readValue_81 : decode cX4_readValue 81 = .ok (.invokestatic 156, 3) := by decide +kernel
theorem dX4_readValue_84 : decode cX4_readValue 84 = .ok (.ifCond .ne 16, 3) := by decide +kernel
theorem dX4_readValue_87 : decode cX4_readValue 87 = .ok (.aload_n 0, 1) := by decide +kernel
theorem dX4_readValue_88 : decode cX4_readValue 88 = .ok (.dup, 1) := by decide +kernel
theorem dX4_readValue_89 : decode cX4_readValue 89 = .ok (.getfield 35, 3) := by decide +kernel
theorem dX4_readValue_92 : decode cX4_readValue 92 = .ok (.iconst 1, 1) := by decide +kernel
theorem dX4_readValue_93 : decode cX4_readValue 93 = .ok (.iadd, 1) := by decide +kernel
theorem dX4_readValue_94 : decode cX4_readValue 94 = .ok (.putfield 35, 3) := by decide +kernel
theorem dX4_readValue_97 : decode cX4_readValue 97 = .ok (.goto (-43), 3) := by decide +kernel
theorem dX4_readValue_100 : decode cX4_readValue 100 = .ok (.aload_n 0, 1) := by decide +kernel
theorem dX4_readValue_101 : decode cX4_readValue 101 = .ok (.getfield 31, 3) := by decide +kernel
theorem dX4_readValue_104 : decode cX4_readValue 104 = .ok (.iload_n 1, 1) := by decide +kernel
theorem dX4_readValue_105 : decode cX4_readValue 105 = .ok (.iload 4, 2) := by decide +kernel
theorem dX4_readValue_107 : decode cX4_readValue 107 = .ok (.aload_n 0, 1) := by decide +kernel
theorem dX4_readValue_108 : decode cX4_readValue 108 = .ok (.getfield 35, 3) := by decide +kernel
theorem dX4_readValue_111 : decode cX4_readValue 111 = .ok (.invokevirtual 152, 3) := by decide +kernel
theorem dX4_readValue_114 : decode cX4_readValue 114 = .ok (.aload_n 0, 1) := by decide +kernel
theorem dX4_readValue_115 : decode cX4_readValue 115 = .ok (.dup, 1) := by decide +kernel
theorem dX4_readValue_116 : decode cX4_readValue 116 = .ok (.getfield 35, 3) := by decide +kernel
theorem dX4_readValue_119 : decode cX4_readValue 119 = .ok (.iload_n 3, 1) := by decide +kernel
theorem dX4_readValue_120 : decode cX4_readValue 120 = .ok (.ifCond .eq 7, 3) := by decide +kernel
theorem dX4_readValue_123 : decode cX4_readValue 123 = .ok (.iconst 1, 1) := by decide +kernel
theorem dX4_readValue_124 : decode cX4_readValue 124 = .ok (.goto 4, 3) := by decide +kernel
theorem dX4_readValue_127 : decode cX4_readValue 127 = .ok (.iconst 0, 1) := by decide +kernel
theorem dX4_readValue_128 : decode cX4_readValue 128 = .ok (.iadd, 1) := by decide +kernel
theorem dX4_readValue_129 : decode cX4_readValue 129 = .ok (.putfield 35, 3) := by decide +kernel
theorem dX4_readValue_132 : decode cX4_readValue 132 = .ok (.return_, 1) := by decide +kernel
theorem dX4_isValueEnd_0 : decode cX4_isValueEnd 0 = .ok (.iload_n 1, 1) := by decide +kernel
theorem dX4_isValueEnd_1 : decode cX4_isValueEnd 1 = .ok (.ifCond .eq 16, 3) := by decide +kernel
theorem dX4_isValueEnd_4 : decode cX4_isValueEnd 4 = .ok (.iload_n 0, 1) := by decide +kernel
theorem dX4_isValueEnd_5 : decode cX4_isValueEnd 5 = .ok (.iload_n 2, 1) := by decide +kernel
theorem dX4_isValueEnd_6 : decode cX4_isValueEnd 6 = .ok (.if_icmp .ne 7, 3) := by decide +kernel
theorem dX4_isValueEnd_9 : decode cX4_isValueEnd 9 = .ok (.iconst 1, 1) := by decide +kernel
theorem dX4_isValueEnd_10 : decode cX4_isValueEnd 10 = .ok (.goto 24, 3) := by decide +kernel
theorem dX4_isValueEnd_13 : decode cX4_isValueEnd 13 = .ok (.iconst 0, 1) := by decide +kernel
theorem dX4_isValueEnd_14 : decode cX4_isValueEnd 14 = .ok (.goto 20, 3) := by decide +kernel
theorem dX4_isValueEnd_17 : decode cX4_isValueEnd 17 = .ok (.iload_n 0, 1) := by decide +kernel
theorem dX4_isValueEnd_18 : decode cX4_isValueEnd 18 = .ok (.bipush 32, 2) := by decide +kernel
theorem dX4_isValueEnd_20 : decode cX4_isValueEnd 20 = .ok (.if_icmp .eq 9, 3) := by decide +kernel
theorem dX4_isValueEnd_23 : decode cX4_isValueEnd 23 = .ok (.iload_n 0, 1) := by decide +kernel
theorem dX4_isValueEnd_24 : decode cX4_isValueEnd 24 = .ok (.bipush 62, 2) := by decide +kernel
theorem dX4_isValueEnd_26 : decode cX4_isValueEnd 26 = .ok (.if_icmp .ne 7, 3) := by decide +kernel
theorem dX4_isValueEnd_29 : decode cX4_isValueEnd 29 = .ok (.iconst 1, 1) := by decide +kernel
theorem dX4_isValueEnd_30 : decode cX4_isValueEnd 30 = .ok (.goto 4, 3) := by decide +kernel
theorem dX4_isValueEnd_33 : decode cX4_isValueEnd 33 = .ok (.iconst 0, 1) := by decide +kernel
theorem dX4_isValueEnd_34 : decode cX4_isValueEnd 34 = .ok (.ireturn, 1) := by decide +kernel
theorem dX5_find_0 : decode cX5_find 0 = .ok (.aload_n 0, 1) := by decide +kernel
theorem dX5_find_1 : decode cX5_find 1 = .ok (.iload_n 1, 1) := by decide +kernel
theorem dX5_find_2 : decode cX5_find 2 = .ok (.invokevirtual 7, 3) := by decide +kernel
theorem dX5_find_5 : decode cX5_find 5 = .ok (.bipush 38, 2) := by decide +kernel
theorem dX5_find_7 : decode cX5_find 7 = .ok (.if_icmp .eq 5, 3) := by decide +kernel
theorem dX5_find_10 : decode cX5_find 10 = .ok (.iconst 0, 1) := by decide +kernel
theorem dX5_find_11 : decode cX5_find 11 = .ok (.ireturn, 1) := by decide +kernel
theorem dX5_find_12 : decode cX5_find 12 = .ok (.aload_n 0, 1) := by decide +kernel
theorem dX5_find_13 : decode cX5_find 13 = .ok (.iload_n 1, 1) := by decide +kernel
theorem dX5_find_14 : decode cX5_find 14 = .ok (.iconst 1, 1) := by decide +kernel
theorem dX5_find_15 : decode cX5_find 15 = .ok (.iadd, 1) := by decide +kernel
theorem dX5_find_16 : decode cX5_find 16 = .ok (.invokevirtual 7, 3) := by decide +kernel
theorem dX5_find_19 : decode cX5_find 19 = .ok (.bipush 35, 2) := by decide +kernel
theorem dX5_find_21 : decode cX5_find 21 = .ok (.if_icmp .ne 9, 3) := by decide +kernel
theorem dX5_find_24 : decode cX5_find 24 = .ok (.aload_n 0, 1) := by decide +kernel
theorem dX5_find_25 : decode cX5_find 25 = .ok (.iload_n 1, 1) := by decide +kernel
theorem dX5_find_26 : decode cX5_find 26 = .ok (.invokestatic 15, 3) := by decide +kernel
theorem dX5_find_29 : decode cX5_find 29 = .ok (.ireturn, 1) := by decide +kernel
theorem dX5_find_30 : decode cX5_find 30 = .ok (.aload_n 0, 1) := by decide +kernel
theorem dX5_find_31 : decode cX5_find 31 = .ok (.iload_n 1, 1) := by decide +kernel
theorem dX5_find_32 : decode cX5_find 32 = .ok (.ldc 19, 2) := by decide +kernel
theorem dX5_find_34 : decode cX5_find 34 = .ok (.invokevirtual 21, 3) := by decide +kernel
theorem dX5_find_37 : decode cX5_find 37 = .ok (.ifCond .eq 10, 3) := by decide +kernel
theorem dX5_find_40 : decode cX5_find 40 = .ok (.bipush 60, 2) := by decide +kernel
theorem dX5_find_42 : decode cX5_find 42 = .ok (.iconst 4, 1) := by decide +kernel
theorem dX5_find_43 : decode cX5_find 43 = .ok (.invokestatic 25, 3) := by decide +kernel
theorem dX5_find_46 : decode cX5_find 46 = .ok (.ireturn, 1) := by decide +kernel
theorem dX5_find_47 : decode cX5_find 47 = .ok (.aload_n 0, 1) := by decide +kernel
theorem dX5_find_48 : decode cX5_find 48 = .ok (.iload_n 1, 1) := by decide +kernel
theorem dX5_find_49 : decode cX5_find 49 = .ok (.ldc 29, 2) := by decide +kernel
theorem dX5_find_51 : decode cX5_find 51 = .ok (.invokevirtual 21, 3) := by decide +kernel
theorem dX5_find_54 : decode cX5_find 54 = .ok (.ifCond .eq 10, 3) := by decide +kernel
theorem dX5_find_57 : decode cX5_find 57 = .ok (.bipush 62, 2) := by decide +kernel
theorem dX5_find_59 : decode cX5_find 59 = .ok (.iconst 4, 1) := by decide +kernel
theorem dX5_find_60 : decode cX5_find 60 = .ok (.invokestatic 25, 3) := by decide +kernel
theorem dX5_find_63 : decode cX5_find 63 = .ok (.ireturn, 1) := by decide +kernel
theorem dX5_find_64 : decode cX5_find 64 = .ok (.aload_n 0, 1) := by decide +kernel
theorem dX5_find_65 : decode cX5_find 65 = .ok (.iload_n 1, 1) := by decide +kernel
theorem dX5_find_66 : decode cX5_find 66 = .ok (.ldc 31, 2) := by decide +kernel
theorem dX5_find_68 : decode cX5_find 68 = .ok (.invokevirtual 21, 3) := by decide +kernel
theorem dX5_find_71 : decode cX5_find 71 = .ok (.ifCond .eq 10, 3) := by decide +kernel
theorem dX5_find_74 : decode cX5_find 74 = .ok (.bipush 38, 2) := by decide +kernel
theorem dX5_find_76 : decode cX5_find 76 = .ok (.iconst 5, 1) := by decide +kernel
theorem dX5_find_77 : decode cX5_find 77 = .ok (.invokestatic 25, 3) := by decide +kernel
theorem dX5_find_80 : decode cX5_find 80 = .ok (.ireturn, 1) := by decide +kernel
theorem dX5_find_81 : decode cX5_find 81 = .ok (.aload_n 0, 1) := by decide +kernel
theorem dX5_find_82 : decode cX5_find 82 = .ok (.iload_n 1, 1) := by decide +kernel
theorem dX5_find_83 : decode cX5_find 83 = .ok (.ldc 33, 2) := by decide +kernel
theorem dX5_find_85 : decode cX5_find 85 = .ok (.invokevirtual 21, 3) := by decide +kernel
theorem dX5_find_88 : decode cX5_find 88 = .ok (.ifCond .eq 13, 3) := by decide +kernel
theorem dX5_find_91 : decode cX5_find 91 = .ok (.bipush 34, 2) := by decide +kernel
theorem dX5_find_93 : decode cX5_find 93 = .ok (.bipush 6, 2) := by decide +kernel
theorem dX5_find_95 : decode cX5_find 95 = .ok (.invokestatic 25, 3) := by decide +kernel
theorem dX5_find_98 : decode cX5_find 98 = .ok (.goto 4, 3) := by decide +kernel
theorem dX5_find_101 : decode cX5_find 101 = .ok (.iconst 0, 1) := by decide +kernel
theorem dX5_find_102 : decode cX5_find 102 = .ok (.ireturn, 1) := by decide +kernel
theorem dX5_findNumber_0 : decode cX5_findNumber 0 = .ok (.iconst 0, 1) := by decide +kernel
theorem dX5_findNumber_1 : decode cX5_findNumber 1 = .ok (.istore_n 2, 1) := by decide +kernel
theorem dX5_findNumber_2 : decode cX5_findNumber 2 = .ok (.iconst 0, 1) := by decide +kernel
theorem dX5_findNumber_3 : decode cX5_findNumber 3 = .ok (.istore_n 3, 1) := by decide +kernel
theorem dX5_findNumber_4 : decode cX5_findNumber 4 = .ok (.iload_n 3, 1) := by decide +kernel
theorem dX5_findNumber_5 : decode cX5_findNumber 5 = .ok (.iconst 3, 1) := by decide +kernel
theorem dX5_findNumber_6 : decode cX5_findNumber 6 = .ok (.if_icmp .ge 42, 3) := by decide +kernel
theorem dX5_findNumber_9 : decode cX5_findNumber 9 = .ok (.aload_n 0, 1) := by decide +kernel
theorem dX5_findNumber_10 : decode cX5_findNumber 10 = .ok (.iload_n 1, 1) := by decide +kernel
theorem dX5_findNumber_11 : decode cX5_findNumber 11 = .ok (.iconst 2, 1) := by decide +kernel
theorem dX5_findNumber_12 : decode cX5_findNumber 12 = .ok (.iadd, 1) := by decide +kernel
theorem dX5_findNumber_13 : decode cX5_findNumber 13 = .ok (.iload_n 3, 1) := by decide +kernel
theorem dX5_findNumber_14 : decode cX5_findNumber 14 = .ok (.iadd, 1) := by decide +kernel
theorem dX5_findNumber_15 : decode cX5_findNumber 15 = .ok (.invokevirtual 7, 3) := by decide +kernel
theorem dX5_findNumber_18 : decode cX5_findNumber 18 = .ok (.invokestatic 35, 3) := by decide +kernel
theorem dX5_findNumber_21 : decode cX5_findNumber 21 = .ok (.ifCond .eq 27, 3) := by decide +kernel
theorem dX5_findNumber_24 : decode cX5_findNumber 24 = .ok (.bipush 10, 2) := by decide +kernel
theorem dX5_findNumber_26 : decode cX5_findNumber 26 = .ok (.iload_n 2, 1) := by decide +kernel
theorem dX5_findNumber_27 : decode cX5_findNumber 27 = .ok (.imul, 1) := by decide +kernel
theorem dX5_findNumber_28 : decode cX5_findNumber 28 = .ok (.aload_n 0, 1) := by decide +kernel
theorem dX5_findNumber_29 : decode cX5_findNumber 29 = .ok (.iload_n 1, 1) := by decide +kernel
theorem dX5_findNumber_30 : decode cX5_findNumber 30 = .ok (.iconst 2, 1) := by decide +kernel
theorem dX5_findNumber_31 : decode cX5_findNumber 31 = .ok (.iadd, 1) := by decide +kernel
theorem dX5_findNumber_32 : decode cX5_findNumber 32 = .ok (.iload_n 3, 1) := by decide +kernel
theorem dX5_findNumber_33 : decode cX5_findNumber 33 = .ok (.iadd, 1) := by decide +kernel
theorem dX5_findNumber_34 : decode cX5_findNumber 34 = .ok (.invokevirtual 7, 3) := by decide +kernel
theorem dX5_findNumber_37 : decode cX5_findNumber 37 = .ok (.iadd, 1) := by decide +kernel
theorem dX5_findNumber_38 : decode cX5_findNumber 38 = .ok (.bipush 48, 2) := by decide +kernel
theorem dX5_findNumber_40 : decode cX5_findNumber 40 = .ok (.isub, 1) := by decide +kernel
theorem dX5_findNumber_41 : decode cX5_findNumber 41 = .ok (.istore_n 2, 1) := by decide +kernel
theorem dX5_findNumber_42 : decode cX5_findNumber 42 = .ok (.iinc 3 1, 3) := by decide +kernel
theorem dX5_findNumber_45 : decode cX5_findNumber 45 = .ok (.goto (-41), 3) := by decide +kernel
theorem dX5_findNumber_48 : decode cX5_findNumber 48 = .ok (.iload_n 3, 1) := by decide +kernel
theorem dX5_findNumber_49 : decode cX5_findNumber 49 = .ok (.ifCond .le 21, 3) := by decide +kernel
theorem dX5_findNumber_52 : decode cX5_findNumber 52 = .ok (.aload_n 0, 1) := by decide +kernel
theorem dX5_findNumber_53 : decode cX5_findNumber 53 = .ok (.iload_n 1, 1) := by decide +kernel
theorem dX5_findNumber_54 : decode cX5_findNumber 54 = .ok (.iconst 2, 1) := by decide +kernel
theorem dX5_findNumber_55 : decode cX5_findNumber 55 = .ok (.iadd, 1) := by decide +kernel
theorem dX5_findNumber_56 : decode cX5_findNumber 56 = .ok (.iload_n 3, 1) := by decide +kernel
theorem dX5_findNumber_57 : decode cX5_findNumber 57 = .ok (.iadd, 1) := by decide +kernel
theorem dX5_findNumber_58 : decode cX5_findNumber 58 = .ok (.invokevirtual 7, 3) := by decide +kernel
theorem dX5_findNumber_61 : decode cX5_findNumber 61 = .ok (.bipush 59, 2) := by decide +kernel
theorem dX5_findNumber_63 : decode cX5_findNumber 63 = .ok (.if_icmp .ne 7, 3) := by decide +kernel
theorem dX5_findNumber_66 : decode cX5_findNumber 66 = .ok (.iconst 1, 1) := by decide +kernel
theorem dX5_findNumber_67 : decode cX5_findNumber 67 = .ok (.goto 4, 3) := by decide +kernel
theorem dX5_findNumber_70 : decode cX5_findNumber 70 = .ok (.iconst 0, 1) := by decide +kernel
theorem dX5_findNumber_71 : decode cX5_findNumber 71 = .ok (.istore 4, 2) := by decide +kernel
theorem dX5_findNumber_73 : decode cX5_findNumber 73 = .ok (.iload 4, 2) := by decide +kernel
theorem dX5_findNumber_75 : decode cX5_findNumber 75 = .ok (.ifCond .eq 20, 3) := by decide +kernel
theorem dX5_findNumber_78 : decode cX5_findNumber 78 = .ok (.iload_n 2, 1) := by decide +kernel
theorem dX5_findNumber_79 : decode cX5_findNumber 79 = .ok (.invokestatic 41, 3) := by decide +kernel
theorem dX5_findNumber_82 : decode cX5_findNumber 82 = .ok (.ifCond .eq 13, 3) := by decide +kernel
theorem dX5_findNumber_85 : decode cX5_findNumber 85 = .ok (.iload_n 2, 1) := by decide +kernel
theorem dX5_findNumber_86 : decode cX5_findNumber 86 = .ok (.iload_n 3, 1) := by decide +kernel
theorem dX5_findNumber_87 : decode cX5_findNumber 87 = .ok (.iconst 3, 1) := by decide +kernel
theorem dX5_findNumber_88 : decode cX5_findNumber 88 = .ok (.iadd, 1) := by decide +kernel
theorem dX5_findNumber_89 : decode cX5_findNumber 89 = .ok (.invokestatic 25, 3) := by decide +kernel
theorem dX5_findNumber_92 : decode cX5_findNumber 92 = .ok (.goto 4, 3) := by decide +kernel
theorem dX5_findNumber_95 : decode cX5_findNumber 95 = .ok (.iconst 0, 1) := by decide +kernel
theorem dX5_findNumber_96 : decode cX5_findNumber 96 = .ok (.ireturn, 1) := by decide +kernel
theorem dX5_join_0 : decode cX5_join 0 = .ok (.iload_n 1, 1) := by decide +kernel
theorem dX5_join_1 : decode cX5_join 1 = .ok (.bipush 8, 2) := by decide +kernel
theorem dX5_join_3 : decode cX5_join 3 = .ok (.ishl, 1) := by decide +kernel
theorem dX5_join_4 : decode cX5_join 4 = .ok (.iload_n 0, 1) := by decide +kernel
theorem dX5_join_5 : decode cX5_join 5 = .ok (.ior, 1) := by decide +kernel
theorem dX5_join_6 : decode cX5_join 6 = .ok (.ireturn, 1) := by decide +kernel
theorem dX5_sizeOf_0 : decode cX5_sizeOf 0 = .ok (.iload_n 0, 1) := by decide +kernel
theorem dX5_sizeOf_1 : decode cX5_sizeOf 1 = .ok (.bipush 8, 2) := by decide +kernel
theorem dX5_sizeOf_3 : decode cX5_sizeOf 3 = .ok (.ishr, 1) := by decide +kernel
theorem dX5_sizeOf_4 : decode cX5_sizeOf 4 = .ok (.ireturn, 1) := by decide +kernel
theorem dX5_characterOf_0 : decode cX5_characterOf 0 = .ok (.iload_n 0, 1) := by decide +kernel
theorem dX5_characterOf_1 : decode cX5_characterOf 1 = .ok (.sipush 255, 3) := by decide +kernel
theorem dX5_characterOf_4 : decode cX5_characterOf 4 = .ok (.iand, 1) := by decide +kernel
theorem dX5_characterOf_5 : decode cX5_characterOf 5 = .ok (.i2c, 1) := by decide +kernel
theorem dX5_characterOf_6 : decode cX5_characterOf 6 = .ok (.ireturn, 1) := by decide +kernel
theorem dX6_init_0 : decode cX6_init 0 = .ok (.aload_n 0, 1) := by decide +kernel
theorem dX6_init_1 : decode cX6_init 1 = .ok (.invokespecial 3, 3) := by decide +kernel
theorem dX6_init_4 : decode cX6_init 4 = .ok (.aload_n 0, 1) := by decide +kernel
theorem dX6_init_5 : decode cX6_init 5 = .ok (.bipush 26, 2) := by decide +kernel
theorem dX6_init_7 : decode cX6_init 7 = .ok (.newarray .int, 2) := by decide +kernel
theorem dX6_init_9 : decode cX6_init 9 = .ok (.putfield 9, 3) := by decide +kernel
theorem dX6_init_12 : decode cX6_init 12 = .ok (.aload_n 0, 1) := by decide +kernel
theorem dX6_init_13 : decode cX6_init 13 = .ok (.bipush 26, 2) := by decide +kernel
theorem dX6_init_15 : decode cX6_init 15 = .ok (.newarray .int, 2) := by decide +kernel
theorem dX6_init_17 : decode cX6_init 17 = .ok (.putfield 15, 3) := by decide +kernel
theorem dX6_init_20 : decode cX6_init 20 = .ok (.aload_n 0, 1) := by decide +kernel
theorem dX6_init_21 : decode cX6_init 21 = .ok (.iconst 0, 1) := by decide +kernel
theorem dX6_init_22 : decode cX6_init 22 = .ok (.putfield 18, 3) := by decide +kernel
theorem dX6_init_25 : decode cX6_init 25 = .ok (.aload_n 0, 1) := by decide +kernel
theorem dX6_init_26 : decode cX6_init 26 = .ok (.bipush 26, 2) := by decide +kernel
theorem dX6_init_28 : decode cX6_init 28 = .ok (.putfield 22, 3) := by decide +kernel
theorem dX6_init_31 : decode cX6_init 31 = .ok (.aload_n 0, 1) := by decide +kernel
theorem dX6_init_32 : decode cX6_init 32 = .ok (.iconst 0, 1) := by decide +kernel
theorem dX6_init_33 : decode cX6_init 33 = .ok (.putfield 25, 3) := by decide +kernel
theorem dX6_init_36 : decode cX6_init 36 = .ok (.return_, 1) := by decide +kernel
theorem dX6_begin_0 : decode cX6_begin 0 = .ok (.aload_n 0, 1) := by decide +kernel
theorem dX6_begin_1 : decode cX6_begin 1 = .ok (.iload_n 1, 1) := by decide +kernel
theorem dX6_begin_2 : decode cX6_begin 2 = .ok (.putfield 22, 3) := by decide +kernel
theorem dX6_begin_5 : decode cX6_begin 5 = .ok (.aload_n 0, 1) := by decide +kernel
theorem dX6_begin_6 : decode cX6_begin 6 = .ok (.iload_n 2, 1) := by decide +kernel
theorem dX6_begin_7 : decode cX6_begin 7 = .ok (.putfield 25, 3) := by decide +kernel
theorem dX6_begin_10 : decode cX6_begin 10 = .ok (.aload_n 0, 1) := by decide +kernel
theorem dX6_begin_11 : decode cX6_begin 11 = .ok (.iconst 0, 1) := by decide +kernel
theorem dX6_begin_12 : decode cX6_begin 12 = .ok (.putfield 18, 3) := by decide +kernel
theorem dX6_begin_15 : decode cX6_begin 15 = .ok (.return_, 1) := by decide +kernel
theorem dX6_name_0 : decode cX6_name 0 = .ok (.aload_n 0, 1) := by decide +kernel
theorem dX6_name_1 : decode cX6_name 1 = .ok (.getfield 22, 3) := by decide +kernel
theorem dX6_name_4 : decode cX6_name 4 = .ok (.ireturn, 1) := by decide +kernel
theorem dX6_isEnding_0 : decode cX6_isEnding 0 = .ok (.aload_n 0, 1) := by decide +kernel
theorem dX6_isEnding_1 : decode cX6_isEnding 1 = .ok (.getfield 25, 3) := by decide +kernel
theorem dX6_isEnding_4 : decode cX6_isEnding 4 = .ok (.ireturn, 1) := by decide +kernel
theorem dX6_addAttribute_0 : decode cX6_addAttribute 0 = .ok (.aload_n 0, 1) := by decide +kernel
theorem dX6_addAttribute_1 : decode cX6_addAttribute 1 = .ok (.getfield 25, 3) := by decide +kernel
theorem dX6_addAttribute_4 : decode cX6_addAttribute 4 = .ok (.ifCond .ne 44, 3) := by decide +kernel
theorem dX6_addAttribute_7 : decode cX6_addAttribute 7 = .ok (.iload_n 1, 1) := by decide +kernel
theorem dX6_addAttribute_8 : decode cX6_addAttribute 8 = .ok (.invokestatic 29, 3) := by decide +kernel
theorem dX6_addAttribute_11 : decode cX6_addAttribute 11 = .ok (.ifCond .eq 37, 3) := by decide +kernel
theorem dX6_addAttribute_14 : decode cX6_addAttribute 14 = .ok (.aload_n 0, 1) := by decide +kernel
theorem dX6_addAttribute_15 : decode cX6_addAttribute 15 = .ok (.iload_n 1, 1) := by decide +kernel
theorem dX6_addAttribute_16 : decode cX6_addAttribute 16 = .ok (.invokevirtual 33, 3) := by decide +kernel
theorem dX6_addAttribute_19 : decode cX6_addAttribute 19 = .ok (.ifCond .ne 29, 3) := by decide +kernel
theorem dX6_addAttribute_22 : decode cX6_addAttribute 22 = .ok (.aload_n 0, 1) := by decide +kernel
theorem dX6_addAttribute_23 : decode cX6_addAttribute 23 = .ok (.dup, 1) := by decide +kernel
theorem dX6_addAttribute_24 : decode cX6_addAttribute 24 = .ok (.getfield 18, 3) := by decide +kernel
theorem dX6_addAttribute_27 : decode cX6_addAttribute 27 = .ok (.iconst 1, 1) := by decide +kernel
theorem dX6_addAttribute_28 : decode cX6_addAttribute 28 = .ok (.iload_n 1, 1) := by decide +kernel
theorem dX6_addAttribute_29 : decode cX6_addAttribute 29 = .ok (.ishl, 1) := by decide +kernel
theorem dX6_addAttribute_30 : decode cX6_addAttribute 30 = .ok (.ior, 1) := by decide +kernel
theorem dX6_addAttribute_31 : decode cX6_addAttribute 31 = .ok (.putfield 18, 3) := by decide +kernel
theorem dX6_addAttribute_34 : decode cX6_addAttribute 34 = .ok (.aload_n 0, 1) := by decide +kernel
theorem dX6_addAttribute_35 : decode cX6_addAttribute 35 = .ok (.getfield 9, 3) := by decide +kernel
theorem dX6_addAttribute_38 : decode cX6_addAttribute 38 = .ok (.iload_n 1, 1) := by decide +kernel
theorem dX6_addAttribute_39 : decode cX6_addAttribute 39 = .ok (.iload_n 2, 1) := by decide +kernel
theorem dX6_addAttribute_40 : decode cX6_addAttribute 40 = .ok (.iastore, 1) := by decide +kernel
theorem dX6_addAttribute_41 : decode cX6_addAttribute 41 = .ok (.aload_n 0, 1) := by decide +kernel
theorem dX6_addAttribute_42 : decode cX6_addAttribute 42 = .ok (.getfield 15, 3) := by decide +kernel
theorem dX6_addAttribute_45 : decode cX6_addAttribute 45 = .ok (.iload_n 1, 1) := by decide +kernel
theorem dX6_addAttribute_46 : decode cX6_addAttribute 46 = .ok (.iload_n 3, 1) := by decide +kernel
theorem dX6_addAttribute_47 : decode cX6_addAttribute 47 = .ok (.iastore, 1) := by decide +kernel
theorem dX6_addAttribute_48 : decode cX6_addAttribute 48 = .ok (.return_, 1) := by decide +kernel
theorem dX6_hasAttribute_0 : decode cX6_hasAttribute 0 = .ok (.iload_n 1, 1) := by decide +kernel
theorem dX6_hasAttribute_1 : decode cX6_hasAttribute 1 = .ok (.invokestatic 29, 3) := by decide +kernel
theorem dX6_hasAttribute_4 : decode cX6_hasAttribute 4 = .ok (.ifCond .eq 18, 3) := by decide +kernel
theorem dX6_hasAttribute_7 : decode cX6_hasAttribute 7 = .ok (.aload_n 0, 1) := by decide +kernel
theorem dX6_hasAttribute_8 : decode cX6_hasAttribute 8 = .ok (.getfield 18, 3) := by decide +kernel
theorem dX6_hasAttribute_11 : decode cX6_hasAttribute 11 = .ok (.iload_n 1, 1) := by decide +kernel
theorem dX6_hasAttribute_12 : decode cX6_hasAttribute 12 = .ok (.ishr, 1) := by decide +kernel
theorem dX6_hasAttribute_13 : decode cX6_hasAttribute 13 = .ok (.iconst 1, 1) := by decide +kernel
theorem dX6_hasAttribute_14 : decode cX6_hasAttribute 14 = .ok (.iand, 1) := by decide +kernel
theorem dX6_hasAttribute_15 : decode cX6_hasAttribute 15 = .ok (.ifCond .eq 7, 3) := by decide +kernel
theorem dX6_hasAttribute_18 : decode cX6_hasAttribute 18 = .ok (.iconst 1, 1) := by decide +kernel
theorem dX6_hasAttribute_19 : decode cX6_hasAttribute 19 = .ok (.goto 4, 3) := by decide +kernel
theorem dX6_hasAttribute_22 : decode cX6_hasAttribute 22 = .ok (.iconst 0, 1) := by decide +kernel
theorem dX6_hasAttribute_23 : decode cX6_hasAttribute 23 = .ok (.ireturn, 1) := by decide +kernel
theorem dX6_beginOf_0 : decode cX6_beginOf 0 = .ok (.aload_n 0, 1) := by decide +kernel
theorem dX6_beginOf_1 : decode cX6_beginOf 1 = .ok (.iload_n 1, 1) := by decide +kernel
theorem dX6_beginOf_2 : decode cX6_beginOf 2 = .ok (.invokevirtual 33, 3) := by decide +kernel
theorem dX6_beginOf_5 : decode cX6_beginOf 5 = .ok (.ifCond .eq 12, 3) := by decide +kernel
theorem dX6_beginOf_8 : decode cX6_beginOf 8 = .ok (.aload_n 0, 1) := by decide +kernel
theorem dX6_beginOf_9 : decode cX6_beginOf 9 = .ok (.getfield 9, 3) := by decide +kernel
theorem dX6_beginOf_12 : decode cX6_beginOf 12 = .ok (.iload_n 1, 1) := by decide +kernel
theorem dX6_beginOf_13 : decode cX6_beginOf 13 = .ok (.iaload, 1) := by decide +kernel
theorem dX6_beginOf_14 : decode cX6_beginOf 14 = .ok (.goto 4, 3) := by decide +kernel
theorem dX6_beginOf_17 : decode cX6_beginOf 17 = .ok (.iconst 0, 1) := by decide +kernel
theorem dX6_beginOf_18 : decode cX6_beginOf 18 = .ok (.ireturn, 1) := by decide +kernel
theorem dX6_endOf_0 : decode cX6_endOf 0 = .ok (.aload_n 0, 1) := by decide +kernel
theorem dX6_endOf_1 : decode cX6_endOf 1 = .ok (.iload_n 1, 1) := by decide +kernel
theorem dX6_endOf_2 : decode cX6_endOf 2 = .ok (.invokevirtual 33, 3) := by decide +kernel
theorem dX6_endOf_5 : decode cX6_endOf 5 = .ok (.ifCond .eq 12, 3) := by decide +kernel
theorem dX6_endOf_8 : decode cX6_endOf 8 = .ok (.aload_n 0, 1) := by decide +kernel
theorem dX6_endOf_9 : decode cX6_endOf 9 = .ok (.getfield 15, 3) := by decide +kernel
theorem dX6_endOf_12 : decode cX6_endOf 12 = .ok (.iload_n 1, 1) := by decide +kernel
theorem dX6_endOf_13 : decode cX6_endOf 13 = .ok (.iaload, 1) := by decide +kernel
theorem dX6_endOf_14 : decode cX6_endOf 14 = .ok (.goto 4, 3) := by decide +kernel
theorem dX6_endOf_17 : decode cX6_endOf 17 = .ok (.iconst 0, 1) := by decide +kernel
theorem dX6_endOf_18 : decode cX6_endOf 18 = .ok (.ireturn, 1) := by decide +kernel
theorem dX7_init_0 : decode cX7_init 0 = .ok (.aload_n 0, 1) := by decide +kernel
theorem dX7_init_1 : decode cX7_init 1 = .ok (.invokespecial 3, 3) := by decide +kernel
theorem dX7_init_4 : decode cX7_init 4 = .ok (.aload_n 0, 1) := by decide +kernel
theorem dX7_init_5 : decode cX7_init 5 = .ok (.sipush 200, 3) := by decide +kernel
theorem dX7_init_8 : decode cX7_init 8 = .ok (.newarray .int, 2) := by decide +kernel
theorem dX7_init_10 : decode cX7_init 10 = .ok (.putfield 11, 3) := by decide +kernel
theorem dX7_init_13 : decode cX7_init 13 = .ok (.aload_n 0, 1) := by decide +kernel
theorem dX7_init_14 : decode cX7_init 14 = .ok (.sipush 200, 3) := by decide +kernel
theorem dX7_init_17 : decode cX7_init 17 = .ok (.newarray .int, 2) := by decide +kernel
theorem dX7_init_19 : decode cX7_init 19 = .ok (.putfield 15, 3) := by decide +kernel
theorem dX7_init_22 : decode cX7_init 22 = .ok (.aload_n 0, 1) := by decide +kernel
theorem dX7_init_23 : decode cX7_init 23 = .ok (.sipush 200, 3) := by decide +kernel
theorem dX7_init_26 : decode cX7_init 26 = .ok (.newarray .int, 2) := by decide +kernel
theorem dX7_init_28 : decode cX7_init 28 = .ok (.putfield 18, 3) := by decide +kernel
theorem dX7_init_31 : decode cX7_init 31 = .ok (.aload_n 0, 1) := by decide +kernel
theorem dX7_init_32 : decode cX7_init 32 = .ok (.iconst 0, 1) := by decide +kernel
theorem dX7_init_33 : decode cX7_init 33 = .ok (.putfield 21, 3) := by decide +kernel
theorem dX7_init_36 : decode cX7_init 36 = .ok (.aload_n 0, 1) := by decide +kernel
theorem dX7_init_37 : decode cX7_init 37 = .ok (.new 25, 3) := by decide +kernel
theorem dX7_init_40 : decode cX7_init 40 = .ok (.dup, 1) := by decide +kernel
theorem dX7_init_41 : decode cX7_init 41 = .ok (.invokespecial 27, 3) := by decide +kernel
theorem dX7_init_44 : decode cX7_init 44 = .ok (.putfield 28, 3) := by decide +kernel
theorem dX7_init_47 : decode cX7_init 47 = .ok (.aload_n 0, 1) := by decide +kernel
theorem dX7_init_48 : decode cX7_init 48 = .ok (.bipush 100, 2) := by decide +kernel
theorem dX7_init_50 : decode cX7_init 50 = .ok (.newarray .int, 2) := by decide +kernel
theorem dX7_init_52 : decode cX7_init 52 = .ok (.putfield 32, 3) := by decide +kernel
theorem dX7_init_55 : decode cX7_init 55 = .ok (.aload_n 0, 1) := by decide +kernel
theorem dX7_init_56 : decode cX7_init 56 = .ok (.bipush 100, 2) := by decide +kernel
theorem dX7_init_58 : decode cX7_init 58 = .ok (.newarray .int, 2) := by decide +kernel
theorem dX7_init_60 : decode cX7_init 60 = .ok (.putfield 35, 3) := by decide +kernel
theorem dX7_init_63 : decode cX7_init 63 = .ok (.aload_n 0, 1) := by decide +kernel
theorem dX7_init_64 : decode cX7_init 64 = .ok (.bipush 100, 2) := by decide +kernel
theorem dX7_init_66 : decode cX7_init 66 = .ok (.newarray .int, 2) := by decide +kernel
theorem dX7_init_68 : decode cX7_init 68 = .ok (.putfield 38, 3) := by decide +kernel
theorem dX7_init_71 : decode cX7_init 71 = .ok (.aload_n 0, 1) := by decide +kernel
theorem dX7_init_72 : decode cX7_init 72 = .ok (.iconst 0, 1) := by decide +kernel
theorem dX7_init_73 : decode cX7_init 73 = .ok (.putfield 41, 3) := by decide +kernel
theorem dX7_init_76 : decode cX7_init 76 = .ok (.aload_n 0, 1) := by decide +kernel
theorem dX7_init_77 : decode cX7_init 77 = .ok (.new 25, 3) := by decide +kernel
theorem dX7_init_80 : decode cX7_init 80 = .ok (.dup, 1) := by decide +kernel
theorem dX7_init_81 : decode cX7_init 81 = .ok (.invokespecial 27, 3) := by decide +kernel
theorem dX7_init_84 : decode cX7_init 84 = .ok (.putfield 44, 3) := by decide +kernel
theorem dX7_init_87 : decode cX7_init 87 = .ok (.return_, 1) := by decide +kernel
theorem dX7_empty_0 : decode cX7_empty 0 = .ok (.aload_n 0, 1) := by decide +kernel
theorem dX7_empty_1 : decode cX7_empty 1 = .ok (.iconst 0, 1) := by decide +kernel
theorem dX7_empty_2 : decode cX7_empty 2 = .ok (.putfield 21, 3) := by decide +kernel
theorem dX7_empty_5 : decode cX7_empty 5 = .ok (.aload_n 0, 1) := by decide +kernel
theorem dX7_empty_6 : decode cX7_empty 6 = .ok (.getfield 28, 3) := by decide +kernel
theorem dX7_empty_9 : decode cX7_empty 9 = .ok (.invokevirtual 47, 3) := by decide +kernel
theorem dX7_empty_12 : decode cX7_empty 12 = .ok (.aload_n 0, 1) := by decide +kernel
theorem dX7_empty_13 : decode cX7_empty 13 = .ok (.iconst 0, 1) := by decide +kernel
theorem dX7_empty_14 : decode cX7_empty 14 = .ok (.putfield 41, 3) := by decide +kernel
theorem dX7_empty_17 : decode cX7_empty 17 = .ok (.aload_n 0, 1) := by decide +kernel
theorem dX7_empty_18 : decode cX7_empty 18 = .ok (.getfield 44, 3) := by decide +kernel
theorem dX7_empty_21 : decode cX7_empty 21 = .ok (.invokevirtual 47, 3) := by decide +kernel
theorem dX7_empty_24 : decode cX7_empty 24 = .ok (.return_, 1) := by decide +kernel
theorem dX7_size_0 : decode cX7_size 0 = .ok (.aload_n 0, 1) := by decide +kernel
theorem dX7_size_1 : decode cX7_size 1 = .ok (.getfield 21, 3) := by decide +kernel
theorem dX7_size_4 : decode cX7_size 4 = .ok (.ireturn, 1) := by decide +kernel
theorem dX7_hasNode_0 : decode cX7_hasNode 0 = .ok (.iload_n 1, 1) := by decide +kernel
theorem dX7_hasNode_1 : decode cX7_hasNode 1 = .ok (.ifCond .lt 15, 3) := by decide +kernel
theorem dX7_hasNode_4 : decode cX7_hasNode 4 = .ok (.iload_n 1, 1) := by decide +kernel
theorem dX7_hasNode_5 : decode cX7_hasNode 5 = .ok (.aload_n 0, 1) := by decide +kernel
theorem dX7_hasNode_6 : decode cX7_hasNode 6 = .ok (.getfield 21, 3) := by decide +kernel
theorem dX7_hasNode_9 : decode cX7_hasNode 9 = .ok (.if_icmp .ge 7, 3) := by decide +kernel
theorem dX7_hasNode_12 : decode cX7_hasNode 12 = .ok (.iconst 1, 1) := by decide +kernel
theorem dX7_hasNode_13 : decode cX7_hasNode 13 = .ok (.goto 4, 3) := by decide +kernel
theorem dX7_hasNode_16 : decode cX7_hasNode 16 = .ok (.iconst 0, 1) := by decide +kernel
theorem dX7_hasNode_17 : decode cX7_hasNode 17 = .ok (.ireturn, 1) := by decide +kernel
theorem dX7_codeOf_0 : decode cX7_codeOf 0 = .ok (.aload_n 0, 1) := by decide +kernel
theorem dX7_codeOf_1 : decode cX7_codeOf 1 = .ok (.iload_n 1, 1) := by decide +kernel
theorem dX7_codeOf_2 : decode cX7_codeOf 2 = .ok (.invokevirtual 50, 3) := by decide +kernel
theorem dX7_codeOf_5 : decode cX7_codeOf 5 = .ok (.ifCond .eq 12, 3) := by decide +kernel
theorem dX7_codeOf_8 : decode cX7_codeOf 8 = .ok (.aload_n 0, 1) := by decide +kernel
theorem dX7_codeOf_9 : decode cX7_codeOf 9 = .ok (.getfield 11, 3) := by decide +kernel
theorem dX7_codeOf_12 : decode cX7_codeOf 12 = .ok (.iload_n 1, 1) := by decide +kernel
theorem dX7_codeOf_13 : decode cX7_codeOf 13 = .ok (.iaload, 1) := by decide +kernel
theorem dX7_codeOf_14 : decode cX7_codeOf 14 = .ok (.goto 4, 3) := by decide +kernel
theorem dX7_codeOf_17 : decode cX7_codeOf 17 = .ok (.iconst (-1), 1) := by decide +kernel
theorem dX7_codeOf_18 : decode cX7_codeOf 18 = .ok (.ireturn, 1) := by decide +kernel
theorem dX7_kindOf_0 : decode cX7_kindOf 0 = .ok (.aload_n 0, 1) := by decide +kernel
theorem dX7_kindOf_1 : decode cX7_kindOf 1 = .ok (.iload_n 1, 1) := by decide +kernel
theorem dX7_kindOf_2 : decode cX7_kindOf 2 = .ok (.invokevirtual 50, 3) := by decide +kernel
theorem dX7_kindOf_5 : decode cX7_kindOf 5 = .ok (.ifCond .eq 14, 3) := by decide +kernel
theorem dX7_kindOf_8 : decode cX7_kindOf 8 = .ok (.aload_n 0, 1) := by decide +kernel
theorem dX7_kindOf_9 : decode cX7_kindOf 9 = .ok (.getfield 11, 3) := by decide +kernel
theorem dX7_kindOf_12 : decode cX7_kindOf 12 = .ok (.iload_n 1, 1) := by decide +kernel
theorem dX7_kindOf_13 : decode cX7_kindOf 13 = .ok (.iaload, 1) := by decide +kernel
theorem dX7_kindOf_14 : decode cX7_kindOf 14 = .ok (.iconst 3, 1) := by decide +kernel
theorem dX7_kindOf_15 : decode cX7_kindOf 15 = .ok (.iand, 1) := by decide +kernel
theorem dX7_kindOf_16 : decode cX7_kindOf 16 = .ok (.goto 4, 3) := by decide +kernel
theorem dX7_kindOf_19 : decode cX7_kindOf 19 = .ok (.iconst 0, 1) := by decide +kernel
theorem dX7_kindOf_20 : decode cX7_kindOf 20 = .ok (.ireturn, 1) := by decide +kernel
theorem dX7_nameOf_0 : decode cX7_nameOf 0 = .ok (.aload_n 0, 1) := by decide +kernel
theorem dX7_nameOf_1 : decode cX7_nameOf 1 = .ok (.iload_n 1, 1) := by decide +kernel
theorem dX7_nameOf_2 : decode cX7_nameOf 2 = .ok (.invokevirtual 50, 3) := by decide +kernel
theorem dX7_nameOf_5 : decode cX7_nameOf 5 = .ok (.ifCond .eq 17, 3) := by decide +kernel
theorem dX7_nameOf_8 : decode cX7_nameOf 8 = .ok (.aload_n 0, 1) := by decide +kernel
theorem dX7_nameOf_9 : decode cX7_nameOf 9 = .ok (.getfield 11, 3) := by decide +kernel
theorem dX7_nameOf_12 : decode cX7_nameOf 12 = .ok (.iload_n 1, 1) := by decide +kernel
theorem dX7_nameOf_13 : decode cX7_nameOf 13 = .ok (.iaload, 1) := by decide +kernel
theorem dX7_nameOf_14 : decode cX7_nameOf 14 = .ok (.iconst 2, 1) := by decide +kernel
theorem dX7_nameOf_15 : decode cX7_nameOf 15 = .ok (.ishr, 1) := by decide +kernel
theorem dX7_nameOf_16 : decode cX7_nameOf 16 = .ok (.bipush 31, 2) := by decide +kernel
theorem dX7_nameOf_18 : decode cX7_nameOf 18 = .ok (.iand, 1) := by decide +kernel
theorem dX7_nameOf_19 : decode cX7_nameOf 19 = .ok (.goto 4, 3) := by decide +kernel
theorem dX7_nameOf_22 : decode cX7_nameOf 22 = .ok (.iconst 0, 1) := by decide +kernel
theorem dX7_nameOf_23 : decode cX7_nameOf 23 = .ok (.ireturn, 1) := by decide +kernel
theorem dX7_depthOf_0 : decode cX7_depthOf 0 = .ok (.aload_n 0, 1) := by decide +kernel
theorem dX7_depthOf_1 : decode cX7_depthOf 1 = .ok (.iload_n 1, 1) := by decide +kernel
theorem dX7_depthOf_2 : decode cX7_depthOf 2 = .ok (.invokevirtual 50, 3) := by decide +kernel
theorem dX7_depthOf_5 : decode cX7_depthOf 5 = .ok (.ifCond .eq 18, 3) := by decide +kernel
theorem dX7_depthOf_8 : decode cX7_depthOf 8 = .ok (.aload_n 0, 1) := by decide +kernel
theorem dX7_depthOf_9 : decode cX7_depthOf 9 = .ok (.getfield 11, 3) := by decide +kernel
theorem dX7_depthOf_12 : decode cX7_depthOf 12 = .ok (.iload_n 1, 1) := by decide +kernel
theorem dX7_depthOf_13 : decode cX7_depthOf 13 = .ok (.iaload, 1) := by decide +kernel
theorem dX7_depthOf_14 : decode cX7_depthOf 14 = .ok (.bipush 7, 2) := by decide +kernel
theorem dX7_depthOf_16 : decode cX7_depthOf 16 = .ok (.ishr, 1) := by decide +kernel
theorem dX7_depthOf_17 : decode cX7_depthOf 17 = .ok (.bipush 31, 2) := by decide +kernel
theorem dX7_depthOf_19 : decode cX7_depthOf 19 = .ok (.iand, 1) := by decide +kernel
theorem dX7_depthOf_20 : decode cX7_depthOf 20 = .ok (.goto 4, 3) := by decide +kernel
theorem dX7_depthOf_23 : decode cX7_depthOf 23 = .ok (.iconst 0, 1) := by decide +kernel
theorem dX7_depthOf_24 : decode cX7_depthOf 24 = .ok (.ireturn, 1) := by decide +kernel
theorem dX7_isForeign_0 : decode cX7_isForeign 0 = .ok (.aload_n 0, 1) := by decide +kernel
theorem dX7_isForeign_1 : decode cX7_isForeign 1 = .ok (.iload_n 1, 1) := by decide +kernel
theorem dX7_isForeign_2 : decode cX7_isForeign 2 = .ok (.invokevirtual 50, 3) := by decide +kernel
theorem dX7_isForeign_5 : decode cX7_isForeign 5 = .ok (.ifCond .eq 20, 3) := by decide +kernel
theorem dX7_isForeign_8 : decode cX7_isForeign 8 = .ok (.aload_n 0, 1) := by decide +kernel
theorem dX7_isForeign_9 : decode cX7_isForeign 9 = .ok (.getfield 11, 3) := by decide +kernel
theorem dX7_isForeign_12 : decode cX7_isForeign 12 = .ok (.iload_n 1, 1) := by decide +kernel
theorem dX7_isForeign_13 : decode cX7_isForeign 13 = .ok (.iaload, 1) := by decide +kernel
theorem dX7_isForeign_14 : decode cX7_isForeign 14 = .ok (.sipush 4096, 3) := by decide +kernel
theorem dX7_isForeign_17 : decode cX7_isForeign 17 = .ok (.iand, 1) := by decide +kernel
theorem dX7_isForeign_18 : decode cX7_isForeign 18 = .ok (.ifCond .eq 7, 3) := by decide +kernel
theorem dX7_isForeign_21 : decode cX7_isForeign 21 = .ok (.iconst 1, 1) := by decide +kernel
theorem dX7_isForeign_22 : decode cX7_isForeign 22 = .ok (.goto 4, 3) := by decide +kernel
theorem dX7_isForeign_25 : decode cX7_isForeign 25 = .ok (.iconst 0, 1) := by decide +kernel
theorem dX7_isForeign_26 : decode cX7_isForeign 26 = .ok (.ireturn, 1) := by decide +kernel
theorem dX7_textLine_0 : decode cX7_textLine 0 = .ok (.aload_n 0, 1) := by decide +kernel
theorem dX7_textLine_1 : decode cX7_textLine 1 = .ok (.getfield 28, 3) := by decide +kernel
theorem dX7_textLine_4 : decode cX7_textLine 4 = .ok (.areturn, 1) := by decide +kernel
theorem dX7_valueLine_0 : decode cX7_valueLine 0 = .ok (.aload_n 0, 1) := by decide +kernel
theorem dX7_valueLine_1 : decode cX7_valueLine 1 = .ok (.getfield 44, 3) := by decide +kernel
theorem dX7_valueLine_4 : decode cX7_valueLine 4 = .ok (.areturn, 1) := by decide +kernel
theorem dX7_beginOf_0 : decode cX7_beginOf 0 = .ok (.aload_n 0, 1) := by decide +kernel
theorem dX7_beginOf_1 : decode cX7_beginOf 1 = .ok (.iload_n 1, 1) := by decide +kernel
theorem dX7_beginOf_2 : decode cX7_beginOf 2 = .ok (.invokevirtual 50, 3) := by decide +kernel
theorem dX7_beginOf_5 : decode cX7_beginOf 5 = .ok (.ifCond .eq 12, 3) := by decide +kernel
theorem dX7_beginOf_8 : decode cX7_beginOf 8 = .ok (.aload_n 0, 1) := by decide +kernel
theorem dX7_beginOf_9 : decode cX7_beginOf 9 = .ok (.getfield 15, 3) := by decide +kernel
theorem dX7_beginOf_12 : decode cX7_beginOf 12 = .ok (.iload_n 1, 1) := by decide +kernel
theorem dX7_beginOf_13 : decode cX7_beginOf 13 = .ok (.iaload, 1) := by decide +kernel
theorem dX7_beginOf_14 : decode cX7_beginOf 14 = .ok (.goto 4, 3) := by decide +kernel
theorem dX7_beginOf_17 : decode cX7_beginOf 17 = .ok (.iconst 0, 1) := by decide +kernel
theorem dX7_beginOf_18 : decode cX7_beginOf 18 = .ok (.ireturn, 1) := by decide +kernel
theorem dX7_endOf_0 : decode cX7_endOf 0 = .ok (.aload_n 0, 1) := by decide +kernel
theorem dX7_endOf_1 : decode cX7_endOf 1 = .ok (.iload_n 1, 1) := by decide +kernel
theorem dX7_endOf_2 : decode cX7_endOf 2 = .ok (.invokevirtual 50, 3) := by decide +kernel
theorem dX7_endOf_5 : decode cX7_endOf 5 = .ok (.ifCond .eq 12, 3) := by decide +kernel
theorem dX7_endOf_8 : decode cX7_endOf 8 = .ok (.aload_n 0, 1) := by decide +kernel
theorem dX7_endOf_9 : decode cX7_endOf 9 = .ok (.getfield 18, 3) := by decide +kernel
theorem dX7_endOf_12 : decode cX7_endOf 12 = .ok (.iload_n 1, 1) := by decide +kernel
theorem dX7_endOf_13 : decode cX7_endOf 13 = .ok (.iaload, 1) := by decide +kernel
theorem dX7_endOf_14 : decode cX7_endOf 14 = .ok (.goto 4, 3) := by decide +kernel
theorem dX7_endOf_17 : decode cX7_endOf 17 = .ok (.iconst 0, 1) := by decide +kernel
theorem dX7_endOf_18 : decode cX7_endOf 18 = .ok (.ireturn, 1) := by decide +kernel
theorem dX7_eightOfText_0 : decode cX7_eightOfText 0 = .ok (.aload_n 0, 1) := by decide +kernel
theorem dX7_eightOfText_1 : decode cX7_eightOfText 1 = .ok (.iload_n 1, 1) := by decide +kernel
theorem dX7_eightOfText_2 : decode cX7_eightOfText 2 = .ok (.invokevirtual 50, 3) := by decide +kernel
theorem dX7_eightOfText_5 : decode cX7_eightOfText 5 = .ok (.ifCond .eq 12, 3) := by decide +kernel
theorem dX7_eightOfText_8 : decode cX7_eightOfText 8 = .ok (.aload_n 0, 1) := by decide +kernel
theorem dX7_eightOfText_9 : decode cX7_eightOfText 9 = .ok (.iload_n 1, 1) := by decide +kernel
theorem dX7_eightOfText_10 : decode cX7_eightOfText 10 = .ok (.invokevirtual 54, 3) := by decide +kernel
theorem dX7_eightOfText_13 : decode cX7_eightOfText 13 = .ok (.iconst 3, 1) := by decide +kernel
theorem dX7_eightOfText_14 : decode cX7_eightOfText 14 = .ok (.if_icmp .ne 5, 3) := by decide +kernel
theorem dX7_eightOfText_17 : decode cX7_eightOfText 17 = .ok (.lconst 0, 1) := by decide +kernel
theorem dX7_eightOfText_18 : decode cX7_eightOfText 18 = .ok (.lreturn, 1) := by decide +kernel
theorem dX7_eightOfText_19 : decode cX7_eightOfText 19 = .ok (.aload_n 0, 1) := by decide +kernel
theorem dX7_eightOfText_20 : decode cX7_eightOfText 20 = .ok (.getfield 28, 3) := by decide +kernel
theorem dX7_eightOfText_23 : decode cX7_eightOfText 23 = .ok (.aload_n 0, 1) := by decide +kernel
theorem dX7_eightOfText_24 : decode cX7_eightOfText 24 = .ok (.getfield 15, 3) := by decide +kernel
theorem dX7_eightOfText_27 : decode cX7_eightOfText 27 = .ok (.iload_n 1, 1) := by decide +kernel
theorem dX7_eightOfText_28 : decode cX7_eightOfText 28 = .ok (.iaload, 1) := by decide +kernel
theorem dX7_eightOfText_29 : decode cX7_eightOfText 29 = .ok (.aload_n 0, 1) := by decide +kernel
theorem dX7_eightOfText_30 : decode cX7_eightOfText 30 = .ok (.getfield 18, 3) := by decide +kernel
theorem dX7_eightOfText_33 : decode cX7_eightOfText 33 = .ok (.iload_n 1, 1) := by decide +kernel
theorem dX7_eightOfText_34 : decode cX7_eightOfText 34 = .ok (.iaload, 1) := by decide +kernel
theorem dX7_eightOfText_35 : decode cX7_eightOfText 35 = .ok (.iload_n 2, 1) := by decide +kernel
theorem dX7_eightOfText_36 : decode cX7_eightOfText 36 = .ok (.invokevirtual 58, 3) := by decide +kernel
theorem dX7_eightOfText_39 : decode cX7_eightOfText 39 = .ok (.lreturn, 1) := by decide +kernel
theorem dX7_findAttribute_0 : decode cX7_findAttribute 0 = .ok (.aload_n 0, 1) := by decide +kernel
theorem dX7_findAttribute_1 : decode cX7_findAttribute 1 = .ok (.iload_n 1, 1) := by decide +kernel
theorem dX7_findAttribute_2 : decode cX7_findAttribute 2 = .ok (.invokevirtual 54, 3) := by decide +kernel
theorem dX7_findAttribute_5 : decode cX7_findAttribute 5 = .ok (.iconst 3, 1) := by decide +kernel
theorem dX7_findAttribute_6 : decode cX7_findAttribute 6 = .ok (.if_icmp .eq 5, 3) := by decide +kernel
theorem dX7_findAttribute_9 : decode cX7_findAttribute 9 = .ok (.iconst (-1), 1) := by decide +kernel
theorem dX7_findAttribute_10 : decode cX7_findAttribute 10 = .ok (.ireturn, 1) := by decide +kernel
theorem dX7_findAttribute_11 : decode cX7_findAttribute 11 = .ok (.aload_n 0, 1) := by decide +kernel
theorem dX7_findAttribute_12 : decode cX7_findAttribute 12 = .ok (.iload_n 1, 1) := by decide +kernel
theorem dX7_findAttribute_13 : decode cX7_findAttribute 13 = .ok (.invokevirtual 62, 3) := by decide +kernel
theorem dX7_findAttribute_16 : decode cX7_findAttribute 16 = .ok (.istore_n 3, 1) := by decide +kernel
theorem dX7_findAttribute_17 : decode cX7_findAttribute 17 = .ok (.iload_n 3, 1) := by decide +kernel
theorem dX7_findAttribute_18 : decode cX7_findAttribute 18 = .ok (.aload_n 0, 1) := by decide +kernel
theorem dX7_findAttribute_19 : decode cX7_findAttribute 19 = .ok (.iload_n 1, 1) := by decide +kernel
theorem dX7_findAttribute_20 : decode cX7_findAttribute 20 = .ok (.invokevirtual 65, 3) := by decide +kernel
theorem dX7_findAttribute_23 : decode cX7_findAttribute 23 = .ok (.if_icmp .ge 29, 3) := by decide +kernel
theorem dX7_findAttribute_26 : decode cX7_findAttribute 26 = .ok (.aload_n 0, 1) := by decide +kernel
theorem dX7_findAttribute_27 : decode cX7_findAttribute 27 = .ok (.iload_n 3, 1) := by decide +kernel
theorem dX7_findAttribute_28 : decode cX7_findAttribute 28 = .ok (.invokevirtual 68, 3) := by decide +kernel
theorem dX7_findAttribute_31 : decode cX7_findAttribute 31 = .ok (.ifCond .eq 15, 3) := by decide +kernel
theorem dX7_findAttribute_34 : decode cX7_findAttribute 34 = .ok (.aload_n 0, 1) := by decide +kernel
theorem dX7_findAttribute_35 : decode cX7_findAttribute 35 = .ok (.getfield 32, 3) := by decide +kernel
theorem dX7_findAttribute_38 : decode cX7_findAttribute 38 = .ok (.iload_n 3, 1) := by decide +kernel
theorem dX7_findAttribute_39 : decode cX7_findAttribute 39 = .ok (.iaload, 1) := by decide +kernel
theorem dX7_findAttribute_40 : decode cX7_findAttribute 40 = .ok (.iload_n 2, 1) := by decide +kernel
theorem dX7_findAttribute_41 : decode cX7_findAttribute 41 = .ok (.if_icmp .ne 5, 3) := by decide +kernel
theorem dX7_findAttribute_44 : decode cX7_findAttribute 44 = .ok (.iload_n 3, 1) := by decide +kernel
theorem dX7_findAttribute_45 : decode cX7_findAttribute 45 = .ok (.ireturn, 1) := by decide +kernel
theorem dX7_findAttribute_46 : decode cX7_findAttribute 46 = .ok (.iinc 3 1, 3) := by decide +kernel
theorem dX7_findAttribute_49 : decode cX7_findAttribute 49 = .ok (.goto (-32), 3) := by decide +kernel
theorem dX7_findAttribute_52 : decode cX7_findAttribute 52 = .ok (.iconst (-1), 1) := by decide +kernel
theorem dX7_findAttribute_53 : decode cX7_findAttribute 53 = .ok (.ireturn, 1) := by decide +kernel
theorem dX7_hasAttribute_0 : decode cX7_hasAttribute 0 = .ok (.iload_n 1, 1) := by decide +kernel
theorem dX7_hasAttribute_1 : decode cX7_hasAttribute 1 = .ok (.ifCond .lt 15, 3) := by decide +kernel
theorem dX7_hasAttribute_4 : decode cX7_hasAttribute 4 = .ok (.iload_n 1, 1) := by decide +kernel
theorem dX7_hasAttribute_5 : decode cX7_hasAttribute 5 = .ok (.aload_n 0, 1) := by decide +kernel
theorem dX7_hasAttribute_6 : decode cX7_hasAttribute 6 = .ok (.getfield 41, 3) := by decide +kernel
theorem dX7_hasAttribute_9 : decode cX7_hasAttribute 9 = .ok (.if_icmp .ge 7, 3) := by decide +kernel
theorem dX7_hasAttribute_12 : decode cX7_hasAttribute 12 = .ok (.iconst 1, 1) := by decide +kernel
theorem dX7_hasAttribute_13 : decode cX7_hasAttribute 13 = .ok (.goto 4, 3) := by decide +kernel
theorem dX7_hasAttribute_16 : decode cX7_hasAttribute 16 = .ok (.iconst 0, 1) := by decide +kernel
theorem dX7_hasAttribute_17 : decode cX7_hasAttribute 17 = .ok (.ireturn, 1) := by decide +kernel
theorem dX7_letterOf_0 : decode cX7_letterOf 0 = .ok (.aload_n 0, 1) := by decide +kernel
theorem dX7_letterOf_1 : decode cX7_letterOf 1 = .ok (.iload_n 1, 1) := by decide +kernel
theorem dX7_letterOf_2 : decode cX7_letterOf 2 = .ok (.invokevirtual 68, 3) := by decide +kernel
theorem dX7_letterOf_5 : decode cX7_letterOf 5 = .ok (.ifCond .eq 12, 3) := by decide +kernel
theorem dX7_letterOf_8 : decode cX7_letterOf 8 = .ok (.aload_n 0, 1) := by decide +kernel
theorem dX7_letterOf_9 : decode cX7_letterOf 9 = .ok (.getfield 32, 3) := by decide +kernel
theorem dX7_letterOf_12 : decode cX7_letterOf 12 = .ok (.iload_n 1, 1) := by decide +kernel
theorem dX7_letterOf_13 : decode cX7_letterOf 13 = .ok (.iaload, 1) := by decide +kernel
theorem dX7_letterOf_14 : decode cX7_letterOf 14 = .ok (.goto 4, 3) := by decide +kernel
theorem dX7_letterOf_17 : decode cX7_letterOf 17 = .ok (.iconst (-1), 1) := by decide +kernel
theorem dX7_letterOf_18 : decode cX7_letterOf 18 = .ok (.ireturn, 1) := by decide +kernel
theorem dX7_valueBeginOf_0 : decode cX7_valueBeginOf 0 = .ok (.aload_n 0, 1) := by decide +kernel
theorem dX7_valueBeginOf_1 : decode cX7_valueBeginOf 1 = .ok (.iload_n 1, 1) := by decide +kernel
theorem dX7_valueBeginOf_2 : decode cX7_valueBeginOf 2 = .ok (.invokevirtual 68, 3) := by decide +kernel
theorem dX7_valueBeginOf_5 : decode cX7_valueBeginOf 5 = .ok (.ifCond .eq 12, 3) := by decide +kernel
theorem dX7_valueBeginOf_8 : decode cX7_valueBeginOf 8 = .ok (.aload_n 0, 1) := by decide +kernel
theorem dX7_valueBeginOf_9 : decode cX7_valueBeginOf 9 = .ok (.getfield 35, 3) := by decide +kernel
theorem dX7_valueBeginOf_12 : decode cX7_valueBeginOf 12 = .ok (.iload_n 1, 1) := by decide +kernel
theorem dX7_valueBeginOf_13 : decode cX7_valueBeginOf 13 = .ok (.iaload, 1) := by decide +kernel
theorem dX7_valueBeginOf_14 : decode cX7_valueBeginOf 14 = .ok (.goto 4, 3) := by decide +kernel
theorem dX7_valueBeginOf_17 : decode cX7_valueBeginOf 17 = .ok (.iconst 0, 1) := by decide +kernel
theorem dX7_valueBeginOf_18 : decode cX7_valueBeginOf 18 = .ok (.ireturn, 1) := by decide +kernel
theorem dX7_valueEndOf_0 : decode cX7_valueEndOf 0 = .ok (.aload_n 0, 1) := by decide +kernel
theorem dX7_valueEndOf_1 : decode cX7_valueEndOf 1 = .ok (.iload_n 1, 1) := by decide +kernel
theorem dX7_valueEndOf_2 : decode cX7_valueEndOf 2 = .ok (.invokevirtual 68, 3) := by decide +kernel
theorem dX7_valueEndOf_5 : decode cX7_valueEndOf 5 = .ok (.ifCond .eq 12, 3) := by decide +kernel
theorem dX7_valueEndOf_8 : decode cX7_valueEndOf 8 = .ok (.aload_n 0, 1) := by decide +kernel
theorem dX7_valueEndOf_9 : decode cX7_valueEndOf 9 = .ok (.getfield 38, 3) := by decide +kernel
theorem dX7_valueEndOf_12 : decode cX7_valueEndOf 12 = .ok (.iload_n 1, 1) := by decide +kernel
theorem dX7_valueEndOf_13 : decode cX7_valueEndOf 13 = .ok (.iaload, 1) := by decide +kernel
theorem dX7_valueEndOf_14 : decode cX7_valueEndOf 14 = .ok (.goto 4, 3) := by decide +kernel
theorem dX7_valueEndOf_17 : decode cX7_valueEndOf 17 = .ok (.iconst 0, 1) := by decide +kernel
theorem dX7_valueEndOf_18 : decode cX7_valueEndOf 18 = .ok (.ireturn, 1) := by decide +kernel
theorem dX7_sizeOfValue_0 : decode cX7_sizeOfValue 0 = .ok (.aload_n 0, 1) := by decide +kernel
theorem dX7_sizeOfValue_1 : decode cX7_sizeOfValue 1 = .ok (.iload_n 1, 1) := by decide +kernel
theorem dX7_sizeOfValue_2 : decode cX7_sizeOfValue 2 = .ok (.invokevirtual 68, 3) := by decide +kernel
theorem dX7_sizeOfValue_5 : decode cX7_sizeOfValue 5 = .ok (.ifCond .eq 19, 3) := by decide +kernel
theorem dX7_sizeOfValue_8 : decode cX7_sizeOfValue 8 = .ok (.aload_n 0, 1) := by decide +kernel
theorem dX7_sizeOfValue_9 : decode cX7_sizeOfValue 9 = .ok (.getfield 38, 3) := by decide +kernel
theorem dX7_sizeOfValue_12 : decode cX7_sizeOfValue 12 = .ok (.iload_n 1, 1) := by decide +kernel
theorem dX7_sizeOfValue_13 : decode cX7_sizeOfValue 13 = .ok (.iaload, 1) := by decide +kernel
theorem dX7_sizeOfValue_14 : decode cX7_sizeOfValue 14 = .ok (.aload_n 0, 1) := by decide +kernel
theorem dX7_sizeOfValue_15 : decode cX7_sizeOfValue 15 = .ok (.getfield 35, 3) := by decide +kernel
theorem dX7_sizeOfValue_18 : decode cX7_sizeOfValue 18 = .ok (.iload_n 1, 1) := by decide +kernel
theorem dX7_sizeOfValue_19 : decode cX7_sizeOfValue 19 = .ok (.iaload, 1) := by decide +kernel
theorem dX7_sizeOfValue_20 : decode cX7_sizeOfValue 20 = .ok (.isub, 1) := by decide +kernel
theorem dX7_sizeOfValue_21 : decode cX7_sizeOfValue 21 = .ok (.goto 4, 3) := by decide +kernel
theorem dX7_sizeOfValue_24 : decode cX7_sizeOfValue 24 = .ok (.iconst (-1), 1) := by decide +kernel
theorem dX7_sizeOfValue_25 : decode cX7_sizeOfValue 25 = .ok (.ireturn, 1) := by decide +kernel
theorem dX7_eightOfValue_0 : decode cX7_eightOfValue 0 = .ok (.aload_n 0, 1) := by decide +kernel
theorem dX7_eightOfValue_1 : decode cX7_eightOfValue 1 = .ok (.getfield 44, 3) := by decide +kernel
theorem dX7_eightOfValue_4 : decode cX7_eightOfValue 4 = .ok (.aload_n 0, 1) := by decide +kernel
theorem dX7_eightOfValue_5 : decode cX7_eightOfValue 5 = .ok (.iload_n 1, 1) := by decide +kernel
theorem dX7_eightOfValue_6 : decode cX7_eightOfValue 6 = .ok (.invokevirtual 71, 3) := by decide +kernel
theorem dX7_eightOfValue_9 : decode cX7_eightOfValue 9 = .ok (.aload_n 0, 1) := by decide +kernel
theorem dX7_eightOfValue_10 : decode cX7_eightOfValue 10 = .ok (.iload_n 1, 1) := by decide +kernel
theorem dX7_eightOfValue_11 : decode cX7_eightOfValue 11 = .ok (.invokevirtual 74, 3) := by decide +kernel
theorem dX7_eightOfValue_14 : decode cX7_eightOfValue 14 = .ok (.iload_n 2, 1) := by decide +kernel
theorem dX7_eightOfValue_15 : decode cX7_eightOfValue 15 = .ok (.invokevirtual 58, 3) := by decide +kernel
theorem dX7_eightOfValue_18 : decode cX7_eightOfValue 18 = .ok (.lreturn, 1) := by decide +kernel
theorem dX7_addElement_0 : decode cX7_addElement 0 = .ok (.iconst 3, 1) := by decide +kernel
theorem dX7_addElement_1 : decode cX7_addElement 1 = .ok (.iload_n 1, 1) := by decide +kernel
theorem dX7_addElement_2 : decode cX7_addElement 2 = .ok (.iconst 2, 1) := by decide +kernel
theorem dX7_addElement_3 : decode cX7_addElement 3 = .ok (.ishl, 1) := by decide +kernel
theorem dX7_addElement_4 : decode cX7_addElement 4 = .ok (.ior, 1) := by decide +kernel
theorem dX7_addElement_5 : decode cX7_addElement 5 = .ok (.iload_n 2, 1) := by decide +kernel
theorem dX7_addElement_6 : decode cX7_addElement 6 = .ok (.bipush 7, 2) := by decide +kernel
theorem dX7_addElement_8 : decode cX7_addElement 8 = .ok (.ishl, 1) := by decide +kernel
theorem dX7_addElement_9 : decode cX7_addElement 9 = .ok (.ior, 1) := by decide +kernel
theorem dX7_addElement_10 : decode cX7_addElement 10 = .ok (.istore 4, 2) := by decide +kernel
theorem dX7_addElement_12 : decode cX7_addElement 12 = .ok (.aload_n 0, 1) := by decide +kernel
theorem dX7_addElement_13 : decode cX7_addElement 13 = .ok (.iload 4, 2) := by decide +kernel
theorem dX7_addElement_15 : decode cX7_addElement 15 = .ok (.iload_n 3, 1) := by decide +kernel
theorem dX7_addElement_16 : decode cX7_addElement 16 = .ok (.ifCond .eq 9, 3) := by decide +kernel
theorem dX7_addElement_19 : decode cX7_addElement 19 = .ok (.sipush 4096, 3) := by decide +kernel
theorem dX7_addElement_22 : decode cX7_addElement 22 = .ok (.goto 4, 3) := by decide +kernel
theorem dX7_addElement_25 : decode cX7_addElement 25 = .ok (.iconst 0, 1) := by decide +kernel
theorem dX7_addElement_26 : decode cX7_addElement 26 = .ok (.ior, 1) := by decide +kernel
theorem dX7_addElement_27 : decode cX7_addElement 27 = .ok (.aload_n 0, 1) := by decide +kernel
theorem dX7_addElement_28 : decode cX7_addElement 28 = .ok (.getfield 41, 3) := by decide +kernel
theorem dX7_addElement_31 : decode cX7_addElement 31 = .ok (.invokevirtual 77, 3) := by decide +kernel
theorem dX7_addElement_34 : decode cX7_addElement 34 = .ok (.ireturn, 1) := by decide +kernel
theorem dX7_addComment_0 : decode cX7_addComment 0 = .ok (.aload_n 0, 1) := by decide +kernel
theorem dX7_addComment_1 : decode cX7_addComment 1 = .ok (.iconst 2, 1) := by decide +kernel
theorem dX7_addComment_2 : decode cX7_addComment 2 = .ok (.iload_n 1, 1) := by decide +kernel
theorem dX7_addComment_3 : decode cX7_addComment 3 = .ok (.bipush 7, 2) := by decide +kernel
theorem dX7_addComment_5 : decode cX7_addComment 5 = .ok (.ishl, 1) := by decide +kernel
theorem dX7_addComment_6 : decode cX7_addComment 6 = .ok (.ior, 1) := by decide +kernel
theorem dX7_addComment_7 : decode cX7_addComment 7 = .ok (.aload_n 0, 1) := by decide +kernel
theorem dX7_addComment_8 : decode cX7_addComment 8 = .ok (.getfield 28, 3) := by decide +kernel
theorem dX7_addComment_11 : decode cX7_addComment 11 = .ok (.invokevirtual 81, 3) := by decide +kernel
theorem dX7_addComment_14 : decode cX7_addComment 14 = .ok (.invokevirtual 77, 3) := by decide +kernel
theorem dX7_addComment_17 : decode cX7_addComment 17 = .ok (.istore 5, 2) := by decide +kernel
theorem dX7_addComment_19 : decode cX7_addComment 19 = .ok (.aload_n 0, 1) := by decide +kernel
theorem dX7_addComment_20 : decode cX7_addComment 20 = .ok (.getfield 28, 3) := by decide +kernel
theorem dX7_addComment_23 : decode cX7_addComment 23 = .ok (.aload_n 2, 1) := by decide +kernel
theorem dX7_addComment_24 : decode cX7_addComment 24 = .ok (.iload_n 3, 1) := by decide +kernel
theorem dX7_addComment_25 : decode cX7_addComment 25 = .ok (.iload 4, 2) := by decide +kernel
theorem dX7_addComment_27 : decode cX7_addComment 27 = .ok (.invokevirtual 85, 3) := by decide +kernel
theorem dX7_addComment_30 : decode cX7_addComment 30 = .ok (.aload_n 0, 1) := by decide +kernel
theorem dX7_addComment_31 : decode cX7_addComment 31 = .ok (.iload 5, 2) := by decide +kernel
theorem dX7_addComment_33 : decode cX7_addComment 33 = .ok (.invokevirtual 89, 3) := by decide +kernel
theorem dX7_addComment_36 : decode cX7_addComment 36 = .ok (.return_, 1) := by decide +kernel
theorem dX7_addRaw_0 : decode cX7_addRaw 0 = .ok (.aload_n 0, 1) := by decide +kernel
theorem dX7_addRaw_1 : decode cX7_addRaw 1 = .ok (.iload_n 1, 1) := by decide +kernel
theorem dX7_addRaw_2 : decode cX7_addRaw 2 = .ok (.invokevirtual 93, 3) := by decide +kernel
theorem dX7_addRaw_5 : decode cX7_addRaw 5 = .ok (.istore 5, 2) := by decide +kernel
theorem dX7_addRaw_7 : decode cX7_addRaw 7 = .ok (.aload_n 0, 1) := by decide +kernel
theorem dX7_addRaw_8 : decode cX7_addRaw 8 = .ok (.getfield 28, 3) := by decide +kernel
theorem dX7_addRaw_11 : decode cX7_addRaw 11 = .ok (.aload_n 2, 1) := by decide +kernel
theorem dX7_addRaw_12 : decode cX7_addRaw 12 = .ok (.iload_n 3, 1) := by decide +kernel
theorem dX7_addRaw_13 : decode cX7_addRaw 13 = .ok (.iload 4, 2) := by decide +kernel
theorem dX7_addRaw_15 : decode cX7_addRaw 15 = .ok (.invokevirtual 85, 3) := by decide +kernel
theorem dX7_addRaw_18 : decode cX7_addRaw 18 = .ok (.aload_n 0, 1) := by decide +kernel
theorem dX7_addRaw_19 : decode cX7_addRaw 19 = .ok (.iload 5, 2) := by decide +kernel
theorem dX7_addRaw_21 : decode cX7_addRaw 21 = .ok (.invokevirtual 89, 3) := by decide +kernel
theorem dX7_addRaw_24 : decode cX7_addRaw 24 = .ok (.return_, 1) := by decide +kernel
theorem dX7_addText_0 : decode cX7_addText 0 = .ok (.aload_n 0, 1) := by decide +kernel
theorem dX7_addText_1 : decode cX7_addText 1 = .ok (.iload_n 1, 1) := by decide +kernel
theorem dX7_addText_2 : decode cX7_addText 2 = .ok (.invokevirtual 93, 3) := by decide +kernel
theorem dX7_addText_5 : decode cX7_addText 5 = .ok (.istore 5, 2) := by decide +kernel
theorem dX7_addText_7 : decode cX7_addText 7 = .ok (.aload_n 0, 1) := by decide +kernel
theorem dX7_addText_8 : decode cX7_addText 8 = .ok (.getfield 28, 3) := by decide +kernel
theorem dX7_addText_11 : decode cX7_addText 11 = .ok (.aload_n 2, 1) := by decide +kernel
theorem dX7_addText_12 : decode cX7_addText 12 = .ok (.iload_n 3, 1) := by decide +kernel
theorem dX7_addText_13 : decode cX7_addText 13 = .ok (.iload 4, 2) := by decide +kernel
theorem dX7_addText_15 : decode cX7_addText 15 = .ok (.invokevirtual 96, 3) := by decide +kernel
theorem dX7_addText_18 : decode cX7_addText 18 = .ok (.aload_n 0, 1) := by decide +kernel
theorem dX7_addText_19 : decode cX7_addText 19 = .ok (.iload 5, 2) := by decide +kernel
theorem dX7_addText_21 : decode cX7_addText 21 = .ok (.invokevirtual 89, 3) := by decide +kernel
theorem dX7_addText_24 : decode cX7_addText 24 = .ok (.return_, 1) := by decide +kernel
theorem dX7_openText_0 : decode cX7_openText 0 = .ok (.aload_n 0, 1) := by decide +kernel
theorem dX7_openText_1 : decode cX7_openText 1 = .ok (.getfield 21, 3) := by decide +kernel
theorem dX7_openText_4 : decode cX7_openText 4 = .ok (.iconst 1, 1) := by decide +kernel
theorem dX7_openText_5 : decode cX7_openText 5 = .ok (.isub, 1) := by decide +kernel
theorem dX7_openText_6 : decode cX7_openText 6 = .ok (.istore_n 2, 1) := by decide +kernel
theorem dX7_openText_7 : decode cX7_openText 7 = .ok (.aload_n 0, 1) := by decide +kernel
theorem dX7_openText_8 : decode cX7_openText 8 = .ok (.iload_n 2, 1) := by decide +kernel
theorem dX7_openText_9 : decode cX7_openText 9 = .ok (.invokevirtual 54, 3) := by decide +kernel
theorem dX7_openText_12 : decode cX7_openText 12 = .ok (.iconst 1, 1) := by decide +kernel
theorem dX7_openText_13 : decode cX7_openText 13 = .ok (.if_icmp .ne 16, 3) := by decide +kernel
theorem dX7_openText_16 : decode cX7_openText 16 = .ok (.aload_n 0, 1) := by decide +kernel
theorem dX7_openText_17 : decode cX7_openText 17 = .ok (.iload_n 2, 1) := by decide +kernel
theorem dX7_openText_18 : decode cX7_openText 18 = .ok (.invokevirtual 99, 3) := by decide +kernel
theorem dX7_openText_21 : decode cX7_openText 21 = .ok (.iload_n 1, 1) := by decide +kernel
theorem dX7_openText_22 : decode cX7_openText 22 = .ok (.if_icmp .ne 7, 3) := by decide +kernel
theorem dX7_openText_25 : decode cX7_openText 25 = .ok (.iconst 1, 1) := by decide +kernel
theorem dX7_openText_26 : decode cX7_openText 26 = .ok (.goto 4, 3) := by decide +kernel
theorem dX7_openText_29 : decode cX7_openText 29 = .ok (.iconst 0, 1) := by decide +kernel
theorem dX7_openText_30 : decode cX7_openText 30 = .ok (.istore_n 3, 1) := by decide +kernel
theorem dX7_openText_31 : decode cX7_openText 31 = .ok (.iload_n 3, 1) := by decide +kernel
theorem dX7_openText_32 : decode cX7_openText 32 = .ok (.ifCond .eq 7, 3) := by decide +kernel
theorem dX7_openText_35 : decode cX7_openText 35 = .ok (.iload_n 2, 1) := by decide +kernel
theorem dX7_openText_36 : decode cX7_openText 36 = .ok (.goto 20, 3) := by decide +kernel
theorem dX7_openText_39 : decode cX7_openText 39 = .ok (.aload_n 0, 1) := by decide +kernel
theorem dX7_openText_40 : decode cX7_openText 40 = .ok (.iconst 1, 1) := by decide +kernel
theorem dX7_openText_41 : decode cX7_openText 41 = .ok (.iload_n 1, 1) := by decide +kernel
theorem dX7_openText_42 : decode cX7_openText 42 = .ok (.bipush 7, 2) := by decide +kernel
theorem dX7_openText_44 : decode cX7_openText 44 = .ok (.ishl, 1) := by decide +kernel
theorem dX7_openText_45 : decode cX7_openText 45 = .ok (.ior, 1) := by decide +kernel
theorem dX7_openText_46 : decode cX7_openText 46 = .ok (.aload_n 0, 1) := by decide +kernel
theorem dX7_openText_47 : decode cX7_openText 47 = .ok (.getfield 28, 3) := by decide +kernel
theorem dX7_openText_50 : decode cX7_openText 50 = .ok (.invokevirtual 81, 3) := by decide +kernel
theorem dX7_openText_53 : decode cX7_openText 53 = .ok (.invokevirtual 77, 3) := by decide +kernel
theorem dX7_openText_56 : decode cX7_openText 56 = .ok (.ireturn, 1) := by decide +kernel
theorem dX7_endCharacters_0 : decode cX7_endCharacters 0 = .ok (.aload_n 0, 1) := by decide +kernel
theorem dX7_endCharacters_1 : decode cX7_endCharacters 1 = .ok (.iload_n 1, 1) := by decide +kernel
theorem dX7_endCharacters_2 : decode cX7_endCharacters 2 = .ok (.invokevirtual 50, 3) := by decide +kernel
theorem dX7_endCharacters_5 : decode cX7_endCharacters 5 = .ok (.ifCond .eq 16, 3) := by decide +kernel
theorem dX7_endCharacters_8 : decode cX7_endCharacters 8 = .ok (.aload_n 0, 1) := by decide +kernel
theorem dX7_endCharacters_9 : decode cX7_endCharacters 9 = .ok (.getfield 18, 3) := by decide +kernel
theorem dX7_endCharacters_12 : decode cX7_endCharacters 12 = .ok (.iload_n 1, 1) := by decide +kernel
theorem dX7_endCharacters_13 : decode cX7_endCharacters 13 = .ok (.aload_n 0, 1) := by decide +kernel
theorem dX7_endCharacters_14 : decode cX7_endCharacters 14 = .ok (.getfield 28, 3) := by decide +kernel
theorem dX7_endCharacters_17 : decode cX7_endCharacters 17 = .ok (.invokevirtual 81, 3) := by decide +kernel
theorem dX7_endCharacters_20 : decode cX7_endCharacters 20 = .ok (.iastore, 1) := by decide +kernel
theorem dX7_endCharacters_21 : decode cX7_endCharacters 21 = .ok (.return_, 1) := by decide +kernel
theorem dX7_addNode_0 : decode cX7_addNode 0 = .ok (.aload_n 0, 1) := by decide +kernel
theorem dX7_addNode_1 : decode cX7_addNode 1 = .ok (.getfield 21, 3) := by decide +kernel
theorem dX7_addNode_4 : decode cX7_addNode 4 = .ok (.sipush 200, 3) := by decide +kernel
theorem dX7_addNode_7 : decode cX7_addNode 7 = .ok (.if_icmp .lt 5, 3) := by decide +kernel
theorem dX7_addNode_10 : decode cX7_addNode 10 = .ok (.iconst (-1), 1) := by decide +kernel
theorem dX7_addNode_11 : decode cX7_addNode 11 = .ok (.ireturn, 1) := by decide +kernel
theorem dX7_addNode_12 : decode cX7_addNode 12 = .ok (.aload_n 0, 1) := by decide +kernel
theorem dX7_addNode_13 : decode cX7_addNode 13 = .ok (.getfield 11, 3) := by decide +kernel
theorem dX7_addNode_16 : decode cX7_addNode 16 = .ok (.aload_n 0, 1) := by decide +kernel
theorem dX7_addNode_17 : decode cX7_addNode 17 = .ok (.getfield 21, 3) := by decide +kernel
theorem dX7_addNode_20 : decode cX7_addNode 20 = .ok (.iload_n 1, 1) := by decide +kernel
theorem dX7_addNode_21 : decode cX7_addNode 21 = .ok (.iastore, 1) := by decide +kernel
theorem dX7_addNode_22 : decode cX7_addNode 22 = .ok (.aload_n 0, 1) := by decide +kernel
theorem dX7_addNode_23 : decode cX7_addNode 23 = .ok (.getfield 15, 3) := by decide +kernel
theorem dX7_addNode_26 : decode cX7_addNode 26 = .ok (.aload_n 0, 1) := by decide +kernel
theorem dX7_addNode_27 : decode cX7_addNode 27 = .ok (.getfield 21, 3) := by decide +kernel
theorem dX7_addNode_30 : decode cX7_addNode 30 = .ok (.iload_n 2, 1) := by decide +kernel
theorem dX7_addNode_31 : decode cX7_addNode 31 = .ok (.iastore, 1) := by decide +kernel
theorem dX7_addNode_32 : decode cX7_addNode 32 = .ok (.aload_n 0, 1) := by decide +kernel
theorem dX7_addNode_33 : decode cX7_addNode 33 = .ok (.getfield 18, 3) := by decide +kernel
theorem dX7_addNode_36 : decode cX7_addNode 36 = .ok (.aload_n 0, 1) := by decide +kernel
theorem dX7_addNode_37 : decode cX7_addNode 37 = .ok (.getfield 21, 3) := by decide +kernel
theorem dX7_addNode_40 : decode cX7_addNode 40 = .ok (.iload_n 2, 1) := by decide +kernel
theorem dX7_addNode_41 : decode cX7_addNode 41 = .ok (.iastore, 1) := by decide +kernel
theorem dX7_addNode_42 : decode cX7_addNode 42 = .ok (.aload_n 0, 1) := by decide +kernel
theorem dX7_addNode_43 : decode cX7_addNode 43 = .ok (.dup, 1) := by decide +kernel
theorem dX7_addNode_44 : decode cX7_addNode 44 = .ok (.getfield 21, 3) := by decide +kernel
theorem dX7_addNode_47 : decode cX7_addNode 47 = .ok (.iconst 1, 1) := by decide +kernel
theorem dX7_addNode_48 : decode cX7_addNode 48 = .ok (.iadd, 1) := by decide +kernel
theorem dX7_addNode_49 : decode cX7_addNode 49 = .ok (.putfield 21, 3) := by decide +kernel
theorem dX7_addNode_52 : decode cX7_addNode 52 = .ok (.aload_n 0, 1) := by decide +kernel
theorem dX7_addNode_53 : decode cX7_addNode 53 = .ok (.getfield 21, 3) := by decide +kernel
theorem dX7_addNode_56 : decode cX7_addNode 56 = .ok (.iconst 1, 1) := by decide +kernel
theorem dX7_addNode_57 : decode cX7_addNode 57 = .ok (.isub, 1) := by decide +kernel
theorem dX7_addNode_58 : decode cX7_addNode 58 = .ok (.ireturn, 1) := by decide +kernel
theorem dX7_addAttributes_0 : decode cX7_addAttributes 0 = .ok (.iconst 0, 1) := by decide +kernel
theorem dX7_addAttributes_1 : decode cX7_addAttributes 1 = .ok (.istore_n 3, 1) := by decide +kernel
theorem dX7_addAttributes_2 : decode cX7_addAttributes 2 = .ok (.iload_n 3, 1) := by decide +kernel
theorem dX7_addAttributes_3 : decode cX7_addAttributes 3 = .ok (.bipush 26, 2) := by decide +kernel
theorem dX7_addAttributes_5 : decode cX7_addAttributes 5 = .ok (.if_icmp .ge 96, 3) := by decide +kernel
theorem dX7_addAttributes_8 : decode cX7_addAttributes 8 = .ok (.aload_n 1, 1) := by decide +kernel
theorem dX7_addAttributes_9 : decode cX7_addAttributes 9 = .ok (.iload_n 3, 1) := by decide +kernel
theorem dX7_addAttributes_10 : decode cX7_addAttributes 10 = .ok (.invokevirtual 102, 3) := by decide +kernel
theorem dX7_addAttributes_13 : decode cX7_addAttributes 13 = .ok (.ifCond .eq 82, 3) := by decide +kernel
theorem dX7_addAttributes_16 : decode cX7_addAttributes 16 = .ok (.aload_n 0, 1) := by decide +kernel
theorem dX7_addAttributes_17 : decode cX7_addAttributes 17 = .ok (.getfield 41, 3) := by decide +kernel
theorem dX7_addAttributes_20 : decode cX7_addAttributes 20 = .ok (.bipush 100, 2) := by decide +kernel
theorem dX7_addAttributes_22 : decode cX7_addAttributes 22 = .ok (.if_icmp .ge 73, 3) := by decide +kernel
theorem dX7_addAttributes_25 : decode cX7_addAttributes 25 = .ok (.aload_n 0, 1) := by decide +kernel
theorem dX7_addAttributes_26 : decode cX7_addAttributes 26 = .ok (.getfield 32, 3) := by decide +kernel
theorem dX7_addAttributes_29 : decode cX7_addAttributes 29 = .ok (.aload_n 0, 1) := by decide +kernel
theorem dX7_addAttributes_30 : decode cX7_addAttributes 30 = .ok (.getfield 41, 3) := by decide +kernel
theorem dX7_addAttributes_33 : decode cX7_addAttributes 33 = .ok (.iload_n 3, 1) := by decide +kernel
theorem dX7_addAttributes_34 : decode cX7_addAttributes 34 = .ok (.iastore, 1) := by decide +kernel
theorem dX7_addAttributes_35 : decode cX7_addAttributes 35 = .ok (.aload_n 0, 1) := by decide +kernel
theorem dX7_addAttributes_36 : decode cX7_addAttributes 36 = .ok (.getfield 35, 3) := by decide +kernel
theorem dX7_addAttributes_39 : decode cX7_addAttributes 39 = .ok (.aload_n 0, 1) := by decide +kernel
theorem dX7_addAttributes_40 : decode cX7_addAttributes 40 = .ok (.getfield 41, 3) := by decide +kernel
theorem dX7_addAttributes_43 : decode cX7_addAttributes 43 = .ok (.aload_n 0, 1) := by decide +kernel
theorem dX7_addAttributes_44 : decode cX7_addAttributes 44 = .ok (.getfield 44, 3) := by decide +kernel
theorem dX7_addAttributes_47 : decode cX7_addAttributes 47 = .ok (.invokevirtual 81, 3) := by decide +kernel
theorem dX7_addAttributes_50 : decode cX7_addAttributes 50 = .ok (.iastore, 1) := by decide +kernel
theorem dX7_addAttributes_51 : decode cX7_addAttributes 51 = .ok (.aload_n 0, 1) := by decide +kernel
theorem dX7_addAttributes_52 : decode cX7_addAttributes 52 = .ok (.getfield 44, 3) := by decide +kernel
theorem dX7_addAttributes_55 : decode cX7_addAttributes 55 = .ok (.aload_n 2, 1) := by decide +kernel
theorem dX7_addAttributes_56 : decode cX7_addAttributes 56 = .ok (.aload_n 1, 1) := by decide +kernel
theorem dX7_addAttributes_57 : decode cX7_addAttributes 57 = .ok (.iload_n 3, 1) := by decide +kernel
theorem dX7_addAttributes_58 : decode cX7_addAttributes 58 = .ok (.invokevirtual 105, 3) := by decide +kernel
theorem dX7_addAttributes_61 : decode cX7_addAttributes 61 = .ok (.aload_n 1, 1) := by decide +kernel
theorem dX7_addAttributes_62 : decode cX7_addAttributes 62 = .ok (.iload_n 3, 1) := by decide +kernel
theorem dX7_addAttributes_63 : decode cX7_addAttributes 63 = .ok (.invokevirtual 106, 3) := by decide +kernel
theorem dX7_addAttributes_66 : decode cX7_addAttributes 66 = .ok (.invokevirtual 96, 3) := by decide +kernel
theorem dX7_addAttributes_69 : decode cX7_addAttributes 69 = .ok (.aload_n 0, 1) := by decide +kernel
theorem dX7_addAttributes_70 : decode cX7_addAttributes 70 = .ok (.getfield 38, 3) := by decide +kernel
theorem dX7_addAttributes_73 : decode cX7_addAttributes 73 = .ok (.aload_n 0, 1) := by decide +kernel
theorem dX7_addAttributes_74 : decode cX7_addAttributes 74 = .ok (.getfield 41, 3) := by decide +kernel
theorem dX7_addAttributes_77 : decode cX7_addAttributes 77 = .ok (.aload_n 0, 1) := by decide +kernel
theorem dX7_addAttributes_78 : decode cX7_addAttributes 78 = .ok (.getfield 44, 3) := by decide +kernel
theorem dX7_addAttributes_81 : decode cX7_addAttributes 81 = .ok (.invokevirtual 81, 3) := by decide +kernel
theorem dX7_addAttributes_84 : decode cX7_addAttributes 84 = .ok (.iastore, 1) := by decide +kernel
theorem dX7_addAttributes_85 : decode cX7_addAttributes 85 = .ok (.aload_n 0, 1) := by decide +kernel
theorem dX7_addAttributes_86 : decode cX7_addAttributes 86 = .ok (.dup, 1) := by decide +kernel
theorem dX7_addAttributes_87 : decode cX7_addAttributes 87 = .ok (.getfield 41, 3) := by decide +kernel
theorem dX7_addAttributes_90 : decode cX7_addAttributes 90 = .ok (.iconst 1, 1) := by decide +kernel
theorem dX7_addAttributes_91 : decode cX7_addAttributes 91 = .ok (.iadd, 1) := by decide +kernel
theorem dX7_addAttributes_92 : decode cX7_addAttributes 92 = .ok (.putfield 41, 3) := by decide +kernel
theorem dX7_addAttributes_95 : decode cX7_addAttributes 95 = .ok (.iinc 3 1, 3) := by decide +kernel
theorem dX7_addAttributes_98 : decode cX7_addAttributes 98 = .ok (.goto (-96), 3) := by decide +kernel
theorem dX7_addAttributes_101 : decode cX7_addAttributes 101 = .ok (.aload_n 0, 1) := by decide +kernel
theorem dX7_addAttributes_102 : decode cX7_addAttributes 102 = .ok (.aload_n 0, 1) := by decide +kernel
theorem dX7_addAttributes_103 : decode cX7_addAttributes 103 = .ok (.getfield 21, 3) := by decide +kernel
theorem dX7_addAttributes_106 : decode cX7_addAttributes 106 = .ok (.iconst 1, 1) := by decide +kernel
theorem dX7_addAttributes_107 : decode cX7_addAttributes 107 = .ok (.isub, 1) := by decide +kernel
theorem dX7_addAttributes_108 : decode cX7_addAttributes 108 = .ok (.invokevirtual 50, 3) := by decide +kernel
theorem dX7_addAttributes_111 : decode cX7_addAttributes 111 = .ok (.ifCond .eq 18, 3) := by decide +kernel
theorem dX7_addAttributes_114 : decode cX7_addAttributes 114 = .ok (.aload_n 0, 1) := by decide +kernel
theorem dX7_addAttributes_115 : decode cX7_addAttributes 115 = .ok (.getfield 18, 3) := by decide +kernel
theorem dX7_addAttributes_118 : decode cX7_addAttributes 118 = .ok (.aload_n 0, 1) := by decide +kernel
theorem dX7_addAttributes_119 : decode cX7_addAttributes 119 = .ok (.getfield 21, 3) := by decide +kernel
theorem dX7_addAttributes_122 : decode cX7_addAttributes 122 = .ok (.iconst 1, 1) := by decide +kernel
theorem dX7_addAttributes_123 : decode cX7_addAttributes 123 = .ok (.isub, 1) := by decide +kernel
theorem dX7_addAttributes_124 : decode cX7_addAttributes 124 = .ok (.aload_n 0, 1) := by decide +kernel
theorem dX7_addAttributes_125 : decode cX7_addAttributes 125 = .ok (.getfield 41, 3) := by decide +kernel
theorem dX7_addAttributes_128 : decode cX7_addAttributes 128 = .ok (.iastore, 1) := by decide +kernel
theorem dX7_addAttributes_129 : decode cX7_addAttributes 129 = .ok (.return_, 1) := by decide +kernel
theorem dX8_init_0 : decode cX8_init 0 = .ok (.aload_n 0, 1) := by decide +kernel
theorem dX8_init_1 : decode cX8_init 1 = .ok (.invokespecial 3, 3) := by decide +kernel
theorem dX8_init_4 : decode cX8_init 4 = .ok (.aload_n 0, 1) := by decide +kernel
theorem dX8_init_5 : decode cX8_init 5 = .ok (.aload_n 1, 1) := by decide +kernel
theorem dX8_init_6 : decode cX8_init 6 = .ok (.putfield 9, 3) := by decide +kernel
theorem dX8_init_9 : decode cX8_init 9 = .ok (.aload_n 0, 1) := by decide +kernel
theorem dX8_init_10 : decode cX8_init 10 = .ok (.aload_n 2, 1) := by decide +kernel
theorem dX8_init_11 : decode cX8_init 11 = .ok (.putfield 15, 3) := by decide +kernel
theorem dX8_init_14 : decode cX8_init 14 = .ok (.aload_n 0, 1) := by decide +kernel
theorem dX8_init_15 : decode cX8_init 15 = .ok (.bipush 8, 2) := by decide +kernel
theorem dX8_init_17 : decode cX8_init 17 = .ok (.newarray .int, 2) := by decide +kernel
theorem dX8_init_19 : decode cX8_init 19 = .ok (.putfield 19, 3) := by decide +kernel
theorem dX8_init_22 : decode cX8_init 22 = .ok (.aload_n 0, 1) := by decide +kernel
theorem dX8_init_23 : decode cX8_init 23 = .ok (.iconst 0, 1) := by decide +kernel
theorem dX8_init_24 : decode cX8_init 24 = .ok (.putfield 23, 3) := by decide +kernel
theorem dX8_init_27 : decode cX8_init 27 = .ok (.return_, 1) := by decide +kernel
theorem dX8_writeAll_0 : decode cX8_writeAll 0 = .ok (.aload_n 0, 1) := by decide +kernel
theorem dX8_writeAll_1 : decode cX8_writeAll 1 = .ok (.getfield 15, 3) := by decide +kernel
theorem dX8_writeAll_4 : decode cX8_writeAll 4 = .ok (.invokevirtual 27, 3) := by decide +kernel
theorem dX8_writeAll_7 : decode cX8_writeAll 7 = .ok (.aload_n 0, 1) := by decide +kernel
theorem dX8_writeAll_8 : decode cX8_writeAll 8 = .ok (.iconst 0, 1) := by decide +kernel
theorem dX8_writeAll_9 : decode cX8_writeAll 9 = .ok (.putfield 23, 3) := by decide +kernel
theorem dX8_writeAll_12 : decode cX8_writeAll 12 = .ok (.bipush 9, 2) := by decide +kernel
theorem dX8_writeAll_14 : decode cX8_writeAll 14 = .ok (.istore_n 2, 1) := by decide +kernel
theorem dX8_writeAll_15 : decode cX8_writeAll 15 = .ok (.iconst 0, 1) := by decide +kernel
theorem dX8_writeAll_16 : decode cX8_writeAll 16 = .ok (.istore_n 3, 1) := by decide +kernel
theorem dX8_writeAll_17 : decode cX8_writeAll 17 = .ok (.iload_n 3, 1) := by decide +kernel
theorem dX8_writeAll_18 : decode cX8_writeAll 18 = .ok (.aload_n 1, 1) := by decide +kernel
theorem dX8_writeAll_19 : decode cX8_writeAll 19 = .ok (.invokevirtual 32, 3) := by decide +kernel
theorem dX8_writeAll_22 : decode cX8_writeAll 22 = .ok (.if_icmp .ge 46, 3) := by decide +kernel
theorem dX8_writeAll_25 : decode cX8_writeAll 25 = .ok (.aload_n 1, 1) := by decide +kernel
theorem dX8_writeAll_26 : decode cX8_writeAll 26 = .ok (.iload_n 3, 1) := by decide +kernel
theorem dX8_writeAll_27 : decode cX8_writeAll 27 = .ok (.invokevirtual 38, 3) := by decide +kernel
theorem dX8_writeAll_30 : decode cX8_writeAll 30 = .ok (.istore 4, 2) := by decide +kernel
theorem dX8_writeAll_32 : decode cX8_writeAll 32 = .ok (.iload 4, 2) := by decide +kernel
theorem dX8_writeAll_34 : decode cX8_writeAll 34 = .ok (.iload_n 2, 1) := by decide +kernel
theorem dX8_writeAll_35 : decode cX8_writeAll 35 = .ok (.if_icmp .gt 27, 3) := by decide +kernel
theorem dX8_writeAll_38 : decode cX8_writeAll 38 = .ok (.aload_n 0, 1) := by decide +kernel
theorem dX8_writeAll_39 : decode cX8_writeAll 39 = .ok (.aload_n 1, 1) := by decide +kernel
theorem dX8_writeAll_40 : decode cX8_writeAll 40 = .ok (.iload 4, 2) := by decide +kernel
theorem dX8_writeAll_42 : decode cX8_writeAll 42 = .ok (.invokevirtual 42, 3) := by decide +kernel
theorem dX8_writeAll_45 : decode cX8_writeAll 45 = .ok (.aload_n 0, 1) := by decide +kernel
theorem dX8_writeAll_46 : decode cX8_writeAll 46 = .ok (.aload_n 1, 1) := by decide +kernel
theorem dX8_writeAll_47 : decode cX8_writeAll 47 = .ok (.iload_n 3, 1) := by decide +kernel
theorem dX8_writeAll_48 : decode cX8_writeAll 48 = .ok (.invokevirtual 46, 3) := by decide +kernel
theorem dX8_writeAll_51 : decode cX8_writeAll 51 = .ok (.ifCond .eq 8, 3) := by decide +kernel
theorem dX8_writeAll_54 : decode cX8_writeAll 54 = .ok (.bipush 9, 2) := by decide +kernel
theorem dX8_writeAll_56 : decode cX8_writeAll 56 = .ok (.goto 5, 3) := by decide +kernel
theorem dX8_writeAll_59 : decode cX8_writeAll 59 = .ok (.iload 4, 2) := by decide +kernel
theorem dX8_writeAll_61 : decode cX8_writeAll 61 = .ok (.istore_n 2, 1) := by decide +kernel
theorem dX8_writeAll_62 : decode cX8_writeAll 62 = .ok (.iinc 3 1, 3) := by decide +kernel
theorem dX8_writeAll_65 : decode cX8_writeAll 65 = .ok (.goto (-48), 3) := by decide +kernel
theorem dX8_writeAll_68 : decode cX8_writeAll 68 = .ok (.aload_n 0, 1) := by decide +kernel
theorem dX8_writeAll_69 : decode cX8_writeAll 69 = .ok (.aload_n 1, 1) := by decide +kernel
theorem dX8_writeAll_70 : decode cX8_writeAll 70 = .ok (.iconst 0, 1) := by decide +kernel
theorem dX8_writeAll_71 : decode cX8_writeAll 71 = .ok (.invokevirtual 42, 3) := by decide +kernel
theorem dX8_writeAll_74 : decode cX8_writeAll 74 = .ok (.aload_n 0, 1) := by decide +kernel
theorem dX8_writeAll_75 : decode cX8_writeAll 75 = .ok (.getfield 15, 3) := by decide +kernel
theorem dX8_writeAll_78 : decode cX8_writeAll 78 = .ok (.invokevirtual 50, 3) := by decide +kernel
theorem dX8_writeAll_81 : decode cX8_writeAll 81 = .ok (.ifCond .ne 7, 3) := by decide +kernel
theorem dX8_writeAll_84 : decode cX8_writeAll 84 = .ok (.iconst 1, 1) := by decide +kernel
theorem dX8_writeAll_85 : decode cX8_writeAll 85 = .ok (.goto 4, 3) := by decide +kernel
theorem dX8_writeAll_88 : decode cX8_writeAll 88 = .ok (.iconst 0, 1) := by decide +kernel
theorem dX8_writeAll_89 : decode cX8_writeAll 89 = .ok (.ireturn, 1) := by decide +kernel
theorem dX8_writeEnds_0 : decode cX8_writeEnds 0 = .ok (.aload_n 0, 1) := by decide +kernel
theorem dX8_writeEnds_1 : decode cX8_writeEnds 1 = .ok (.getfield 23, 3) := by decide +kernel
theorem dX8_writeEnds_4 : decode cX8_writeEnds 4 = .ok (.ifCond .le 70, 3) := by decide +kernel
theorem dX8_writeEnds_7 : decode cX8_writeEnds 7 = .ok (.aload_n 1, 1) := by decide +kernel
theorem dX8_writeEnds_8 : decode cX8_writeEnds 8 = .ok (.aload_n 0, 1) := by decide +kernel
theorem dX8_writeEnds_9 : decode cX8_writeEnds 9 = .ok (.getfield 19, 3) := by decide +kernel
theorem dX8_writeEnds_12 : decode cX8_writeEnds 12 = .ok (.aload_n 0, 1) := by decide +kernel
theorem dX8_writeEnds_13 : decode cX8_writeEnds 13 = .ok (.getfield 23, 3) := by decide +kernel
theorem dX8_writeEnds_16 : decode cX8_writeEnds 16 = .ok (.iconst 1, 1) := by decide +kernel
theorem dX8_writeEnds_17 : decode cX8_writeEnds 17 = .ok (.isub, 1) := by decide +kernel
theorem dX8_writeEnds_18 : decode cX8_writeEnds 18 = .ok (.iaload, 1) := by decide +kernel
theorem dX8_writeEnds_19 : decode cX8_writeEnds 19 = .ok (.invokevirtual 38, 3) := by decide +kernel
theorem dX8_writeEnds_22 : decode cX8_writeEnds 22 = .ok (.iload_n 2, 1) := by decide +kernel
theorem dX8_writeEnds_23 : decode cX8_writeEnds 23 = .ok (.if_icmp .lt 51, 3) := by decide +kernel
theorem dX8_writeEnds_26 : decode cX8_writeEnds 26 = .ok (.aload_n 0, 1) := by decide +kernel
theorem dX8_writeEnds_27 : decode cX8_writeEnds 27 = .ok (.dup, 1) := by decide +kernel
theorem dX8_writeEnds_28 : decode cX8_writeEnds 28 = .ok (.getfield 23, 3) := by decide +kernel
theorem dX8_writeEnds_31 : decode cX8_writeEnds 31 = .ok (.iconst 1, 1) := by decide +kernel
theorem dX8_writeEnds_32 : decode cX8_writeEnds 32 = .ok (.isub, 1) := by decide +kernel
theorem dX8_writeEnds_33 : decode cX8_writeEnds 33 = .ok (.putfield 23, 3) := by decide +kernel
theorem dX8_writeEnds_36 : decode cX8_writeEnds 36 = .ok (.aload_n 0, 1) := by decide +kernel
theorem dX8_writeEnds_37 : decode cX8_writeEnds 37 = .ok (.getfield 15, 3) := by decide +kernel
theorem dX8_writeEnds_40 : decode cX8_writeEnds 40 = .ok (.ldc 54, 2) := by decide +kernel
theorem dX8_writeEnds_42 : decode cX8_writeEnds 42 = .ok (.invokevirtual 56, 3) := by decide +kernel
theorem dX8_writeEnds_45 : decode cX8_writeEnds 45 = .ok (.aload_n 0, 1) := by decide +kernel
theorem dX8_writeEnds_46 : decode cX8_writeEnds 46 = .ok (.aload_n 1, 1) := by decide +kernel
theorem dX8_writeEnds_47 : decode cX8_writeEnds 47 = .ok (.aload_n 0, 1) := by decide +kernel
theorem dX8_writeEnds_48 : decode cX8_writeEnds 48 = .ok (.getfield 19, 3) := by decide +kernel
theorem dX8_writeEnds_51 : decode cX8_writeEnds 51 = .ok (.aload_n 0, 1) := by decide +kernel
theorem dX8_writeEnds_52 : decode cX8_writeEnds 52 = .ok (.getfield 23, 3) := by decide +kernel
theorem dX8_writeEnds_55 : decode cX8_writeEnds 55 = .ok (.iaload, 1) := by decide +kernel
theorem dX8_writeEnds_56 : decode cX8_writeEnds 56 = .ok (.invokevirtual 60, 3) := by decide +kernel
theorem dX8_writeEnds_59 : decode cX8_writeEnds 59 = .ok (.invokevirtual 63, 3) := by decide +kernel
theorem dX8_writeEnds_62 : decode cX8_writeEnds 62 = .ok (.aload_n 0, 1) := by decide +kernel
theorem dX8_writeEnds_63 : decode cX8_writeEnds 63 = .ok (.getfield 15, 3) := by decide +kernel
theorem dX8_writeEnds_66 : decode cX8_writeEnds 66 = .ok (.ldc 67, 2) := by decide +kernel
theorem dX8_writeEnds_68 : decode cX8_writeEnds 68 = .ok (.invokevirtual 56, 3) := by decide +kernel
theorem dX8_writeEnds_71 : decode cX8_writeEnds 71 = .ok (.goto (-71), 3) := by decide +kernel
theorem dX8_writeEnds_74 : decode cX8_writeEnds 74 = .ok (.return_, 1) := by decide +kernel
theorem dX8_writeNode_0 : decode cX8_writeNode 0 = .ok (.aload_n 1, 1) := by decide +kernel
theorem dX8_writeNode_1 : decode cX8_writeNode 1 = .ok (.iload_n 2, 1) := by decide +kernel
theorem dX8_writeNode_2 : decode cX8_writeNode 2 = .ok (.invokevirtual 69, 3) := by decide +kernel
theorem dX8_writeNode_5 : decode cX8_writeNode 5 = .ok (.iconst 1, 1) := by decide +kernel
theorem dX8_writeNode_6 : decode cX8_writeNode 6 = .ok (.if_icmp .ne 21, 3) := by decide +kernel
theorem dX8_writeNode_9 : decode cX8_writeNode 9 = .ok (.aload_n 0, 1) := by decide +kernel
theorem dX8_writeNode_10 : decode cX8_writeNode 10 = .ok (.aload_n 1, 1) := by decide +kernel
theorem dX8_writeNode_11 : decode cX8_writeNode 11 = .ok (.invokevirtual 72, 3) := by decide +kernel
theorem dX8_writeNode_14 : decode cX8_writeNode 14 = .ok (.aload_n 1, 1) := by decide +kernel
theorem dX8_writeNode_15 : decode cX8_writeNode 15 = .ok (.iload_n 2, 1) := by decide +kernel
theorem dX8_writeNode_16 : decode cX8_writeNode 16 = .ok (.invokevirtual 76, 3) := by decide +kernel
theorem dX8_writeNode_19 : decode cX8_writeNode 19 = .ok (.aload_n 1, 1) := by decide +kernel
theorem dX8_writeNode_20 : decode cX8_writeNode 20 = .ok (.iload_n 2, 1) := by decide +kernel
theorem dX8_writeNode_21 : decode cX8_writeNode 21 = .ok (.invokevirtual 79, 3) := by decide +kernel
theorem dX8_writeNode_24 : decode cX8_writeNode 24 = .ok (.invokevirtual 82, 3) := by decide +kernel
theorem dX8_writeNode_27 : decode cX8_writeNode 27 = .ok (.aload_n 1, 1) := by decide +kernel
theorem dX8_writeNode_28 : decode cX8_writeNode 28 = .ok (.iload_n 2, 1) := by decide +kernel
theorem dX8_writeNode_29 : decode cX8_writeNode 29 = .ok (.invokevirtual 69, 3) := by decide +kernel
theorem dX8_writeNode_32 : decode cX8_writeNode 32 = .ok (.iconst 3, 1) := by decide +kernel
theorem dX8_writeNode_33 : decode cX8_writeNode 33 = .ok (.if_icmp .eq 5, 3) := by decide +kernel
theorem dX8_writeNode_36 : decode cX8_writeNode 36 = .ok (.iconst 1, 1) := by decide +kernel
theorem dX8_writeNode_37 : decode cX8_writeNode 37 = .ok (.ireturn, 1) := by decide +kernel
theorem dX8_writeNode_38 : decode cX8_writeNode 38 = .ok (.aload_n 0, 1) := by decide +kernel
theorem dX8_writeNode_39 : decode cX8_writeNode 39 = .ok (.getfield 9, 3) := by decide +kernel
theorem dX8_writeNode_42 : decode cX8_writeNode 42 = .ok (.aload_n 1, 1) := by decide +kernel
theorem dX8_writeNode_43 : decode cX8_writeNode 43 = .ok (.iload_n 2, 1) := by decide +kernel
theorem dX8_writeNode_44 : decode cX8_writeNode 44 = .ok (.invokevirtual 60, 3) := by decide +kernel
theorem dX8_writeNode_47 : decode cX8_writeNode 47 = .ok (.invokevirtual 86, 3) := by decide +kernel
theorem dX8_writeNode_50 : decode cX8_writeNode 50 = .ok (.istore_n 3, 1) := by decide +kernel
theorem dX8_writeNode_51 : decode cX8_writeNode 51 = .ok (.iload_n 3, 1) := by decide +kernel
theorem dX8_writeNode_52 : decode cX8_writeNode 52 = .ok (.ifCond .ne 9, 3) := by decide +kernel
theorem dX8_writeNode_55 : decode cX8_writeNode 55 = .ok (.aload_n 0, 1) := by decide +kernel
theorem dX8_writeNode_56 : decode cX8_writeNode 56 = .ok (.aload_n 1, 1) := by decide +kernel
theorem dX8_writeNode_57 : decode cX8_writeNode 57 = .ok (.iload_n 2, 1) := by decide +kernel
theorem dX8_writeNode_58 : decode cX8_writeNode 58 = .ok (.invokevirtual 91, 3) := by decide +kernel
theorem dX8_writeNode_61 : decode cX8_writeNode 61 = .ok (.iload_n 3, 1) := by decide +kernel
theorem dX8_writeNode_62 : decode cX8_writeNode 62 = .ok (.iconst 2, 1) := by decide +kernel
theorem dX8_writeNode_63 : decode cX8_writeNode 63 = .ok (.if_icmp .eq 7, 3) := by decide +kernel
theorem dX8_writeNode_66 : decode cX8_writeNode 66 = .ok (.iconst 1, 1) := by decide +kernel
theorem dX8_writeNode_67 : decode cX8_writeNode 67 = .ok (.goto 4, 3) := by decide +kernel
theorem dX8_writeNode_70 : decode cX8_writeNode 70 = .ok (.iconst 0, 1) := by decide +kernel
theorem dX8_writeNode_71 : decode cX8_writeNode 71 = .ok (.ireturn, 1) := by decide +kernel
theorem dX8_writeStart_0 : decode cX8_writeStart 0 = .ok (.aload_n 1, 1) := by decide +kernel
theorem dX8_writeStart_1 : decode cX8_writeStart 1 = .ok (.iload_n 2, 1) := by decide +kernel
theorem dX8_writeStart_2 : decode cX8_writeStart 2 = .ok (.invokevirtual 60, 3) := by decide +kernel
theorem dX8_writeStart_5 : decode cX8_writeStart 5 = .ok (.istore_n 3, 1) := by decide +kernel
theorem dX8_writeStart_6 : decode cX8_writeStart 6 = .ok (.aload_n 0, 1) := by decide +kernel
theorem dX8_writeStart_7 : decode cX8_writeStart 7 = .ok (.getfield 15, 3) := by decide +kernel
theorem dX8_writeStart_10 : decode cX8_writeStart 10 = .ok (.ldc 94, 2) := by decide +kernel
theorem dX8_writeStart_12 : decode cX8_writeStart 12 = .ok (.invokevirtual 56, 3) := by decide +kernel
theorem dX8_writeStart_15 : decode cX8_writeStart 15 = .ok (.aload_n 0, 1) := by decide +kernel
theorem dX8_writeStart_16 : decode cX8_writeStart 16 = .ok (.iload_n 3, 1) := by decide +kernel
theorem dX8_writeStart_17 : decode cX8_writeStart 17 = .ok (.invokevirtual 63, 3) := by decide +kernel
theorem dX8_writeStart_20 : decode cX8_writeStart 20 = .ok (.aload_n 1, 1) := by decide +kernel
theorem dX8_writeStart_21 : decode cX8_writeStart 21 = .ok (.iload_n 2, 1) := by decide +kernel
theorem dX8_writeStart_22 : decode cX8_writeStart 22 = .ok (.invokevirtual 76, 3) := by decide +kernel
theorem dX8_writeStart_25 : decode cX8_writeStart 25 = .ok (.istore 4, 2) := by decide +kernel
theorem dX8_writeStart_27 : decode cX8_writeStart 27 = .ok (.iload 4, 2) := by decide +kernel
theorem dX8_writeStart_29 : decode cX8_writeStart 29 = .ok (.aload_n 1, 1) := by decide +kernel
theorem dX8_writeStart_30 : decode cX8_writeStart 30 = .ok (.iload_n 2, 1) := by decide +kernel
theorem dX8_writeStart_31 : decode cX8_writeStart 31 = .ok (.invokevirtual 79, 3) := by decide +kernel
theorem dX8_writeStart_34 : decode cX8_writeStart 34 = .ok (.if_icmp .ge 27, 3) := by decide +kernel
theorem dX8_writeStart_37 : decode cX8_writeStart 37 = .ok (.aload_n 0, 1) := by decide +kernel
theorem dX8_writeStart_38 : decode cX8_writeStart 38 = .ok (.aload_n 1, 1) := by decide +kernel
theorem dX8_writeStart_39 : decode cX8_writeStart 39 = .ok (.iload_n 3, 1) := by decide +kernel
theorem dX8_writeStart_40 : decode cX8_writeStart 40 = .ok (.iload 4, 2) := by decide +kernel
theorem dX8_writeStart_42 : decode cX8_writeStart 42 = .ok (.invokevirtual 96, 3) := by decide +kernel
theorem dX8_writeStart_45 : decode cX8_writeStart 45 = .ok (.ifCond .eq 10, 3) := by decide +kernel
theorem dX8_writeStart_48 : decode cX8_writeStart 48 = .ok (.aload_n 0, 1) := by decide +kernel
theorem dX8_writeStart_49 : decode cX8_writeStart 49 = .ok (.aload_n 1, 1) := by decide +kernel
theorem dX8_writeStart_50 : decode cX8_writeStart 50 = .ok (.iload 4, 2) := by decide +kernel
theorem dX8_writeStart_52 : decode cX8_writeStart 52 = .ok (.invokevirtual 100, 3) := by decide +kernel
theorem dX8_writeStart_55 : decode cX8_writeStart 55 = .ok (.iinc 4 1, 3) := by decide +kernel
theorem dX8_writeStart_58 : decode cX8_writeStart 58 = .ok (.goto (-31), 3) := by decide +kernel
theorem dX8_writeStart_61 : decode cX8_writeStart 61 = .ok (.aload_n 0, 1) := by decide +kernel
theorem dX8_writeStart_62 : decode cX8_writeStart 62 = .ok (.getfield 15, 3) := by decide +kernel
theorem dX8_writeStart_65 : decode cX8_writeStart 65 = .ok (.ldc 67, 2) := by decide +kernel
theorem dX8_writeStart_67 : decode cX8_writeStart 67 = .ok (.invokevirtual 56, 3) := by decide +kernel
theorem dX8_writeStart_70 : decode cX8_writeStart 70 = .ok (.aload_n 1, 1) := by decide +kernel
theorem dX8_writeStart_71 : decode cX8_writeStart 71 = .ok (.iload_n 2, 1) := by decide +kernel
theorem dX8_writeStart_72 : decode cX8_writeStart 72 = .ok (.invokevirtual 103, 3) := by decide +kernel
theorem dX8_writeStart_75 : decode cX8_writeStart 75 = .ok (.ifCond .ne 10, 3) := by decide +kernel
theorem dX8_writeStart_78 : decode cX8_writeStart 78 = .ok (.iload_n 3, 1) := by decide +kernel
theorem dX8_writeStart_79 : decode cX8_writeStart 79 = .ok (.invokestatic 107, 3) := by decide +kernel
theorem dX8_writeStart_82 : decode cX8_writeStart 82 = .ok (.ifCond .ne 7, 3) := by decide +kernel
theorem dX8_writeStart_85 : decode cX8_writeStart 85 = .ok (.iconst 1, 1) := by decide +kernel
theorem dX8_writeStart_86 : decode cX8_writeStart 86 = .ok (.goto 4, 3) := by decide +kernel
theorem dX8_writeStart_89 : decode cX8_writeStart 89 = .ok (.iconst 0, 1) := by decide +kernel
theorem dX8_writeStart_90 : decode cX8_writeStart 90 = .ok (.istore 4, 2) := by decide +kernel
theorem dX8_writeStart_92 : decode cX8_writeStart 92 = .ok (.iload 4, 2) := by decide +kernel
theorem dX8_writeStart_94 : decode cX8_writeStart 94 = .ok (.ifCond .eq 32, 3) := by decide +kernel
theorem dX8_writeStart_97 : decode cX8_writeStart 97 = .ok (.aload_n 0, 1) := by decide +kernel
theorem dX8_writeStart_98 : decode cX8_writeStart 98 = .ok (.getfield 23, 3) := by decide +kernel
theorem dX8_writeStart_101 : decode cX8_writeStart 101 = .ok (.bipush 8, 2) := by decide +kernel
theorem dX8_writeStart_103 : decode cX8_writeStart 103 = .ok (.if_icmp .ge 23, 3) := by decide +kernel
theorem dX8_writeStart_106 : decode cX8_writeStart 106 = .ok (.aload_n 0, 1) := by decide +kernel
theorem dX8_writeStart_107 : decode cX8_writeStart 107 = .ok (.getfield 19, 3) := by decide +kernel
theorem dX8_writeStart_110 : decode cX8_writeStart 110 = .ok (.aload_n 0, 1) := by decide +kernel
theorem dX8_writeStart_111 : decode cX8_writeStart 111 = .ok (.getfield 23, 3) := by decide +kernel
theorem dX8_writeStart_114 : decode cX8_writeStart 114 = .ok (.iload_n 2, 1) := by decide +kernel
theorem dX8_writeStart_115 : decode cX8_writeStart 115 = .ok (.iastore, 1) := by decide +kernel
theorem dX8_writeStart_116 : decode cX8_writeStart 116 = .ok (.aload_n 0, 1) := by decide +kernel
theorem dX8_writeStart_117 : decode cX8_writeStart 117 = .ok (.dup, 1) := by decide +kernel
theorem dX8_writeStart_118 : decode cX8_writeStart 118 = .ok (.getfield 23, 3) := by decide +kernel
theorem dX8_writeStart_121 : decode cX8_writeStart 121 = .ok (.iconst 1, 1) := by decide +kernel
theorem dX8_writeStart_122 : decode cX8_writeStart 122 = .ok (.iadd, 1) := by decide +kernel
theorem dX8_writeStart_123 : decode cX8_writeStart 123 = .ok (.putfield 23, 3) := by decide +kernel
theorem dX8_writeStart_126 : decode cX8_writeStart 126 = .ok (.return_, 1) := by decide +kernel
theorem dX8_allows_0 : decode cX8_allows 0 = .ok (.aload_n 1, 1) := by decide +kernel
theorem dX8_allows_1 : decode cX8_allows 1 = .ok (.iload_n 3, 1) := by decide +kernel
theorem dX8_allows_2 : decode cX8_allows 2 = .ok (.invokevirtual 110, 3) := by decide +kernel
theorem dX8_allows_5 : decode cX8_allows 5 = .ok (.istore 4, 2) := by decide +kernel
theorem dX8_allows_7 : decode cX8_allows 7 = .ok (.aload_n 0, 1) := by decide +kernel
theorem dX8_allows_8 : decode cX8_allows 8 = .ok (.getfield 9, 3) := by decide +kernel
theorem dX8_allows_11 : decode cX8_allows 11 = .ok (.iload_n 2, 1) := by decide +kernel
theorem dX8_allows_12 : decode cX8_allows 12 = .ok (.iload 4, 2) := by decide +kernel
theorem dX8_allows_14 : decode cX8_allows 14 = .ok (.invokevirtual 113, 3) := by decide +kernel
theorem dX8_allows_17 : decode cX8_allows 17 = .ok (.ifCond .ne 5, 3) := by decide +kernel
theorem dX8_allows_20 : decode cX8_allows 20 = .ok (.iconst 0, 1) := by decide +kernel
theorem dX8_allows_21 : decode cX8_allows 21 = .ok (.ireturn, 1) := by decide +kernel
theorem dX8_allows_22 : decode cX8_allows 22 = .ok (.iload 4, 2) := by decide +kernel
theorem dX8_allows_24 : decode cX8_allows 24 = .ok (.bipush 7, 2) := by decide +kernel
theorem dX8_allows_26 : decode cX8_allows 26 = .ok (.if_icmp .eq 10, 3) := by decide +kernel
theorem dX8_allows_29 : decode cX8_allows 29 = .ok (.iload 4, 2) := by decide +kernel
theorem dX8_allows_31 : decode cX8_allows 31 = .ok (.bipush 17, 2) := by decide +kernel
theorem dX8_allows_33 : decode cX8_allows 33 = .ok (.if_icmp .ne 27, 3) := by decide +kernel
theorem dX8_allows_36 : decode cX8_allows 36 = .ok (.aload_n 0, 1) := by decide +kernel
theorem dX8_allows_37 : decode cX8_allows 37 = .ok (.getfield 9, 3) := by decide +kernel
theorem dX8_allows_40 : decode cX8_allows 40 = .ok (.aload_n 1, 1) := by decide +kernel
theorem dX8_allows_41 : decode cX8_allows 41 = .ok (.invokevirtual 117, 3) := by decide +kernel
theorem dX8_allows_44 : decode cX8_allows 44 = .ok (.aload_n 1, 1) := by decide +kernel
theorem dX8_allows_45 : decode cX8_allows 45 = .ok (.iload_n 3, 1) := by decide +kernel
theorem dX8_allows_46 : decode cX8_allows 46 = .ok (.invokevirtual 120, 3) := by decide +kernel
theorem dX8_allows_49 : decode cX8_allows 49 = .ok (.aload_n 1, 1) := by decide +kernel
theorem dX8_allows_50 : decode cX8_allows 50 = .ok (.iload_n 3, 1) := by decide +kernel
theorem dX8_allows_51 : decode cX8_allows 51 = .ok (.invokevirtual 123, 3) := by decide +kernel
theorem dX8_allows_54 : decode cX8_allows 54 = .ok (.invokevirtual 126, 3) := by decide +kernel
theorem dX8_allows_57 : decode cX8_allows 57 = .ok (.ifCond .eq 7, 3) := by decide +kernel
theorem dX8_allows_60 : decode cX8_allows 60 = .ok (.iconst 1, 1) := by decide +kernel
theorem dX8_allows_61 : decode cX8_allows 61 = .ok (.goto 4, 3) := by decide +kernel
theorem dX8_allows_64 : decode cX8_allows 64 = .ok (.iconst 0, 1) := by decide +kernel
theorem dX8_allows_65 : decode cX8_allows 65 = .ok (.ireturn, 1) := by decide +kernel
theorem dX8_writeAttribute_0 : decode cX8_writeAttribute 0 = .ok (.aload_n 0, 1) := by decide +kernel
theorem dX8_writeAttribute_1 : decode cX8_writeAttribute 1 = .ok (.getfield 15, 3) := by decide +kernel
theorem dX8_writeAttribute_4 : decode cX8_writeAttribute 4 = .ok (.ldc 130, 2) := by decide +kernel
theorem dX8_writeAttribute_6 : decode cX8_writeAttribute 6 = .ok (.invokevirtual 56, 3) := by decide +kernel
theorem dX8_writeAttribute_9 : decode cX8_writeAttribute 9 = .ok (.aload_n 0, 1) := by decide +kernel
theorem dX8_writeAttribute_10 : decode cX8_writeAttribute 10 = .ok (.aload_n 1, 1) := by decide +kernel
theorem dX8_writeAttribute_11 : decode cX8_writeAttribute 11 = .ok (.iload_n 2, 1) := by decide +kernel
theorem dX8_writeAttribute_12 : decode cX8_writeAttribute 12 = .ok (.invokevirtual 110, 3) := by decide +kernel
theorem dX8_writeAttribute_15 : decode cX8_writeAttribute 15 = .ok (.invokevirtual 63, 3) := by decide +kernel
theorem dX8_writeAttribute_18 : decode cX8_writeAttribute 18 = .ok (.aload_n 0, 1) := by decide +kernel
theorem dX8_writeAttribute_19 : decode cX8_writeAttribute 19 = .ok (.getfield 15, 3) := by decide +kernel
theorem dX8_writeAttribute_22 : decode cX8_writeAttribute 22 = .ok (.ldc 132, 2) := by decide +kernel
theorem dX8_writeAttribute_24 : decode cX8_writeAttribute 24 = .ok (.invokevirtual 56, 3) := by decide +kernel
theorem dX8_writeAttribute_27 : decode cX8_writeAttribute 27 = .ok (.aload_n 0, 1) := by decide +kernel
theorem dX8_writeAttribute_28 : decode cX8_writeAttribute 28 = .ok (.aload_n 1, 1) := by decide +kernel
theorem dX8_writeAttribute_29 : decode cX8_writeAttribute 29 = .ok (.invokevirtual 117, 3) := by decide +kernel
theorem dX8_writeAttribute_32 : decode cX8_writeAttribute 32 = .ok (.aload_n 1, 1) := by decide +kernel
theorem dX8_writeAttribute_33 : decode cX8_writeAttribute 33 = .ok (.iload_n 2, 1) := by decide +kernel
theorem dX8_writeAttribute_34 : decode cX8_writeAttribute 34 = .ok (.invokevirtual 120, 3) := by decide +kernel
theorem dX8_writeAttribute_37 : decode cX8_writeAttribute 37 = .ok (.aload_n 1, 1) := by decide +kernel
theorem dX8_writeAttribute_38 : decode cX8_writeAttribute 38 = .ok (.iload_n 2, 1) := by decide +kernel
theorem dX8_writeAttribute_39 : decode cX8_writeAttribute 39 = .ok (.invokevirtual 123, 3) := by decide +kernel
theorem dX8_writeAttribute_42 : decode cX8_writeAttribute 42 = .ok (.invokevirtual 134, 3) := by decide +kernel
theorem dX8_writeAttribute_45 : decode cX8_writeAttribute 45 = .ok (.aload_n 0, 1) := by decide +kernel
theorem dX8_writeAttribute_46 : decode cX8_writeAttribute 46 = .ok (.getfield 15, 3) := by decide +kernel
theorem dX8_writeAttribute_49 : decode cX8_writeAttribute 49 = .ok (.ldc 137, 2) := by decide +kernel
theorem dX8_writeAttribute_51 : decode cX8_writeAttribute 51 = .ok (.invokevirtual 56, 3) := by decide +kernel
theorem dX8_writeAttribute_54 : decode cX8_writeAttribute 54 = .ok (.return_, 1) := by decide +kernel
theorem dX8_writeText_0 : decode cX8_writeText 0 = .ok (.iload_n 2, 1) := by decide +kernel
theorem dX8_writeText_1 : decode cX8_writeText 1 = .ok (.istore 4, 2) := by decide +kernel
theorem dX8_writeText_3 : decode cX8_writeText 3 = .ok (.iload 4, 2) := by decide +kernel
theorem dX8_writeText_5 : decode cX8_writeText 5 = .ok (.iload_n 3, 1) := by decide +kernel
theorem dX8_writeText_6 : decode cX8_writeText 6 = .ok (.if_icmp .ge 83, 3) := by decide +kernel
theorem dX8_writeText_9 : decode cX8_writeText 9 = .ok (.aload_n 1, 1) := by decide +kernel
theorem dX8_writeText_10 : decode cX8_writeText 10 = .ok (.iload 4, 2) := by decide +kernel
theorem dX8_writeText_12 : decode cX8_writeText 12 = .ok (.invokevirtual 139, 3) := by decide +kernel
theorem dX8_writeText_15 : decode cX8_writeText 15 = .ok (.istore 5, 2) := by decide +kernel
theorem dX8_writeText_17 : decode cX8_writeText 17 = .ok (.iload 5, 2) := by decide +kernel
theorem dX8_writeText_19 : decode cX8_writeText 19 = .ok (.bipush 38, 2) := by decide +kernel
theorem dX8_writeText_21 : decode cX8_writeText 21 = .ok (.if_icmp .ne 15, 3) := by decide +kernel
theorem dX8_writeText_24 : decode cX8_writeText 24 = .ok (.aload_n 0, 1) := by decide +kernel
theorem dX8_writeText_25 : decode cX8_writeText 25 = .ok (.getfield 15, 3) := by decide +kernel
theorem dX8_writeText_28 : decode cX8_writeText 28 = .ok (.ldc 143, 2) := by decide +kernel
theorem dX8_writeText_30 : decode cX8_writeText 30 = .ok (.invokevirtual 56, 3) := by decide +kernel
theorem dX8_writeText_33 : decode cX8_writeText 33 = .ok (.goto 50, 3) := by decide +kernel
theorem dX8_writeText_36 : decode cX8_writeText 36 = .ok (.iload 5, 2) := by decide +kernel
theorem dX8_writeText_38 : decode cX8_writeText 38 = .ok (.bipush 60, 2) := by decide +kernel
theorem dX8_writeText_40 : decode cX8_writeText 40 = .ok (.if_icmp .ne 15, 3) := by decide +kernel
theorem dX8_writeText_43 : decode cX8_writeText 43 = .ok (.aload_n 0, 1) := by decide +kernel
theorem dX8_writeText_44 : decode cX8_writeText 44 = .ok (.getfield 15, 3) := by decide +kernel
theorem dX8_writeText_47 : decode cX8_writeText 47 = .ok (.ldc 145, 2) := by decide +kernel
theorem dX8_writeText_49 : decode cX8_writeText 49 = .ok (.invokevirtual 56, 3) := by decide +kernel
theorem dX8_writeText_52 : decode cX8_writeText 52 = .ok (.goto 31, 3) := by decide +kernel
theorem dX8_writeText_55 : decode cX8_writeText 55 = .ok (.iload 5, 2) := by decide +kernel
theorem dX8_writeText_57 : decode cX8_writeText 57 = .ok (.bipush 62, 2) := by decide +kernel
theorem dX8_writeText_59 : decode cX8_writeText 59 = .ok (.if_icmp .ne 15, 3) := by decide +kernel
theorem dX8_writeText_62 : decode cX8_writeText 62 = .ok (.aload_n 0, 1) := by decide +kernel
theorem dX8_writeText_63 : decode cX8_writeText 63 = .ok (.getfield 15, 3) := by decide +kernel
theorem dX8_writeText_66 : decode cX8_writeText 66 = .ok (.ldc 147, 2) := by decide +kernel
theorem dX8_writeText_68 : decode cX8_writeText 68 = .ok (.invokevirtual 56, 3) := by decide +kernel
theorem dX8_writeText_71 : decode cX8_writeText 71 = .ok (.goto 12, 3) := by decide +kernel
theorem dX8_writeText_74 : decode cX8_writeText 74 = .ok (.aload_n 0, 1) := by decide +kernel
theorem dX8_writeText_75 : decode cX8_writeText 75 = .ok (.getfield 15, 3) := by decide +kernel
theorem dX8_writeText_78 : decode cX8_writeText 78 = .ok (.iload 5, 2) := by decide +kernel
theorem dX8_writeText_80 : decode cX8_writeText 80 = .ok (.invokevirtual 149, 3) := by decide +kernel
theorem dX8_writeText_83 : decode cX8_writeText 83 = .ok (.iinc 4 1, 3) := by decide +kernel
theorem dX8_writeText_86 : decode cX8_writeText 86 = .ok (.goto (-83), 3) := by decide +kernel
theorem dX8_writeText_89 : decode cX8_writeText 89 = .ok (.return_, 1) := by decide +kernel
theorem dX8_writeValue_0 : decode cX8_writeValue 0 = .ok (.iload_n 2, 1) := by decide +kernel
theorem dX8_writeValue_1 : decode cX8_writeValue 1 = .ok (.istore 4, 2) := by decide +kernel
theorem dX8_writeValue_3 : decode cX8_writeValue 3 = .ok (.iload 4, 2) := by decide +kernel
theorem dX8_writeValue_5 : decode cX8_writeValue 5 = .ok (.iload_n 3, 1) := by decide +kernel
theorem dX8_writeValue_6 : decode cX8_writeValue 6 = .ok (.if_icmp .ge 64, 3) := by decide +kernel
theorem dX8_writeValue_9 : decode cX8_writeValue 9 = .ok (.aload_n 1, 1) := by decide +kernel
theorem dX8_writeValue_10 : decode cX8_writeValue 10 = .ok (.iload 4, 2) := by decide +kernel
theorem dX8_writeValue_12 : decode cX8_writeValue 12 = .ok (.invokevirtual 139, 3) := by decide +kernel
theorem dX8_writeValue_15 : decode cX8_writeValue 15 = .ok (.istore 5, 2) := by decide +kernel
theorem dX8_writeValue_17 : decode cX8_writeValue 17 = .ok (.iload 5, 2) := by decide +kernel
theorem dX8_writeValue_19 : decode cX8_writeValue 19 = .ok (.bipush 38, 2) := by decide +kernel
theorem dX8_writeValue_21 : decode cX8_writeValue 21 = .ok (.if_icmp .ne 15, 3) := by decide +kernel
theorem dX8_writeValue_24 : decode cX8_writeValue 24 = .ok (.aload_n 0, 1) := by decide +kernel
theorem dX8_writeValue_25 : decode cX8_writeValue 25 = .ok (.getfield 15, 3) := by decide +kernel
theorem dX8_writeValue_28 : decode cX8_writeValue 28 = .ok (.ldc 143, 2) := by decide +kernel
theorem dX8_writeValue_30 : decode cX8_writeValue 30 = .ok (.invokevirtual 56, 3) := by decide +kernel
theorem dX8_writeValue_33 : decode cX8_writeValue 33 = .ok (.goto 31, 3) := by decide +kernel
theorem dX8_writeValue_36 : decode cX8_writeValue 36 = .ok (.iload 5, 2) := by decide +kernel
theorem dX8_writeValue_38 : decode cX8_writeValue 38 = .ok (.bipush 34, 2) := by decide +kernel
theorem dX8_writeValue_40 : decode cX8_writeValue 40 = .ok (.if_icmp .ne 15, 3) := by decide +kernel
theorem dX8_writeValue_43 : decode cX8_writeValue 43 = .ok (.aload_n 0, 1) := by decide +kernel
theorem dX8_writeValue_44 : decode cX8_writeValue 44 = .ok (.getfield 15, 3) := by decide +kernel
theorem dX8_writeValue_47 : decode cX8_writeValue 47 = .ok (.ldc 153, 2) := by decide +kernel
theorem dX8_writeValue_49 : decode cX8_writeValue 49 = .ok (.invokevirtual 56, 3) := by decide +kernel
theorem dX8_writeValue_52 : decode cX8_writeValue 52 = .ok (.goto 12, 3) := by decide +kernel
theorem dX8_writeValue_55 : decode cX8_writeValue 55 = .ok (.aload_n 0, 1) := by decide +kernel
theorem dX8_writeValue_56 : decode cX8_writeValue 56 = .ok (.getfield 15, 3) := by decide +kernel
theorem dX8_writeValue_59 : decode cX8_writeValue 59 = .ok (.iload 5, 2) := by decide +kernel
theorem dX8_writeValue_61 : decode cX8_writeValue 61 = .ok (.invokevirtual 149, 3) := by decide +kernel
theorem dX8_writeValue_64 : decode cX8_writeValue 64 = .ok (.iinc 4 1, 3) := by decide +kernel
theorem dX8_writeValue_67 : decode cX8_writeValue 67 = .ok (.goto (-64), 3) := by decide +kernel
theorem dX8_writeValue_70 : decode cX8_writeValue 70 = .ok (.return_, 1) := by decide +kernel
theorem dX8_writeLetter_0 : decode cX8_writeLetter 0 = .ok (.aload_n 0, 1) := by decide +kernel
theorem dX8_writeLetter_1 : decode cX8_writeLetter 1 = .ok (.getfield 15, 3) := by decide +kernel
theorem dX8_writeLetter_4 : decode cX8_writeLetter 4 = .ok (.bipush 97, 2) := by decide +kernel
theorem dX8_writeLetter_6 : decode cX8_writeLetter 6 = .ok (.iload_n 1, 1) := by decide +kernel
theorem dX8_writeLetter_7 : decode cX8_writeLetter 7 = .ok (.iadd, 1) := by decide +kernel
theorem dX8_writeLetter_8 : decode cX8_writeLetter 8 = .ok (.i2c, 1) := by decide +kernel
theorem dX8_writeLetter_9 : decode cX8_writeLetter 9 = .ok (.invokevirtual 149, 3) := by decide +kernel
theorem dX8_writeLetter_12 : decode cX8_writeLetter 12 = .ok (.return_, 1) := by decide +kernel
theorem dX9_init_0 : decode cX9_init 0 = .ok (.aload_n 0, 1) := by decide +kernel
theorem dX9_init_1 : decode cX9_init 1 = .ok (.invokespecial 1, 3) := by decide +kernel
theorem dX9_init_4 : decode cX9_init 4 = .ok (.aload_n 0, 1) := by decide +kernel
theorem dX9_init_5 : decode cX9_init 5 = .ok (.new 7, 3) := by decide +kernel
theorem dX9_init_8 : decode cX9_init 8 = .ok (.dup, 1) := by decide +kernel
theorem dX9_init_9 : decode cX9_init 9 = .ok (.invokespecial 9, 3) := by decide +kernel
theorem dX9_init_12 : decode cX9_init 12 = .ok (.putfield 10, 3) := by decide +kernel
theorem dX9_init_15 : decode cX9_init 15 = .ok (.aload_n 0, 1) := by decide +kernel
theorem dX9_init_16 : decode cX9_init 16 = .ok (.new 7, 3) := by decide +kernel
theorem dX9_init_19 : decode cX9_init 19 = .ok (.dup, 1) := by decide +kernel
theorem dX9_init_20 : decode cX9_init 20 = .ok (.invokespecial 9, 3) := by decide +kernel
theorem dX9_init_23 : decode cX9_init 23 = .ok (.putfield 16, 3) := by decide +kernel
theorem dX9_init_26 : decode cX9_init 26 = .ok (.aload_n 0, 1) := by decide +kernel
theorem dX9_init_27 : decode cX9_init 27 = .ok (.new 7, 3) := by decide +kernel
theorem dX9_init_30 : decode cX9_init 30 = .ok (.dup, 1) := by decide +kernel
theorem dX9_init_31 : decode cX9_init 31 = .ok (.invokespecial 9, 3) := by decide +kernel
theorem dX9_init_34 : decode cX9_init 34 = .ok (.putfield 19, 3) := by decide +kernel
theorem dX9_init_37 : decode cX9_init 37 = .ok (.aload_n 0, 1) := by decide +kernel
theorem dX9_init_38 : decode cX9_init 38 = .ok (.new 22, 3) := by decide +kernel
theorem dX9_init_41 : decode cX9_init 41 = .ok (.dup, 1) := by decide +kernel
theorem dX9_init_42 : decode cX9_init 42 = .ok (.invokespecial 24, 3) := by decide +kernel
theorem dX9_init_45 : decode cX9_init 45 = .ok (.putfield 25, 3) := by decide +kernel
theorem dX9_init_48 : decode cX9_init 48 = .ok (.aload_n 0, 1) := by decide +kernel
theorem dX9_init_49 : decode cX9_init 49 = .ok (.new 29, 3) := by decide +kernel
theorem dX9_init_52 : decode cX9_init 52 = .ok (.dup, 1) := by decide +kernel
theorem dX9_init_53 : decode cX9_init 53 = .ok (.invokespecial 31, 3) := by decide +kernel
theorem dX9_init_56 : decode cX9_init 56 = .ok (.putfield 32, 3) := by decide +kernel
theorem dX9_init_59 : decode cX9_init 59 = .ok (.aload_n 0, 1) := by decide +kernel
theorem dX9_init_60 : decode cX9_init 60 = .ok (.new 36, 3) := by decide +kernel
theorem dX9_init_63 : decode cX9_init 63 = .ok (.dup, 1) := by decide +kernel
theorem dX9_init_64 : decode cX9_init 64 = .ok (.aload_n 0, 1) := by decide +kernel
theorem dX9_init_65 : decode cX9_init 65 = .ok (.getfield 16, 3) := by decide +kernel
theorem dX9_init_68 : decode cX9_init 68 = .ok (.aload_n 0, 1) := by decide +kernel
theorem dX9_init_69 : decode cX9_init 69 = .ok (.getfield 32, 3) := by decide +kernel
theorem dX9_init_72 : decode cX9_init 72 = .ok (.invokespecial 38, 3) := by decide +kernel
theorem dX9_init_75 : decode cX9_init 75 = .ok (.putfield 41, 3) := by decide +kernel
theorem dX9_init_78 : decode cX9_init 78 = .ok (.aload_n 0, 1) := by decide +kernel
theorem dX9_init_79 : decode cX9_init 79 = .ok (.new 36, 3) := by decide +kernel
theorem dX9_init_82 : decode cX9_init 82 = .ok (.dup, 1) := by decide +kernel
theorem dX9_init_83 : decode cX9_init 83 = .ok (.aload_n 0, 1) := by decide +kernel
theorem dX9_init_84 : decode cX9_init 84 = .ok (.getfield 16, 3) := by decide +kernel
theorem dX9_init_87 : decode cX9_init 87 = .ok (.new 29, 3) := by decide +kernel
theorem dX9_init_90 : decode cX9_init 90 = .ok (.dup, 1) := by decide +kernel
theorem dX9_init_91 : decode cX9_init 91 = .ok (.invokespecial 31, 3) := by decide +kernel
theorem dX9_init_94 : decode cX9_init 94 = .ok (.invokespecial 38, 3) := by decide +kernel
theorem dX9_init_97 : decode cX9_init 97 = .ok (.putfield 45, 3) := by decide +kernel
theorem dX9_init_100 : decode cX9_init 100 = .ok (.aload_n 0, 1) := by decide +kernel
theorem dX9_init_101 : decode cX9_init 101 = .ok (.new 48, 3) := by decide +kernel
theorem dX9_init_104 : decode cX9_init 104 = .ok (.dup, 1) := by decide +kernel
theorem dX9_init_105 : decode cX9_init 105 = .ok (.aload_n 0, 1) := by decide +kernel
theorem dX9_init_106 : decode cX9_init 106 = .ok (.getfield 25, 3) := by decide +kernel
theorem dX9_init_109 : decode cX9_init 109 = .ok (.aload_n 0, 1) := by decide +kernel
theorem dX9_init_110 : decode cX9_init 110 = .ok (.getfield 19, 3) := by decide +kernel
theorem dX9_init_113 : decode cX9_init 113 = .ok (.invokespecial 50, 3) := by decide +kernel
theorem dX9_init_116 : decode cX9_init 116 = .ok (.putfield 53, 3) := by decide +kernel
theorem dX9_init_119 : decode cX9_init 119 = .ok (.aload_n 0, 1) := by decide +kernel
theorem dX9_init_120 : decode cX9_init 120 = .ok (.iconst 0, 1) := by decide +kernel
theorem dX9_init_121 : decode cX9_init 121 = .ok (.putfield 57, 3) := by decide +kernel
theorem dX9_init_124 : decode cX9_init 124 = .ok (.return_, 1) := by decide +kernel
theorem dX9_put_0 : decode cX9_put 0 = .ok (.iconst 0, 1) := by decide +kernel
theorem dX9_put_1 : decode cX9_put 1 = .ok (.istore_n 3, 1) := by decide +kernel
theorem dX9_put_2 : decode cX9_put 2 = .ok (.iconst 0, 1) := by decide +kernel
theorem dX9_put_3 : decode cX9_put 3 = .ok (.istore 4, 2) := by decide +kernel
theorem dX9_put_5 : decode cX9_put 5 = .ok (.iload 4, 2) := by decide +kernel
theorem dX9_put_7 : decode cX9_put 7 = .ok (.bipush 8, 2) := by decide +kernel
theorem dX9_put_9 : decode cX9_put 9 = .ok (.if_icmp .ge 45, 3) := by decide +kernel
theorem dX9_put_12 : decode cX9_put 12 = .ok (.lload_n 1, 1) := by decide +kernel
theorem dX9_put_13 : decode cX9_put 13 = .ok (.iload 4, 2) := by decide +kernel
theorem dX9_put_15 : decode cX9_put 15 = .ok (.invokestatic 61, 3) := by decide +kernel
theorem dX9_put_18 : decode cX9_put 18 = .ok (.istore 5, 2) := by decide +kernel
theorem dX9_put_20 : decode cX9_put 20 = .ok (.iload 5, 2) := by decide +kernel
theorem dX9_put_22 : decode cX9_put 22 = .ok (.ifCond .eq 13, 3) := by decide +kernel
theorem dX9_put_25 : decode cX9_put 25 = .ok (.iload 5, 2) := by decide +kernel
theorem dX9_put_27 : decode cX9_put 27 = .ok (.invokestatic 65, 3) := by decide +kernel
theorem dX9_put_30 : decode cX9_put 30 = .ok (.ifCond .ne 5, 3) := by decide +kernel
theorem dX9_put_33 : decode cX9_put 33 = .ok (.iconst 0, 1) := by decide +kernel
theorem dX9_put_34 : decode cX9_put 34 = .ok (.ireturn, 1) := by decide +kernel
theorem dX9_put_35 : decode cX9_put 35 = .ok (.iload_n 3, 1) := by decide +kernel
theorem dX9_put_36 : decode cX9_put 36 = .ok (.iload 5, 2) := by decide +kernel
theorem dX9_put_38 : decode cX9_put 38 = .ok (.ifCond .ne 7, 3) := by decide +kernel
theorem dX9_put_41 : decode cX9_put 41 = .ok (.iconst 0, 1) := by decide +kernel
theorem dX9_put_42 : decode cX9_put 42 = .ok (.goto 4, 3) := by decide +kernel
theorem dX9_put_45 : decode cX9_put 45 = .ok (.iconst 1, 1) := by decide +kernel
theorem dX9_put_46 : decode cX9_put 46 = .ok (.iadd, 1) := by decide +kernel
theorem dX9_put_47 : decode cX9_put 47 = .ok (.istore_n 3, 1) := by decide +kernel
theorem dX9_put_48 : decode cX9_put 48 = .ok (.iinc 4 1, 3) := by decide +kernel
theorem dX9_put_51 : decode cX9_put 51 = .ok (.goto (-46), 3) := by decide +kernel
theorem dX9_put_54 : decode cX9_put 54 = .ok (.aload_n 0, 1) := by decide +kernel
theorem dX9_put_55 : decode cX9_put 55 = .ok (.getfield 10, 3) := by decide +kernel
theorem dX9_put_58 : decode cX9_put 58 = .ok (.invokevirtual 69, 3) := by decide +kernel
theorem dX9_put_61 : decode cX9_put 61 = .ok (.iload_n 3, 1) := by decide +kernel
theorem dX9_put_62 : decode cX9_put 62 = .ok (.iadd, 1) := by decide +kernel
theorem dX9_put_63 : decode cX9_put 63 = .ok (.sipush 200, 3) := by decide +kernel
theorem dX9_put_66 : decode cX9_put 66 = .ok (.if_icmp .le 5, 3) := by decide +kernel
theorem dX9_put_69 : decode cX9_put 69 = .ok (.iconst 0, 1) := by decide +kernel
theorem dX9_put_70 : decode cX9_put 70 = .ok (.ireturn, 1) := by decide +kernel
theorem dX9_put_71 : decode cX9_put 71 = .ok (.iconst 0, 1) := by decide +kernel
theorem dX9_put_72 : decode cX9_put 72 = .ok (.istore 4, 2) := by decide +kernel
theorem dX9_put_74 : decode cX9_put 74 = .ok (.iload 4, 2) := by decide +kernel
theorem dX9_put_76 : decode cX9_put 76 = .ok (.bipush 8, 2) := by decide +kernel
theorem dX9_put_78 : decode cX9_put 78 = .ok (.if_icmp .ge 32, 3) := by decide +kernel
theorem dX9_put_81 : decode cX9_put 81 = .ok (.lload_n 1, 1) := by decide +kernel
theorem dX9_put_82 : decode cX9_put 82 = .ok (.iload 4, 2) := by decide +kernel
theorem dX9_put_84 : decode cX9_put 84 = .ok (.invokestatic 61, 3) := by decide +kernel
theorem dX9_put_87 : decode cX9_put 87 = .ok (.istore 5, 2) := by decide +kernel
theorem dX9_put_89 : decode cX9_put 89 = .ok (.iload 5, 2) := by decide +kernel
theorem dX9_put_91 : decode cX9_put 91 = .ok (.ifCond .eq 13, 3) := by decide +kernel
theorem dX9_put_94 : decode cX9_put 94 = .ok (.aload_n 0, 1) := by decide +kernel
theorem dX9_put_95 : decode cX9_put 95 = .ok (.getfield 10, 3) := by decide +kernel
theorem dX9_put_98 : decode cX9_put 98 = .ok (.iload 5, 2) := by decide +kernel
theorem dX9_put_100 : decode cX9_put 100 = .ok (.i2c, 1) := by decide +kernel
theorem dX9_put_101 : decode cX9_put 101 = .ok (.invokevirtual 73, 3) := by decide +kernel
theorem dX9_put_104 : decode cX9_put 104 = .ok (.iinc 4 1, 3) := by decide +kernel
theorem dX9_put_107 : decode cX9_put 107 = .ok (.goto (-33), 3) := by decide +kernel
theorem dX9_put_110 : decode cX9_put 110 = .ok (.iconst 1, 1) := by decide +kernel
theorem dX9_put_111 : decode cX9_put 111 = .ok (.ireturn, 1) := by decide +kernel
theorem dX9_wipe_0 : decode cX9_wipe 0 = .ok (.aload_n 0, 1) := by decide +kernel
theorem dX9_wipe_1 : decode cX9_wipe 1 = .ok (.getfield 10, 3) := by decide +kernel
theorem dX9_wipe_4 : decode cX9_wipe 4 = .ok (.invokevirtual 77, 3) := by decide +kernel
theorem dX9_wipe_7 : decode cX9_wipe 7 = .ok (.return_, 1) := by decide +kernel
theorem dX9_action_0 : decode cX9_action 0 = .ok (.iload_n 1, 1) := by decide +kernel
theorem dX9_action_1 : decode cX9_action 1 = .ok (.invokestatic 80, 3) := by decide +kernel
theorem dX9_action_4 : decode cX9_action 4 = .ok (.ifCond .eq 22, 3) := by decide +kernel
theorem dX9_action_7 : decode cX9_action 7 = .ok (.iload_n 2, 1) := by decide +kernel
theorem dX9_action_8 : decode cX9_action 8 = .ok (.ifCond .lt 18, 3) := by decide +kernel
theorem dX9_action_11 : decode cX9_action 11 = .ok (.iload_n 2, 1) := by decide +kernel
theorem dX9_action_12 : decode cX9_action 12 = .ok (.iconst 2, 1) := by decide +kernel
theorem dX9_action_13 : decode cX9_action 13 = .ok (.if_icmp .gt 13, 3) := by decide +kernel
theorem dX9_action_16 : decode cX9_action 16 = .ok (.iload_n 1, 1) := by decide +kernel
theorem dX9_action_17 : decode cX9_action 17 = .ok (.bipush 18, 2) := by decide +kernel
theorem dX9_action_19 : decode cX9_action 19 = .ok (.if_icmp .ne 9, 3) := by decide +kernel
theorem dX9_action_22 : decode cX9_action 22 = .ok (.iload_n 2, 1) := by decide +kernel
theorem dX9_action_23 : decode cX9_action 23 = .ok (.ifCond .ne 5, 3) := by decide +kernel
theorem dX9_action_26 : decode cX9_action 26 = .ok (.iconst 0, 1) := by decide +kernel
theorem dX9_action_27 : decode cX9_action 27 = .ok (.ireturn, 1) := by decide +kernel
theorem dX9_action_28 : decode cX9_action 28 = .ok (.aload_n 0, 1) := by decide +kernel
theorem dX9_action_29 : decode cX9_action 29 = .ok (.getfield 25, 3) := by decide +kernel
theorem dX9_action_32 : decode cX9_action 32 = .ok (.iload_n 1, 1) := by decide +kernel
theorem dX9_action_33 : decode cX9_action 33 = .ok (.iload_n 2, 1) := by decide +kernel
theorem dX9_action_34 : decode cX9_action 34 = .ok (.invokevirtual 83, 3) := by decide +kernel
theorem dX9_action_37 : decode cX9_action 37 = .ok (.iconst 1, 1) := by decide +kernel
theorem dX9_action_38 : decode cX9_action 38 = .ok (.ireturn, 1) := by decide +kernel
theorem dX9_attribute_0 : decode cX9_attribute 0 = .ok (.iload_n 1, 1) := by decide +kernel
theorem dX9_attribute_1 : decode cX9_attribute 1 = .ok (.iconst (-1), 1) := by decide +kernel
theorem dX9_attribute_2 : decode cX9_attribute 2 = .ok (.if_icmp .eq 10, 3) := by decide +kernel
theorem dX9_attribute_5 : decode cX9_attribute 5 = .ok (.iload_n 1, 1) := by decide +kernel
theorem dX9_attribute_6 : decode cX9_attribute 6 = .ok (.invokestatic 80, 3) := by decide +kernel
theorem dX9_attribute_9 : decode cX9_attribute 9 = .ok (.ifCond .eq 14, 3) := by decide +kernel
theorem dX9_attribute_12 : decode cX9_attribute 12 = .ok (.iload_n 2, 1) := by decide +kernel
theorem dX9_attribute_13 : decode cX9_attribute 13 = .ok (.invokestatic 80, 3) := by decide +kernel
theorem dX9_attribute_16 : decode cX9_attribute 16 = .ok (.ifCond .eq 7, 3) := by decide +kernel
theorem dX9_attribute_19 : decode cX9_attribute 19 = .ok (.iconst 1, 1) := by decide +kernel
theorem dX9_attribute_20 : decode cX9_attribute 20 = .ok (.goto 4, 3) := by decide +kernel
theorem dX9_attribute_23 : decode cX9_attribute 23 = .ok (.iconst 0, 1) := by decide +kernel
theorem dX9_attribute_24 : decode cX9_attribute 24 = .ok (.istore 4, 2) := by decide +kernel
theorem dX9_attribute_26 : decode cX9_attribute 26 = .ok (.iload 4, 2) := by decide +kernel
theorem dX9_attribute_28 : decode cX9_attribute 28 = .ok (.ifCond .eq 13, 3) := by decide +kernel
theorem dX9_attribute_31 : decode cX9_attribute 31 = .ok (.iload_n 2, 1) := by decide +kernel
theorem dX9_attribute_32 : decode cX9_attribute 32 = .ok (.bipush 14, 2) := by decide +kernel
theorem dX9_attribute_34 : decode cX9_attribute 34 = .ok (.if_icmp .ne 9, 3) := by decide +kernel
theorem dX9_attribute_37 : decode cX9_attribute 37 = .ok (.iload_n 3, 1) := by decide +kernel
theorem dX9_attribute_38 : decode cX9_attribute 38 = .ok (.ifCond .eq 5, 3) := by decide +kernel
theorem dX9_attribute_41 : decode cX9_attribute 41 = .ok (.iconst 0, 1) := by decide +kernel
theorem dX9_attribute_42 : decode cX9_attribute 42 = .ok (.ireturn, 1) := by decide +kernel
theorem dX9_attribute_43 : decode cX9_attribute 43 = .ok (.aload_n 0, 1) := by decide +kernel
theorem dX9_attribute_44 : decode cX9_attribute 44 = .ok (.getfield 25, 3) := by decide +kernel
theorem dX9_attribute_47 : decode cX9_attribute 47 = .ok (.iload_n 1, 1) := by decide +kernel
theorem dX9_attribute_48 : decode cX9_attribute 48 = .ok (.iload_n 2, 1) := by decide +kernel
theorem dX9_attribute_49 : decode cX9_attribute 49 = .ok (.iload_n 3, 1) := by decide +kernel
theorem dX9_attribute_50 : decode cX9_attribute 50 = .ok (.invokevirtual 87, 3) := by decide +kernel
theorem dX9_attribute_53 : decode cX9_attribute 53 = .ok (.iconst 1, 1) := by decide +kernel
theorem dX9_attribute_54 : decode cX9_attribute 54 = .ok (.ireturn, 1) := by decide +kernel
theorem dX9_scheme_0 : decode cX9_scheme 0 = .ok (.lload_n 1, 1) := by decide +kernel
theorem dX9_scheme_1 : decode cX9_scheme 1 = .ok (.invokestatic 91, 3) := by decide +kernel
theorem dX9_scheme_4 : decode cX9_scheme 4 = .ok (.ifCond .eq 18, 3) := by decide +kernel
theorem dX9_scheme_7 : decode cX9_scheme 7 = .ok (.aload_n 0, 1) := by decide +kernel
theorem dX9_scheme_8 : decode cX9_scheme 8 = .ok (.getfield 25, 3) := by decide +kernel
theorem dX9_scheme_11 : decode cX9_scheme 11 = .ok (.lload_n 1, 1) := by decide +kernel
theorem dX9_scheme_12 : decode cX9_scheme 12 = .ok (.invokevirtual 95, 3) := by decide +kernel
theorem dX9_scheme_15 : decode cX9_scheme 15 = .ok (.ifCond .eq 7, 3) := by decide +kernel
theorem dX9_scheme_18 : decode cX9_scheme 18 = .ok (.iconst 1, 1) := by decide +kernel
theorem dX9_scheme_19 : decode cX9_scheme 19 = .ok (.goto 4, 3) := by decide +kernel
theorem dX9_scheme_22 : decode cX9_scheme 22 = .ok (.iconst 0, 1) := by decide +kernel
theorem dX9_scheme_23 : decode cX9_scheme 23 = .ok (.ireturn, 1) := by decide +kernel
theorem dX9_reset_0 : decode cX9_reset 0 = .ok (.aload_n 0, 1) := by decide +kernel
theorem dX9_reset_1 : decode cX9_reset 1 = .ok (.getfield 25, 3) := by decide +kernel
theorem dX9_reset_4 : decode cX9_reset 4 = .ok (.invokevirtual 98, 3) := by decide +kernel
theorem dX9_reset_7 : decode cX9_reset 7 = .ok (.return_, 1) := by decide +kernel
theorem dX9_clean_0 : decode cX9_clean 0 = .ok (.iconst 1, 1) := by decide +kernel
theorem dX9_clean_1 : decode cX9_clean 1 = .ok (.istore_n 1, 1) := by decide +kernel
theorem dX9_clean_2 : decode cX9_clean 2 = .ok (.iconst 0, 1) := by decide +kernel
theorem dX9_clean_3 : decode cX9_clean 3 = .ok (.istore_n 2, 1) := by decide +kernel
theorem dX9_clean_4 : decode cX9_clean 4 = .ok (.aload_n 0, 1) := by decide +kernel
theorem dX9_clean_5 : decode cX9_clean 5 = .ok (.getfield 41, 3) := by decide +kernel
theorem dX9_clean_8 : decode cX9_clean 8 = .ok (.astore_n 3, 1) := by decide +kernel
theorem dX9_clean_9 : decode cX9_clean 9 = .ok (.aload_n 0, 1) := by decide +kernel
theorem dX9_clean_10 : decode cX9_clean 10 = .ok (.getfield 16, 3) := by decide +kernel
theorem dX9_clean_13 : decode cX9_clean 13 = .ok (.aload_n 0, 1) := by decide +kernel
theorem dX9_clean_14 : decode cX9_clean 14 = .ok (.getfield 10, 3) := by decide +kernel
theorem dX9_clean_17 : decode cX9_clean 17 = .ok (.invokevirtual 101, 3) := by decide +kernel
theorem dX9_clean_20 : decode cX9_clean 20 = .ok (.aload_n 0, 1) := by decide +kernel
theorem dX9_clean_21 : decode cX9_clean 21 = .ok (.iconst 0, 1) := by decide +kernel
theorem dX9_clean_22 : decode cX9_clean 22 = .ok (.putfield 57, 3) := by decide +kernel
theorem dX9_clean_25 : decode cX9_clean 25 = .ok (.aload_n 0, 1) := by decide +kernel
theorem dX9_clean_26 : decode cX9_clean 26 = .ok (.getfield 57, 3) := by decide +kernel
theorem dX9_clean_29 : decode cX9_clean 29 = .ok (.bipush 6, 2) := by decide +kernel
theorem dX9_clean_31 : decode cX9_clean 31 = .ok (.if_icmp .ge 76, 3) := by decide +kernel
theorem dX9_clean_34 : decode cX9_clean 34 = .ok (.iload_n 1, 1) := by decide +kernel
theorem dX9_clean_35 : decode cX9_clean 35 = .ok (.ifCond .eq 72, 3) := by decide +kernel
theorem dX9_clean_38 : decode cX9_clean 38 = .ok (.iload_n 2, 1) := by decide +kernel
theorem dX9_clean_39 : decode cX9_clean 39 = .ok (.ifCond .ne 68, 3) := by decide +kernel
theorem dX9_clean_42 : decode cX9_clean 42 = .ok (.aload_n 0, 1) := by decide +kernel
theorem dX9_clean_43 : decode cX9_clean 43 = .ok (.getfield 53, 3) := by decide +kernel
theorem dX9_clean_46 : decode cX9_clean 46 = .ok (.aload_n 3, 1) := by decide +kernel
theorem dX9_clean_47 : decode cX9_clean 47 = .ok (.invokevirtual 105, 3) := by decide +kernel
theorem dX9_clean_50 : decode cX9_clean 50 = .ok (.invokevirtual 109, 3) := by decide +kernel
theorem dX9_clean_53 : decode cX9_clean 53 = .ok (.istore_n 1, 1) := by decide +kernel
theorem dX9_clean_54 : decode cX9_clean 54 = .ok (.iload_n 1, 1) := by decide +kernel
theorem dX9_clean_55 : decode cX9_clean 55 = .ok (.ifCond .eq 21, 3) := by decide +kernel
theorem dX9_clean_58 : decode cX9_clean 58 = .ok (.aload_n 0, 1) := by decide +kernel
theorem dX9_clean_59 : decode cX9_clean 59 = .ok (.getfield 19, 3) := by decide +kernel
theorem dX9_clean_62 : decode cX9_clean 62 = .ok (.aload_n 0, 1) := by decide +kernel
theorem dX9_clean_63 : decode cX9_clean 63 = .ok (.getfield 16, 3) := by decide +kernel
theorem dX9_clean_66 : decode cX9_clean 66 = .ok (.invokevirtual 113, 3) := by decide +kernel
theorem dX9_clean_69 : decode cX9_clean 69 = .ok (.ifCond .eq 7, 3) := by decide +kernel
theorem dX9_clean_72 : decode cX9_clean 72 = .ok (.iconst 1, 1) := by decide +kernel
theorem dX9_clean_73 : decode cX9_clean 73 = .ok (.goto 4, 3) := by decide +kernel
theorem dX9_clean_76 : decode cX9_clean 76 = .ok (.iconst 0, 1) := by decide +kernel
theorem dX9_clean_77 : decode cX9_clean 77 = .ok (.istore_n 2, 1) := by decide +kernel
theorem dX9_clean_78 : decode cX9_clean 78 = .ok (.aload_n 0, 1) := by decide +kernel
theorem dX9_clean_79 : decode cX9_clean 79 = .ok (.getfield 16, 3) := by decide +kernel
theorem dX9_clean_82 : decode cX9_clean 82 = .ok (.aload_n 0, 1) := by decide +kernel
theorem dX9_clean_83 : decode cX9_clean 83 = .ok (.getfield 19, 3) := by decide +kernel
theorem dX9_clean_86 : decode cX9_clean 86 = .ok (.invokevirtual 101, 3) := by decide +kernel
theorem dX9_clean_89 : decode cX9_clean 89 = .ok (.aload_n 0, 1) := by decide +kernel
theorem dX9_clean_90 : decode cX9_clean 90 = .ok (.getfield 45, 3) := by decide +kernel
theorem dX9_clean_93 : decode cX9_clean 93 = .ok (.astore_n 3, 1) := by decide +kernel
theorem dX9_clean_94 : decode cX9_clean 94 = .ok (.aload_n 0, 1) := by decide +kernel
theorem dX9_clean_95 : decode cX9_clean 95 = .ok (.dup, 1) := by decide +kernel
theorem dX9_clean_96 : decode cX9_clean 96 = .ok (.getfield 57, 3) := by decide +kernel
theorem dX9_clean_99 : decode cX9_clean 99 = .ok (.iconst 1, 1) := by decide +kernel
theorem dX9_clean_100 : decode cX9_clean 100 = .ok (.iadd, 1) := by decide +kernel
theorem dX9_clean_101 : decode cX9_clean 101 = .ok (.putfield 57, 3) := by decide +kernel
theorem dX9_clean_104 : decode cX9_clean 104 = .ok (.goto (-79), 3) := by decide +kernel
theorem dX9_clean_107 : decode cX9_clean 107 = .ok (.iload_n 2, 1) := by decide +kernel
theorem dX9_clean_108 : decode cX9_clean 108 = .ok (.ifCond .ne 12, 3) := by decide +kernel
theorem dX9_clean_111 : decode cX9_clean 111 = .ok (.aload_n 0, 1) := by decide +kernel
theorem dX9_clean_112 : decode cX9_clean 112 = .ok (.getfield 19, 3) := by decide +kernel
theorem dX9_clean_115 : decode cX9_clean 115 = .ok (.invokevirtual 77, 3) := by decide +kernel
theorem dX9_clean_118 : decode cX9_clean 118 = .ok (.iconst (-1), 1) := by decide +kernel
theorem dX9_clean_119 : decode cX9_clean 119 = .ok (.ireturn, 1) := by decide +kernel
theorem dX9_clean_120 : decode cX9_clean 120 = .ok (.aload_n 0, 1) := by decide +kernel
theorem dX9_clean_121 : decode cX9_clean 121 = .ok (.getfield 19, 3) := by decide +kernel
theorem dX9_clean_124 : decode cX9_clean 124 = .ok (.invokevirtual 69, 3) := by decide +kernel
theorem dX9_clean_127 : decode cX9_clean 127 = .ok (.ireturn, 1) := by decide +kernel
theorem dX9_output_0 : decode cX9_output 0 = .ok (.aload_n 0, 1) := by decide +kernel
theorem dX9_output_1 : decode cX9_output 1 = .ok (.getfield 19, 3) := by decide +kernel
theorem dX9_output_4 : decode cX9_output 4 = .ok (.iconst 0, 1) := by decide +kernel
theorem dX9_output_5 : decode cX9_output 5 = .ok (.aload_n 0, 1) := by decide +kernel
theorem dX9_output_6 : decode cX9_output 6 = .ok (.getfield 19, 3) := by decide +kernel
theorem dX9_output_9 : decode cX9_output 9 = .ok (.invokevirtual 69, 3) := by decide +kernel
theorem dX9_output_12 : decode cX9_output 12 = .ok (.iload_n 1, 1) := by decide +kernel
theorem dX9_output_13 : decode cX9_output 13 = .ok (.invokevirtual 117, 3) := by decide +kernel
theorem dX9_output_16 : decode cX9_output 16 = .ok (.lreturn, 1) := by decide +kernel
theorem dX9_rounds_0 : decode cX9_rounds 0 = .ok (.aload_n 0, 1) := by decide +kernel
theorem dX9_rounds_1 : decode cX9_rounds 1 = .ok (.getfield 57, 3) := by decide +kernel
theorem dX9_rounds_4 : decode cX9_rounds 4 = .ok (.ireturn, 1) := by decide +kernel
theorem dX9_nodes_0 : decode cX9_nodes 0 = .ok (.aload_n 0, 1) := by decide +kernel
theorem dX9_nodes_1 : decode cX9_nodes 1 = .ok (.getfield 32, 3) := by decide +kernel
theorem dX9_nodes_4 : decode cX9_nodes 4 = .ok (.invokevirtual 121, 3) := by decide +kernel
theorem dX9_nodes_7 : decode cX9_nodes 7 = .ok (.ireturn, 1) := by decide +kernel
theorem dX9_node_0 : decode cX9_node 0 = .ok (.aload_n 0, 1) := by decide +kernel
theorem dX9_node_1 : decode cX9_node 1 = .ok (.getfield 32, 3) := by decide +kernel
theorem dX9_node_4 : decode cX9_node 4 = .ok (.iload_n 1, 1) := by decide +kernel
theorem dX9_node_5 : decode cX9_node 5 = .ok (.invokevirtual 122, 3) := by decide +kernel
theorem dX9_node_8 : decode cX9_node 8 = .ok (.ireturn, 1) := by decide +kernel
theorem dX9_text_0 : decode cX9_text 0 = .ok (.aload_n 0, 1) := by decide +kernel
theorem dX9_text_1 : decode cX9_text 1 = .ok (.getfield 32, 3) := by decide +kernel
theorem dX9_text_4 : decode cX9_text 4 = .ok (.iload_n 1, 1) := by decide +kernel
theorem dX9_text_5 : decode cX9_text 5 = .ok (.iload_n 2, 1) := by decide +kernel
theorem dX9_text_6 : decode cX9_text 6 = .ok (.invokevirtual 126, 3) := by decide +kernel
theorem dX9_text_9 : decode cX9_text 9 = .ok (.lreturn, 1) := by decide +kernel
theorem dX9_length_0 : decode cX9_length 0 = .ok (.aload_n 0, 1) := by decide +kernel
theorem dX9_length_1 : decode cX9_length 1 = .ok (.getfield 32, 3) := by decide +kernel
theorem dX9_length_4 : decode cX9_length 4 = .ok (.aload_n 0, 1) := by decide +kernel
theorem dX9_length_5 : decode cX9_length 5 = .ok (.getfield 32, 3) := by decide +kernel
theorem dX9_length_8 : decode cX9_length 8 = .ok (.iload_n 1, 1) := by decide +kernel
theorem dX9_length_9 : decode cX9_length 9 = .ok (.iload_n 2, 1) := by decide +kernel
theorem dX9_length_10 : decode cX9_length 10 = .ok (.invokevirtual 130, 3) := by decide +kernel
theorem dX9_length_13 : decode cX9_length 13 = .ok (.invokevirtual 134, 3) := by decide +kernel
theorem dX9_length_16 : decode cX9_length 16 = .ok (.ireturn, 1) := by decide +kernel
theorem dX9_value_0 : decode cX9_value 0 = .ok (.aload_n 0, 1) := by decide +kernel
theorem dX9_value_1 : decode cX9_value 1 = .ok (.getfield 32, 3) := by decide +kernel
theorem dX9_value_4 : decode cX9_value 4 = .ok (.aload_n 0, 1) := by decide +kernel
theorem dX9_value_5 : decode cX9_value 5 = .ok (.getfield 32, 3) := by decide +kernel
theorem dX9_value_8 : decode cX9_value 8 = .ok (.iload_n 1, 1) := by decide +kernel
theorem dX9_value_9 : decode cX9_value 9 = .ok (.iload_n 2, 1) := by decide +kernel
theorem dX9_value_10 : decode cX9_value 10 = .ok (.invokevirtual 130, 3) := by decide +kernel
theorem dX9_value_13 : decode cX9_value 13 = .ok (.iload_n 3, 1) := by decide +kernel
theorem dX9_value_14 : decode cX9_value 14 = .ok (.invokevirtual 137, 3) := by decide +kernel
theorem dX9_value_17 : decode cX9_value 17 = .ok (.lreturn, 1) := by decide +kernel
theorem dX9_byteAt_0 : decode cX9_byteAt 0 = .ok (.lload_n 0, 1) := by decide +kernel
theorem dX9_byteAt_1 : decode cX9_byteAt 1 = .ok (.bipush 8, 2) := by decide +kernel
theorem dX9_byteAt_3 : decode cX9_byteAt 3 = .ok (.iload_n 2, 1) := by decide +kernel
theorem dX9_byteAt_4 : decode cX9_byteAt 4 = .ok (.imul, 1) := by decide +kernel
theorem dX9_byteAt_5 : decode cX9_byteAt 5 = .ok (.lushr, 1) := by decide +kernel
theorem dX9_byteAt_6 : decode cX9_byteAt 6 = .ok (.l2i, 1) := by decide +kernel
theorem dX9_byteAt_7 : decode cX9_byteAt 7 = .ok (.sipush 255, 3) := by decide +kernel
theorem dX9_byteAt_10 : decode cX9_byteAt 10 = .ok (.iand, 1) := by decide +kernel
theorem dX9_byteAt_11 : decode cX9_byteAt 11 = .ok (.ireturn, 1) := by decide +kernel
theorem dX9_isPlain_0 : decode cX9_isPlain 0 = .ok (.iload_n 0, 1) := by decide +kernel
theorem dX9_isPlain_1 : decode cX9_isPlain 1 = .ok (.bipush 32, 2) := by decide +kernel
theorem dX9_isPlain_3 : decode cX9_isPlain 3 = .ok (.if_icmp .lt 13, 3) := by decide +kernel
theorem dX9_isPlain_6 : decode cX9_isPlain 6 = .ok (.iload_n 0, 1) := by decide +kernel
theorem dX9_isPlain_7 : decode cX9_isPlain 7 = .ok (.bipush 126, 2) := by decide +kernel
theorem dX9_isPlain_9 : decode cX9_isPlain 9 = .ok (.if_icmp .gt 7, 3) := by decide +kernel
theorem dX9_isPlain_12 : decode cX9_isPlain 12 = .ok (.iconst 1, 1) := by decide +kernel
theorem dX9_isPlain_13 : decode cX9_isPlain 13 = .ok (.goto 4, 3) := by decide +kernel
theorem dX9_isPlain_16 : decode cX9_isPlain 16 = .ok (.iconst 0, 1) := by decide +kernel
theorem dX9_isPlain_17 : decode cX9_isPlain 17 = .ok (.ireturn, 1) := by decide +kernel
theorem dX9_isDigit_0 : decode cX9_isDigit 0 = .ok (.iload_n 0, 1) := by decide +kernel
theorem dX9_isDigit_1 : decode cX9_isDigit 1 = .ok (.bipush 48, 2) := by decide +kernel
theorem dX9_isDigit_3 : decode cX9_isDigit 3 = .ok (.if_icmp .lt 13, 3) := by decide +kernel
theorem dX9_isDigit_6 : decode cX9_isDigit 6 = .ok (.iload_n 0, 1) := by decide +kernel
theorem dX9_isDigit_7 : decode cX9_isDigit 7 = .ok (.bipush 57, 2) := by decide +kernel
theorem dX9_isDigit_9 : decode cX9_isDigit 9 = .ok (.if_icmp .gt 7, 3) := by decide +kernel
theorem dX9_isDigit_12 : decode cX9_isDigit 12 = .ok (.iconst 1, 1) := by decide +kernel
theorem dX9_isDigit_13 : decode cX9_isDigit 13 = .ok (.goto 4, 3) := by decide +kernel
theorem dX9_isDigit_16 : decode cX9_isDigit 16 = .ok (.iconst 0, 1) := by decide +kernel
theorem dX9_isDigit_17 : decode cX9_isDigit 17 = .ok (.ireturn, 1) := by decide +kernel
theorem dX9_isLetterNumber_0 : decode cX9_isLetterNumber 0 = .ok (.iload_n 0, 1) := by decide +kernel
theorem dX9_isLetterNumber_1 : decode cX9_isLetterNumber 1 = .ok (.ifCond .lt 13, 3) := by decide +kernel
theorem dX9_isLetterNumber_4 : decode cX9_isLetterNumber 4 = .ok (.iload_n 0, 1) := by decide +kernel
theorem dX9_isLetterNumber_5 : decode cX9_isLetterNumber 5 = .ok (.bipush 26, 2) := by decide +kernel
theorem dX9_isLetterNumber_7 : decode cX9_isLetterNumber 7 = .ok (.if_icmp .ge 7, 3) := by decide +kernel
theorem dX9_isLetterNumber_10 : decode cX9_isLetterNumber 10 = .ok (.iconst 1, 1) := by decide +kernel
theorem dX9_isLetterNumber_11 : decode cX9_isLetterNumber 11 = .ok (.goto 4, 3) := by decide +kernel
theorem dX9_isLetterNumber_14 : decode cX9_isLetterNumber 14 = .ok (.iconst 0, 1) := by decide +kernel
theorem dX9_isLetterNumber_15 : decode cX9_isLetterNumber 15 = .ok (.ireturn, 1) := by decide +kernel
theorem dX9_isLetter_0 : decode cX9_isLetter 0 = .ok (.iload_n 0, 1) := by decide +kernel
theorem dX9_isLetter_1 : decode cX9_isLetter 1 = .ok (.bipush 97, 2) := by decide +kernel
theorem dX9_isLetter_3 : decode cX9_isLetter 3 = .ok (.if_icmp .lt 9, 3) := by decide +kernel
theorem dX9_isLetter_6 : decode cX9_isLetter 6 = .ok (.iload_n 0, 1) := by decide +kernel
theorem dX9_isLetter_7 : decode cX9_isLetter 7 = .ok (.bipush 122, 2) := by decide +kernel
theorem dX9_isLetter_9 : decode cX9_isLetter 9 = .ok (.if_icmp .le 15, 3) := by decide +kernel
theorem dX9_isLetter_12 : decode cX9_isLetter 12 = .ok (.iload_n 0, 1) := by decide +kernel
theorem dX9_isLetter_13 : decode cX9_isLetter 13 = .ok (.bipush 65, 2) := by decide +kernel
theorem dX9_isLetter_15 : decode cX9_isLetter 15 = .ok (.if_icmp .lt 13, 3) := by decide +kernel
theorem dX9_isLetter_18 : decode cX9_isLetter 18 = .ok (.iload_n 0, 1) := by decide +kernel
theorem dX9_isLetter_19 : decode cX9_isLetter 19 = .ok (.bipush 90, 2) := by decide +kernel
theorem dX9_isLetter_21 : decode cX9_isLetter 21 = .ok (.if_icmp .gt 7, 3) := by decide +kernel
theorem dX9_isLetter_24 : decode cX9_isLetter 24 = .ok (.iconst 1, 1) := by decide +kernel
theorem dX9_isLetter_25 : decode cX9_isLetter 25 = .ok (.goto 4, 3) := by decide +kernel
theorem dX9_isLetter_28 : decode cX9_isLetter 28 = .ok (.iconst 0, 1) := by decide +kernel
theorem dX9_isLetter_29 : decode cX9_isLetter 29 = .ok (.ireturn, 1) := by decide +kernel
theorem dX9_letterNumber_0 : decode cX9_letterNumber 0 = .ok (.iload_n 0, 1) := by decide +kernel
theorem dX9_letterNumber_1 : decode cX9_letterNumber 1 = .ok (.bipush 97, 2) := by decide +kernel
theorem dX9_letterNumber_3 : decode cX9_letterNumber 3 = .ok (.if_icmp .lt 14, 3) := by decide +kernel
theorem dX9_letterNumber_6 : decode cX9_letterNumber 6 = .ok (.iload_n 0, 1) := by decide +kernel
theorem dX9_letterNumber_7 : decode cX9_letterNumber 7 = .ok (.bipush 122, 2) := by decide +kernel
theorem dX9_letterNumber_9 : decode cX9_letterNumber 9 = .ok (.if_icmp .gt 8, 3) := by decide +kernel
theorem dX9_letterNumber_12 : decode cX9_letterNumber 12 = .ok (.iload_n 0, 1) := by decide +kernel
theorem dX9_letterNumber_13 : decode cX9_letterNumber 13 = .ok (.bipush 97, 2) := by decide +kernel
theorem dX9_letterNumber_15 : decode cX9_letterNumber 15 = .ok (.isub, 1) := by decide +kernel
theorem dX9_letterNumber_16 : decode cX9_letterNumber 16 = .ok (.ireturn, 1) := by decide +kernel
theorem dX9_letterNumber_17 : decode cX9_letterNumber 17 = .ok (.iload_n 0, 1) := by decide +kernel
theorem dX9_letterNumber_18 : decode cX9_letterNumber 18 = .ok (.bipush 65, 2) := by decide +kernel
theorem dX9_letterNumber_20 : decode cX9_letterNumber 20 = .ok (.if_icmp .lt 16, 3) := by decide +kernel
theorem dX9_letterNumber_23 : decode cX9_letterNumber 23 = .ok (.iload_n 0, 1) := by decide +kernel
theorem dX9_letterNumber_24 : decode cX9_letterNumber 24 = .ok (.bipush 90, 2) := by decide +kernel
theorem dX9_letterNumber_26 : decode cX9_letterNumber 26 = .ok (.if_icmp .gt 10, 3) := by decide +kernel
theorem dX9_letterNumber_29 : decode cX9_letterNumber 29 = .ok (.iload_n 0, 1) := by decide +kernel
theorem dX9_letterNumber_30 : decode cX9_letterNumber 30 = .ok (.bipush 65, 2) := by decide +kernel
theorem dX9_letterNumber_32 : decode cX9_letterNumber 32 = .ok (.isub, 1) := by decide +kernel
theorem dX9_letterNumber_33 : decode cX9_letterNumber 33 = .ok (.goto 4, 3) := by decide +kernel
theorem dX9_letterNumber_36 : decode cX9_letterNumber 36 = .ok (.iconst (-1), 1) := by decide +kernel
theorem dX9_letterNumber_37 : decode cX9_letterNumber 37 = .ok (.ireturn, 1) := by decide +kernel
theorem dX9_isWord_0 : decode cX9_isWord 0 = .ok (.iconst 0, 1) := by decide +kernel
theorem dX9_isWord_1 : decode cX9_isWord 1 = .ok (.istore_n 2, 1) := by decide +kernel
theorem dX9_isWord_2 : decode cX9_isWord 2 = .ok (.iconst 0, 1) := by decide +kernel
theorem dX9_isWord_3 : decode cX9_isWord 3 = .ok (.istore_n 3, 1) := by decide +kernel
theorem dX9_isWord_4 : decode cX9_isWord 4 = .ok (.iload_n 3, 1) := by decide +kernel
theorem dX9_isWord_5 : decode cX9_isWord 5 = .ok (.bipush 8, 2) := by decide +kernel
theorem dX9_isWord_7 : decode cX9_isWord 7 = .ok (.if_icmp .ge 67, 3) := by decide +kernel
theorem dX9_isWord_10 : decode cX9_isWord 10 = .ok (.lload_n 0, 1) := by decide +kernel
theorem dX9_isWord_11 : decode cX9_isWord 11 = .ok (.iload_n 3, 1) := by decide +kernel
theorem dX9_isWord_12 : decode cX9_isWord 12 = .ok (.invokestatic 61, 3) := by decide +kernel
theorem dX9_isWord_15 : decode cX9_isWord 15 = .ok (.istore 4, 2) := by decide +kernel
theorem dX9_isWord_17 : decode cX9_isWord 17 = .ok (.iload 4, 2) := by decide +kernel
theorem dX9_isWord_19 : decode cX9_isWord 19 = .ok (.bipush 97, 2) := by decide +kernel
theorem dX9_isWord_21 : decode cX9_isWord 21 = .ok (.if_icmp .lt 14, 3) := by decide +kernel
theorem dX9_isWord_24 : decode cX9_isWord 24 = .ok (.iload 4, 2) := by decide +kernel
theorem dX9_isWord_26 : decode cX9_isWord 26 = .ok (.bipush 122, 2) := by decide +kernel
theorem dX9_isWord_28 : decode cX9_isWord 28 = .ok (.if_icmp .gt 7, 3) := by decide +kernel
theorem dX9_isWord_31 : decode cX9_isWord 31 = .ok (.iconst 1, 1) := by decide +kernel
theorem dX9_isWord_32 : decode cX9_isWord 32 = .ok (.goto 4, 3) := by decide +kernel
theorem dX9_isWord_35 : decode cX9_isWord 35 = .ok (.iconst 0, 1) := by decide +kernel
theorem dX9_isWord_36 : decode cX9_isWord 36 = .ok (.istore 5, 2) := by decide +kernel
theorem dX9_isWord_38 : decode cX9_isWord 38 = .ok (.iload 4, 2) := by decide +kernel
theorem dX9_isWord_40 : decode cX9_isWord 40 = .ok (.ifCond .eq 15, 3) := by decide +kernel
theorem dX9_isWord_43 : decode cX9_isWord 43 = .ok (.iload 5, 2) := by decide +kernel
theorem dX9_isWord_45 : decode cX9_isWord 45 = .ok (.ifCond .eq 8, 3) := by decide +kernel
theorem dX9_isWord_48 : decode cX9_isWord 48 = .ok (.iload_n 2, 1) := by decide +kernel
theorem dX9_isWord_49 : decode cX9_isWord 49 = .ok (.iload_n 3, 1) := by decide +kernel
theorem dX9_isWord_50 : decode cX9_isWord 50 = .ok (.if_icmp .ge 5, 3) := by decide +kernel
theorem dX9_isWord_53 : decode cX9_isWord 53 = .ok (.iconst 0, 1) := by decide +kernel
theorem dX9_isWord_54 : decode cX9_isWord 54 = .ok (.ireturn, 1) := by decide +kernel
theorem dX9_isWord_55 : decode cX9_isWord 55 = .ok (.iload_n 2, 1) := by decide +kernel
theorem dX9_isWord_56 : decode cX9_isWord 56 = .ok (.iload 5, 2) := by decide +kernel
theorem dX9_isWord_58 : decode cX9_isWord 58 = .ok (.ifCond .eq 7, 3) := by decide +kernel
theorem dX9_isWord_61 : decode cX9_isWord 61 = .ok (.iconst 1, 1) := by decide +kernel
theorem dX9_isWord_62 : decode cX9_isWord 62 = .ok (.goto 4, 3) := by decide +kernel
theorem dX9_isWord_65 : decode cX9_isWord 65 = .ok (.iconst 0, 1) := by decide +kernel
theorem dX9_isWord_66 : decode cX9_isWord 66 = .ok (.iadd, 1) := by decide +kernel
theorem dX9_isWord_67 : decode cX9_isWord 67 = .ok (.istore_n 2, 1) := by decide +kernel
theorem dX9_isWord_68 : decode cX9_isWord 68 = .ok (.iinc 3 1, 3) := by decide +kernel
theorem dX9_isWord_71 : decode cX9_isWord 71 = .ok (.goto (-67), 3) := by decide +kernel
theorem dX9_isWord_74 : decode cX9_isWord 74 = .ok (.iload_n 2, 1) := by decide +kernel
theorem dX9_isWord_75 : decode cX9_isWord 75 = .ok (.ifCond .le 7, 3) := by decide +kernel
theorem dX9_isWord_78 : decode cX9_isWord 78 = .ok (.iconst 1, 1) := by decide +kernel
theorem dX9_isWord_79 : decode cX9_isWord 79 = .ok (.goto 4, 3) := by decide +kernel
theorem dX9_isWord_82 : decode cX9_isWord 82 = .ok (.iconst 0, 1) := by decide +kernel
theorem dX9_isWord_83 : decode cX9_isWord 83 = .ok (.ireturn, 1) := by decide +kernel
theorem dX9_isBlock_0 : decode cX9_isBlock 0 = .ok (.iload_n 0, 1) := by decide +kernel
theorem dX9_isBlock_1 : decode cX9_isBlock 1 = .ok (.iconst 3, 1) := by decide +kernel
theorem dX9_isBlock_2 : decode cX9_isBlock 2 = .ok (.if_icmp .eq 21, 3) := by decide +kernel
theorem dX9_isBlock_5 : decode cX9_isBlock 5 = .ok (.iload_n 0, 1) := by decide +kernel
theorem dX9_isBlock_6 : decode cX9_isBlock 6 = .ok (.bipush 15, 2) := by decide +kernel
theorem dX9_isBlock_8 : decode cX9_isBlock 8 = .ok (.if_icmp .eq 15, 3) := by decide +kernel
theorem dX9_isBlock_11 : decode cX9_isBlock 11 = .ok (.iload_n 0, 1) := by decide +kernel
theorem dX9_isBlock_12 : decode cX9_isBlock 12 = .ok (.bipush 20, 2) := by decide +kernel
theorem dX9_isBlock_14 : decode cX9_isBlock 14 = .ok (.if_icmp .eq 9, 3) := by decide +kernel
theorem dX9_isBlock_17 : decode cX9_isBlock 17 = .ok (.iload_n 0, 1) := by decide +kernel
theorem dX9_isBlock_18 : decode cX9_isBlock 18 = .ok (.bipush 11, 2) := by decide +kernel
theorem dX9_isBlock_20 : decode cX9_isBlock 20 = .ok (.if_icmp .ne 7, 3) := by decide +kernel
theorem dX9_isBlock_23 : decode cX9_isBlock 23 = .ok (.iconst 1, 1) := by decide +kernel
theorem dX9_isBlock_24 : decode cX9_isBlock 24 = .ok (.goto 4, 3) := by decide +kernel
theorem dX9_isBlock_27 : decode cX9_isBlock 27 = .ok (.iconst 0, 1) := by decide +kernel
theorem dX9_isBlock_28 : decode cX9_isBlock 28 = .ok (.ireturn, 1) := by decide +kernel
theorem dX9_isEmptyName_0 : decode cX9_isEmptyName 0 = .ok (.iload_n 0, 1) := by decide +kernel
theorem dX9_isEmptyName_1 : decode cX9_isEmptyName 1 = .ok (.bipush 13, 2) := by decide +kernel
theorem dX9_isEmptyName_3 : decode cX9_isEmptyName 3 = .ok (.if_icmp .eq 9, 3) := by decide +kernel
theorem dX9_isEmptyName_6 : decode cX9_isEmptyName 6 = .ok (.iload_n 0, 1) := by decide +kernel
theorem dX9_isEmptyName_7 : decode cX9_isEmptyName 7 = .ok (.bipush 12, 2) := by decide +kernel
theorem dX9_isEmptyName_9 : decode cX9_isEmptyName 9 = .ok (.if_icmp .ne 7, 3) := by decide +kernel
theorem dX9_isEmptyName_12 : decode cX9_isEmptyName 12 = .ok (.iconst 1, 1) := by decide +kernel
theorem dX9_isEmptyName_13 : decode cX9_isEmptyName 13 = .ok (.goto 4, 3) := by decide +kernel
theorem dX9_isEmptyName_16 : decode cX9_isEmptyName 16 = .ok (.iconst 0, 1) := by decide +kernel
theorem dX9_isEmptyName_17 : decode cX9_isEmptyName 17 = .ok (.ireturn, 1) := by decide +kernel
theorem dJ0_length_8abf5_0 : decode cJ0_length_8abf5 0 = .ok (.aload_n 0, 1) := by decide +kernel
theorem dJ0_length_8abf5_1 : decode cJ0_length_8abf5 1 = .ok (.getfield 9, 3) := by decide +kernel
theorem dJ0_length_8abf5_4 : decode cJ0_length_8abf5 4 = .ok (.arraylength, 1) := by decide +kernel
theorem dJ0_length_8abf5_5 : decode cJ0_length_8abf5 5 = .ok (.aload_n 0, 1) := by decide +kernel
theorem dJ0_length_8abf5_6 : decode cJ0_length_8abf5 6 = .ok (.invokevirtual 335, 3) := by decide +kernel
theorem dJ0_length_8abf5_9 : decode cJ0_length_8abf5 9 = .ok (.ishr, 1) := by decide +kernel
theorem dJ0_length_8abf5_10 : decode cJ0_length_8abf5 10 = .ok (.ireturn, 1) := by decide +kernel
theorem dJ0_charAt_5068e_0 : decode cJ0_charAt_5068e 0 = .ok (.aload_n 0, 1) := by decide +kernel
theorem dJ0_charAt_5068e_1 : decode cJ0_charAt_5068e 1 = .ok (.invokevirtual 492, 3) := by decide +kernel
theorem dJ0_charAt_5068e_4 : decode cJ0_charAt_5068e 4 = .ok (.ifCond .eq 12, 3) := by decide +kernel
theorem dJ0_charAt_5068e_7 : decode cJ0_charAt_5068e 7 = .ok (.aload_n 0, 1) := by decide +kernel
theorem dJ0_charAt_5068e_8 : decode cJ0_charAt_5068e 8 = .ok (.getfield 9, 3) := by decide +kernel
theorem dJ0_charAt_5068e_11 : decode cJ0_charAt_5068e 11 = .ok (.iload_n 1, 1) := by decide +kernel
theorem dJ0_charAt_5068e_12 : decode cJ0_charAt_5068e 12 = .ok (.invokestatic 495, 3) := by decide +kernel
theorem dJ0_charAt_5068e_15 : decode cJ0_charAt_5068e 15 = .ok (.ireturn, 1) := by decide +kernel
theorem dJ0_charAt_5068e_16 : decode cJ0_charAt_5068e 16 = .ok (.aload_n 0, 1) := by decide +kernel
theorem dJ0_charAt_5068e_17 : decode cJ0_charAt_5068e 17 = .ok (.getfield 9, 3) := by decide +kernel
theorem dJ0_charAt_5068e_20 : decode cJ0_charAt_5068e 20 = .ok (.iload_n 1, 1) := by decide +kernel
theorem dJ0_charAt_5068e_21 : decode cJ0_charAt_5068e 21 = .ok (.invokestatic 498, 3) := by decide +kernel
theorem dJ0_charAt_5068e_24 : decode cJ0_charAt_5068e 24 = .ok (.ireturn, 1) := by decide +kernel
theorem dJ0_coder_7d493_0 : decode cJ0_coder_7d493 0 = .ok (.getstatic 38, 3) := by decide +kernel
theorem dJ0_coder_7d493_3 : decode cJ0_coder_7d493 3 = .ok (.ifCond .eq 10, 3) := by decide +kernel
theorem dJ0_coder_7d493_6 : decode cJ0_coder_7d493 6 = .ok (.aload_n 0, 1) := by decide +kernel
theorem dJ0_coder_7d493_7 : decode cJ0_coder_7d493 7 = .ok (.getfield 15, 3) := by decide +kernel
theorem dJ0_coder_7d493_10 : decode cJ0_coder_7d493 10 = .ok (.goto 4, 3) := by decide +kernel
theorem dJ0_coder_7d493_13 : decode cJ0_coder_7d493 13 = .ok (.iconst 1, 1) := by decide +kernel
theorem dJ0_coder_7d493_14 : decode cJ0_coder_7d493 14 = .ok (.ireturn, 1) := by decide +kernel
theorem dJ0_isLatin1_aae02_0 : decode cJ0_isLatin1_aae02 0 = .ok (.getstatic 38, 3) := by decide +kernel
theorem dJ0_isLatin1_aae02_3 : decode cJ0_isLatin1_aae02 3 = .ok (.ifCond .eq 14, 3) := by decide +kernel
theorem dJ0_isLatin1_aae02_6 : decode cJ0_isLatin1_aae02 6 = .ok (.aload_n 0, 1) := by decide +kernel
theorem dJ0_isLatin1_aae02_7 : decode cJ0_isLatin1_aae02 7 = .ok (.getfield 15, 3) := by decide +kernel
theorem dJ0_isLatin1_aae02_10 : decode cJ0_isLatin1_aae02 10 = .ok (.ifCond .ne 7, 3) := by decide +kernel
theorem dJ0_isLatin1_aae02_13 : decode cJ0_isLatin1_aae02 13 = .ok (.iconst 1, 1) := by decide +kernel
theorem dJ0_isLatin1_aae02_14 : decode cJ0_isLatin1_aae02 14 = .ok (.goto 4, 3) := by decide +kernel
theorem dJ0_isLatin1_aae02_17 : decode cJ0_isLatin1_aae02 17 = .ok (.iconst 0, 1) := by decide +kernel
theorem dJ0_isLatin1_aae02_18 : decode cJ0_isLatin1_aae02 18 = .ok (.ireturn, 1) := by decide +kernel
theorem dJ0_checkIndex_df160_0 : decode cJ0_checkIndex_df160 0 = .ok (.iload_n 0, 1) := by decide +kernel
theorem dJ0_checkIndex_df160_1 : decode cJ0_checkIndex_df160 1 = .ok (.iload_n 1, 1) := by decide +kernel
theorem dJ0_checkIndex_df160_2 : decode cJ0_checkIndex_df160 2 = .ok (.getstatic 1053, 3) := by decide +kernel
theorem dJ0_checkIndex_df160_5 : decode cJ0_checkIndex_df160 5 = .ok (.invokestatic 1059, 3) := by decide +kernel
theorem dJ0_checkIndex_df160_8 : decode cJ0_checkIndex_df160 8 = .ok (.pop, 1) := by decide +kernel
theorem dJ0_checkIndex_df160_9 : decode cJ0_checkIndex_df160 9 = .ok (.return_, 1) := by decide +kernel
theorem dJ1_charAt_3b067_0 : decode cJ1_charAt_3b067 0 = .ok (.iload_n 1, 1) := by decide +kernel
theorem dJ1_charAt_3b067_1 : decode cJ1_charAt_3b067 1 = .ok (.aload_n 0, 1) := by decide +kernel
theorem dJ1_charAt_3b067_2 : decode cJ1_charAt_3b067 2 = .ok (.arraylength, 1) := by decide +kernel
theorem dJ1_charAt_3b067_3 : decode cJ1_charAt_3b067 3 = .ok (.invokestatic 9, 3) := by decide +kernel
theorem dJ1_charAt_3b067_6 : decode cJ1_charAt_3b067 6 = .ok (.aload_n 0, 1) := by decide +kernel
theorem dJ1_charAt_3b067_7 : decode cJ1_charAt_3b067 7 = .ok (.iload_n 1, 1) := by decide +kernel
theorem dJ1_charAt_3b067_8 : decode cJ1_charAt_3b067 8 = .ok (.baload, 1) := by decide +kernel
theorem dJ1_charAt_3b067_9 : decode cJ1_charAt_3b067 9 = .ok (.sipush 255, 3) := by decide +kernel
theorem dJ1_charAt_3b067_12 : decode cJ1_charAt_3b067 12 = .ok (.iand, 1) := by decide +kernel
theorem dJ1_charAt_3b067_13 : decode cJ1_charAt_3b067 13 = .ok (.i2c, 1) := by decide +kernel
theorem dJ1_charAt_3b067_14 : decode cJ1_charAt_3b067 14 = .ok (.ireturn, 1) := by decide +kernel
theorem dJ2_getChar_3b067_0 : decode cJ2_getChar_3b067 0 = .ok (.getstatic 44, 3) := by decide +kernel
theorem dJ2_getChar_3b067_3 : decode cJ2_getChar_3b067 3 = .ok (.ifCond .ne 25, 3) := by decide +kernel
theorem dJ2_getChar_3b067_6 : decode cJ2_getChar_3b067 6 = .ok (.iload_n 1, 1) := by decide +kernel
theorem dJ2_getChar_3b067_7 : decode cJ2_getChar_3b067 7 = .ok (.ifCond .lt 11, 3) := by decide +kernel
theorem dJ2_getChar_3b067_10 : decode cJ2_getChar_3b067 10 = .ok (.iload_n 1, 1) := by decide +kernel
theorem dJ2_getChar_3b067_11 : decode cJ2_getChar_3b067 11 = .ok (.aload_n 0, 1) := by decide +kernel
theorem dJ2_getChar_3b067_12 : decode cJ2_getChar_3b067 12 = .ok (.invokestatic 48, 3) := by decide +kernel
theorem dJ2_getChar_3b067_15 : decode cJ2_getChar_3b067 15 = .ok (.if_icmp .lt 13, 3) := by decide +kernel
theorem dJ2_getChar_3b067_18 : decode cJ2_getChar_3b067 18 = .ok (.new 52, 3) := by decide +kernel
theorem dJ2_getChar_3b067_21 : decode cJ2_getChar_3b067 21 = .ok (.dup, 1) := by decide +kernel
theorem dJ2_getChar_3b067_22 : decode cJ2_getChar_3b067 22 = .ok (.ldc 54, 2) := by decide +kernel
theorem dJ2_getChar_3b067_24 : decode cJ2_getChar_3b067 24 = .ok (.invokespecial 56, 3) := by decide +kernel
theorem dJ2_getChar_3b067_27 : decode cJ2_getChar_3b067 27 = .ok (.athrow, 1) := by decide +kernel
theorem dJ2_getChar_3b067_28 : decode cJ2_getChar_3b067 28 = .ok (.iload_n 1, 1) := by decide +kernel
theorem dJ2_getChar_3b067_29 : decode cJ2_getChar_3b067 29 = .ok (.iconst 1, 1) := by decide +kernel
theorem dJ2_getChar_3b067_30 : decode cJ2_getChar_3b067 30 = .ok (.ishl, 1) := by decide +kernel
theorem dJ2_getChar_3b067_31 : decode cJ2_getChar_3b067 31 = .ok (.istore_n 1, 1) := by decide +kernel
theorem dJ2_getChar_3b067_32 : decode cJ2_getChar_3b067 32 = .ok (.aload_n 0, 1) := by decide +kernel
theorem dJ2_getChar_3b067_33 : decode cJ2_getChar_3b067 33 = .ok (.iload_n 1, 1) := by decide +kernel
theorem dJ2_getChar_3b067_34 : decode cJ2_getChar_3b067 34 = .ok (.iinc 1 1, 3) := by decide +kernel
theorem dJ2_getChar_3b067_37 : decode cJ2_getChar_3b067 37 = .ok (.baload, 1) := by decide +kernel
theorem dJ2_getChar_3b067_38 : decode cJ2_getChar_3b067 38 = .ok (.sipush 255, 3) := by decide +kernel
theorem dJ2_getChar_3b067_41 : decode cJ2_getChar_3b067 41 = .ok (.iand, 1) := by decide +kernel
theorem dJ2_getChar_3b067_42 : decode cJ2_getChar_3b067 42 = .ok (.getstatic 59, 3) := by decide +kernel
theorem dJ2_getChar_3b067_45 : decode cJ2_getChar_3b067 45 = .ok (.ishl, 1) := by decide +kernel
theorem dJ2_getChar_3b067_46 : decode cJ2_getChar_3b067 46 = .ok (.aload_n 0, 1) := by decide +kernel
theorem dJ2_getChar_3b067_47 : decode cJ2_getChar_3b067 47 = .ok (.iload_n 1, 1) := by decide +kernel
theorem dJ2_getChar_3b067_48 : decode cJ2_getChar_3b067 48 = .ok (.baload, 1) := by decide +kernel
theorem dJ2_getChar_3b067_49 : decode cJ2_getChar_3b067 49 = .ok (.sipush 255, 3) := by decide +kernel
theorem dJ2_getChar_3b067_52 : decode cJ2_getChar_3b067 52 = .ok (.iand, 1) := by decide +kernel
theorem dJ2_getChar_3b067_53 : decode cJ2_getChar_3b067 53 = .ok (.getstatic 63, 3) := by decide +kernel
theorem dJ2_getChar_3b067_56 : decode cJ2_getChar_3b067 56 = .ok (.ishl, 1) := by decide +kernel
theorem dJ2_getChar_3b067_57 : decode cJ2_getChar_3b067 57 = .ok (.ior, 1) := by decide +kernel
theorem dJ2_getChar_3b067_58 : decode cJ2_getChar_3b067 58 = .ok (.i2c, 1) := by decide +kernel
theorem dJ2_getChar_3b067_59 : decode cJ2_getChar_3b067 59 = .ok (.ireturn, 1) := by decide +kernel
theorem dJ2_length_9d52b_0 : decode cJ2_length_9d52b 0 = .ok (.aload_n 0, 1) := by decide +kernel
theorem dJ2_length_9d52b_1 : decode cJ2_length_9d52b 1 = .ok (.arraylength, 1) := by decide +kernel
theorem dJ2_length_9d52b_2 : decode cJ2_length_9d52b 2 = .ok (.iconst 1, 1) := by decide +kernel
theorem dJ2_length_9d52b_3 : decode cJ2_length_9d52b 3 = .ok (.ishr, 1) := by decide +kernel
theorem dJ2_length_9d52b_4 : decode cJ2_length_9d52b 4 = .ok (.ireturn, 1) := by decide +kernel
theorem dJ2_charAt_3b067_0 : decode cJ2_charAt_3b067 0 = .ok (.iload_n 1, 1) := by decide +kernel
theorem dJ2_charAt_3b067_1 : decode cJ2_charAt_3b067 1 = .ok (.aload_n 0, 1) := by decide +kernel
theorem dJ2_charAt_3b067_2 : decode cJ2_charAt_3b067 2 = .ok (.invokestatic 67, 3) := by decide +kernel
theorem dJ2_charAt_3b067_5 : decode cJ2_charAt_3b067 5 = .ok (.aload_n 0, 1) := by decide +kernel
theorem dJ2_charAt_3b067_6 : decode cJ2_charAt_3b067 6 = .ok (.iload_n 1, 1) := by decide +kernel
theorem dJ2_charAt_3b067_7 : decode cJ2_charAt_3b067 7 = .ok (.invokestatic 71, 3) := by decide +kernel
theorem dJ2_charAt_3b067_10 : decode cJ2_charAt_3b067 10 = .ok (.ireturn, 1) := by decide +kernel
theorem dJ2_checkIndex_2214a_0 : decode cJ2_checkIndex_2214a 0 = .ok (.iload_n 0, 1) := by decide +kernel
theorem dJ2_checkIndex_2214a_1 : decode cJ2_checkIndex_2214a 1 = .ok (.aload_n 1, 1) := by decide +kernel
theorem dJ2_checkIndex_2214a_2 : decode cJ2_checkIndex_2214a 2 = .ok (.invokestatic 48, 3) := by decide +kernel
theorem dJ2_checkIndex_2214a_5 : decode cJ2_checkIndex_2214a 5 = .ok (.invokestatic 414, 3) := by decide +kernel
theorem dJ2_checkIndex_2214a_8 : decode cJ2_checkIndex_2214a 8 = .ok (.return_, 1) := by decide +kernel
theorem dJ3_checkIndex_8e157_0 : decode cJ3_checkIndex_8e157 0 = .ok (.iload_n 0, 1) := by decide +kernel
theorem dJ3_checkIndex_8e157_1 : decode cJ3_checkIndex_8e157 1 = .ok (.ifCond .lt 8, 3) := by decide +kernel
theorem dJ3_checkIndex_8e157_4 : decode cJ3_checkIndex_8e157 4 = .ok (.iload_n 0, 1) := by decide +kernel
theorem dJ3_checkIndex_8e157_5 : decode cJ3_checkIndex_8e157 5 = .ok (.iload_n 1, 1) := by decide +kernel
theorem dJ3_checkIndex_8e157_6 : decode cJ3_checkIndex_8e157 6 = .ok (.if_icmp .lt 10, 3) := by decide +kernel
theorem dJ3_checkIndex_8e157_9 : decode cJ3_checkIndex_8e157 9 = .ok (.aload_n 2, 1) := by decide +kernel
theorem dJ3_checkIndex_8e157_10 : decode cJ3_checkIndex_8e157 10 = .ok (.iload_n 0, 1) := by decide +kernel
theorem dJ3_checkIndex_8e157_11 : decode cJ3_checkIndex_8e157 11 = .ok (.iload_n 1, 1) := by decide +kernel
theorem dJ3_checkIndex_8e157_12 : decode cJ3_checkIndex_8e157 12 = .ok (.invokestatic 95, 3) := by decide +kernel
theorem dJ3_checkIndex_8e157_15 : decode cJ3_checkIndex_8e157 15 = .ok (.athrow, 1) := by decide +kernel
theorem dJ3_checkIndex_8e157_16 : decode cJ3_checkIndex_8e157 16 = .ok (.iload_n 0, 1) := by decide +kernel
theorem dJ3_checkIndex_8e157_17 : decode cJ3_checkIndex_8e157 17 = .ok (.ireturn, 1) := by decide +kernel
theorem dL_law_0 : decode cL_law 0 = .ok (.new 7, 3) := by decide +kernel
theorem dL_law_3 : decode cL_law 3 = .ok (.dup, 1) := by decide +kernel
theorem dL_law_4 : decode cL_law 4 = .ok (.invokespecial 9, 3) := by decide +kernel
theorem dL_law_7 : decode cL_law 7 = .ok (.astore_n 1, 1) := by decide +kernel
theorem dL_law_8 : decode cL_law 8 = .ok (.new 10, 3) := by decide +kernel
theorem dL_law_11 : decode cL_law 11 = .ok (.dup, 1) := by decide +kernel
theorem dL_law_12 : decode cL_law 12 = .ok (.invokespecial 12, 3) := by decide +kernel
theorem dL_law_15 : decode cL_law 15 = .ok (.astore_n 2, 1) := by decide +kernel
theorem dL_law_16 : decode cL_law 16 = .ok (.iconst 0, 1) := by decide +kernel
theorem dL_law_17 : decode cL_law 17 = .ok (.istore_n 3, 1) := by decide +kernel
theorem dL_law_18 : decode cL_law 18 = .ok (.iload_n 3, 1) := by decide +kernel
theorem dL_law_19 : decode cL_law 19 = .ok (.aload_n 0, 1) := by decide +kernel
theorem dL_law_20 : decode cL_law 20 = .ok (.arraylength, 1) := by decide +kernel
theorem dL_law_21 : decode cL_law 21 = .ok (.iconst 4, 1) := by decide +kernel
theorem dL_law_22 : decode cL_law 22 = .ok (.isub, 1) := by decide +kernel
theorem dL_law_23 : decode cL_law 23 = .ok (.if_icmp .gt 504, 3) := by decide +kernel
theorem dL_law_26 : decode cL_law 26 = .ok (.aload_n 0, 1) := by decide +kernel
theorem dL_law_27 : decode cL_law 27 = .ok (.iload_n 3, 1) := by decide +kernel
theorem dL_law_28 : decode cL_law 28 = .ok (.iaload, 1) := by decide +kernel
theorem dL_law_29 : decode cL_law 29 = .ok (.bipush 15, 2) := by decide +kernel
theorem dL_law_31 : decode cL_law 31 = .ok (.iand, 1) := by decide +kernel
theorem dL_law_32 : decode cL_law 32 = .ok (.tableswitch 489 0 13 #[72, 125, 136, 169, 228, 281, 292, 305, 329, 342, 355, 378, 412, 445], 72) := by decide +kernel
theorem dL_law_104 : decode cL_law 104 = .ok (.aload_n 1, 1) := by decide +kernel
theorem dL_law_105 : decode cL_law 105 = .ok (.aload_n 0, 1) := by decide +kernel
theorem dL_law_106 : decode cL_law 106 = .ok (.iload_n 3, 1) := by decide +kernel
theorem dL_law_107 : decode cL_law 107 = .ok (.iconst 1, 1) := by decide +kernel
theorem dL_law_108 : decode cL_law 108 = .ok (.iadd, 1) := by decide +kernel
theorem dL_law_109 : decode cL_law 109 = .ok (.iaload, 1) := by decide +kernel
theorem dL_law_110 : decode cL_law 110 = .ok (.i2l, 1) := by decide +kernel
theorem dL_law_111 : decode cL_law 111 = .ok (.bipush 32, 2) := by decide +kernel
theorem dL_law_113 : decode cL_law 113 = .ok (.lshl, 1) := by decide +kernel
theorem dL_law_114 : decode cL_law 114 = .ok (.aload_n 0, 1) := by decide +kernel
theorem dL_law_115 : decode cL_law 115 = .ok (.iload_n 3, 1) := by decide +kernel
theorem dL_law_116 : decode cL_law 116 = .ok (.iconst 2, 1) := by decide +kernel
theorem dL_law_117 : decode cL_law 117 = .ok (.iadd, 1) := by decide +kernel
theorem dL_law_118 : decode cL_law 118 = .ok (.iaload, 1) := by decide +kernel
theorem dL_law_119 : decode cL_law 119 = .ok (.i2l, 1) := by decide +kernel
theorem dL_law_120 : decode cL_law 120 = .ok (.ldc2_w 13, 3) := by decide +kernel
theorem dL_law_123 : decode cL_law 123 = .ok (.land, 1) := by decide +kernel
theorem dL_law_124 : decode cL_law 124 = .ok (.lor, 1) := by decide +kernel
theorem dL_law_125 : decode cL_law 125 = .ok (.invokevirtual 15, 3) := by decide +kernel
theorem dL_law_128 : decode cL_law 128 = .ok (.aload_n 2, 1) := by decide +kernel
theorem dL_law_129 : decode cL_law 129 = .ok (.aload_n 0, 1) := by decide +kernel
theorem dL_law_130 : decode cL_law 130 = .ok (.iload_n 3, 1) := by decide +kernel
theorem dL_law_131 : decode cL_law 131 = .ok (.iconst 1, 1) := by decide +kernel
theorem dL_law_132 : decode cL_law 132 = .ok (.iadd, 1) := by decide +kernel
theorem dL_law_133 : decode cL_law 133 = .ok (.iaload, 1) := by decide +kernel
theorem dL_law_134 : decode cL_law 134 = .ok (.i2l, 1) := by decide +kernel
theorem dL_law_135 : decode cL_law 135 = .ok (.bipush 32, 2) := by decide +kernel
theorem dL_law_137 : decode cL_law 137 = .ok (.lshl, 1) := by decide +kernel
theorem dL_law_138 : decode cL_law 138 = .ok (.aload_n 0, 1) := by decide +kernel
theorem dL_law_139 : decode cL_law 139 = .ok (.iload_n 3, 1) := by decide +kernel
theorem dL_law_140 : decode cL_law 140 = .ok (.iconst 2, 1) := by decide +kernel
theorem dL_law_141 : decode cL_law 141 = .ok (.iadd, 1) := by decide +kernel
theorem dL_law_142 : decode cL_law 142 = .ok (.iaload, 1) := by decide +kernel
theorem dL_law_143 : decode cL_law 143 = .ok (.i2l, 1) := by decide +kernel
theorem dL_law_144 : decode cL_law 144 = .ok (.ldc2_w 13, 3) := by decide +kernel
theorem dL_law_147 : decode cL_law 147 = .ok (.land, 1) := by decide +kernel
theorem dL_law_148 : decode cL_law 148 = .ok (.lor, 1) := by decide +kernel
theorem dL_law_149 : decode cL_law 149 = .ok (.invokevirtual 19, 3) := by decide +kernel
theorem dL_law_152 : decode cL_law 152 = .ok (.if_icmp .eq 369, 3) := by decide +kernel
theorem dL_law_155 : decode cL_law 155 = .ok (.iconst 0, 1) := by decide +kernel
theorem dL_law_156 : decode cL_law 156 = .ok (.ireturn, 1) := by decide +kernel
theorem dL_law_157 : decode cL_law 157 = .ok (.aload_n 1, 1) := by decide +kernel
theorem dL_law_158 : decode cL_law 158 = .ok (.invokevirtual 20, 3) := by decide +kernel
theorem dL_law_161 : decode cL_law 161 = .ok (.aload_n 2, 1) := by decide +kernel
theorem dL_law_162 : decode cL_law 162 = .ok (.invokevirtual 23, 3) := by decide +kernel
theorem dL_law_165 : decode cL_law 165 = .ok (.goto 356, 3) := by decide +kernel
theorem dL_law_168 : decode cL_law 168 = .ok (.aload_n 1, 1) := by decide +kernel
theorem dL_law_169 : decode cL_law 169 = .ok (.aload_n 0, 1) := by decide +kernel
theorem dL_law_170 : decode cL_law 170 = .ok (.iload_n 3, 1) := by decide +kernel
theorem dL_law_171 : decode cL_law 171 = .ok (.iconst 1, 1) := by decide +kernel
theorem dL_law_172 : decode cL_law 172 = .ok (.iadd, 1) := by decide +kernel
theorem dL_law_173 : decode cL_law 173 = .ok (.iaload, 1) := by decide +kernel
theorem dL_law_174 : decode cL_law 174 = .ok (.aload_n 0, 1) := by decide +kernel
theorem dL_law_175 : decode cL_law 175 = .ok (.iload_n 3, 1) := by decide +kernel
theorem dL_law_176 : decode cL_law 176 = .ok (.iconst 2, 1) := by decide +kernel
theorem dL_law_177 : decode cL_law 177 = .ok (.iadd, 1) := by decide +kernel
theorem dL_law_178 : decode cL_law 178 = .ok (.iaload, 1) := by decide +kernel
theorem dL_law_179 : decode cL_law 179 = .ok (.invokevirtual 24, 3) := by decide +kernel
theorem dL_law_182 : decode cL_law 182 = .ok (.aload_n 2, 1) := by decide +kernel
theorem dL_law_183 : decode cL_law 183 = .ok (.aload_n 0, 1) := by decide +kernel
theorem dL_law_184 : decode cL_law 184 = .ok (.iload_n 3, 1) := by decide +kernel
theorem dL_law_185 : decode cL_law 185 = .ok (.iconst 1, 1) := by decide +kernel
theorem dL_law_186 : decode cL_law 186 = .ok (.iadd, 1) := by decide +kernel
theorem dL_law_187 : decode cL_law 187 = .ok (.iaload, 1) := by decide +kernel
theorem dL_law_188 : decode cL_law 188 = .ok (.aload_n 0, 1) := by decide +kernel
theorem dL_law_189 : decode cL_law 189 = .ok (.iload_n 3, 1) := by decide +kernel
theorem dL_law_190 : decode cL_law 190 = .ok (.iconst 2, 1) := by decide +kernel
theorem dL_law_191 : decode cL_law 191 = .ok (.iadd, 1) := by decide +kernel
theorem dL_law_192 : decode cL_law 192 = .ok (.iaload, 1) := by decide +kernel
theorem dL_law_193 : decode cL_law 193 = .ok (.invokevirtual 28, 3) := by decide +kernel
theorem dL_law_196 : decode cL_law 196 = .ok (.if_icmp .eq 325, 3) := by decide +kernel
theorem dL_law_199 : decode cL_law 199 = .ok (.iconst 0, 1) := by decide +kernel
theorem dL_law_200 : decode cL_law 200 = .ok (.ireturn, 1) := by decide +kernel
theorem dL_law_201 : decode cL_law 201 = .ok (.aload_n 1, 1) := by decide +kernel
theorem dL_law_202 : decode cL_law 202 = .ok (.aload_n 0, 1) := by decide +kernel
theorem dL_law_203 : decode cL_law 203 = .ok (.iload_n 3, 1) := by decide +kernel
theorem dL_law_204 : decode cL_law 204 = .ok (.iconst 1, 1) := by decide +kernel
theorem dL_law_205 : decode cL_law 205 = .ok (.iadd, 1) := by decide +kernel
theorem dL_law_206 : decode cL_law 206 = .ok (.iaload, 1) := by decide +kernel
theorem dL_law_207 : decode cL_law 207 = .ok (.aload_n 0, 1) := by decide +kernel
theorem dL_law_208 : decode cL_law 208 = .ok (.iload_n 3, 1) := by decide +kernel
theorem dL_law_209 : decode cL_law 209 = .ok (.iconst 2, 1) := by decide +kernel
theorem dL_law_210 : decode cL_law 210 = .ok (.iadd, 1) := by decide +kernel
theorem dL_law_211 : decode cL_law 211 = .ok (.iaload, 1) := by decide +kernel
theorem dL_law_212 : decode cL_law 212 = .ok (.aload_n 0, 1) := by decide +kernel
theorem dL_law_213 : decode cL_law 213 = .ok (.iload_n 3, 1) := by decide +kernel
theorem dL_law_214 : decode cL_law 214 = .ok (.iconst 3, 1) := by decide +kernel
theorem dL_law_215 : decode cL_law 215 = .ok (.iadd, 1) := by decide +kernel
theorem dL_law_216 : decode cL_law 216 = .ok (.iaload, 1) := by decide +kernel
theorem dL_law_217 : decode cL_law 217 = .ok (.ifCond .eq 7, 3) := by decide +kernel
theorem dL_law_220 : decode cL_law 220 = .ok (.iconst 1, 1) := by decide +kernel
theorem dL_law_221 : decode cL_law 221 = .ok (.goto 4, 3) := by decide +kernel
theorem dL_law_224 : decode cL_law 224 = .ok (.iconst 0, 1) := by decide +kernel
theorem dL_law_225 : decode cL_law 225 = .ok (.invokevirtual 29, 3) := by decide +kernel
theorem dL_law_228 : decode cL_law 228 = .ok (.aload_n 2, 1) := by decide +kernel
theorem dL_law_229 : decode cL_law 229 = .ok (.aload_n 0, 1) := by decide +kernel
theorem dL_law_230 : decode cL_law 230 = .ok (.iload_n 3, 1) := by decide +kernel
theorem dL_law_231 : decode cL_law 231 = .ok (.iconst 1, 1) := by decide +kernel
theorem dL_law_232 : decode cL_law 232 = .ok (.iadd, 1) := by decide +kernel
theorem dL_law_233 : decode cL_law 233 = .ok (.iaload, 1) := by decide +kernel
theorem dL_law_234 : decode cL_law 234 = .ok (.aload_n 0, 1) := by decide +kernel
theorem dL_law_235 : decode cL_law 235 = .ok (.iload_n 3, 1) := by decide +kernel
theorem dL_law_236 : decode cL_law 236 = .ok (.iconst 2, 1) := by decide +kernel
theorem dL_law_237 : decode cL_law 237 = .ok (.iadd, 1) := by decide +kernel
theorem dL_law_238 : decode cL_law 238 = .ok (.iaload, 1) := by decide +kernel
theorem dL_law_239 : decode cL_law 239 = .ok (.aload_n 0, 1) := by decide +kernel
theorem dL_law_240 : decode cL_law 240 = .ok (.iload_n 3, 1) := by decide +kernel
theorem dL_law_241 : decode cL_law 241 = .ok (.iconst 3, 1) := by decide +kernel
theorem dL_law_242 : decode cL_law 242 = .ok (.iadd, 1) := by decide +kernel
theorem dL_law_243 : decode cL_law 243 = .ok (.iaload, 1) := by decide +kernel
theorem dL_law_244 : decode cL_law 244 = .ok (.ifCond .eq 7, 3) := by decide +kernel
theorem dL_law_247 : decode cL_law 247 = .ok (.iconst 1, 1) := by decide +kernel
theorem dL_law_248 : decode cL_law 248 = .ok (.goto 4, 3) := by decide +kernel
theorem dL_law_251 : decode cL_law 251 = .ok (.iconst 0, 1) := by decide +kernel
theorem dL_law_252 : decode cL_law 252 = .ok (.invokevirtual 33, 3) := by decide +kernel
theorem dL_law_255 : decode cL_law 255 = .ok (.if_icmp .eq 266, 3) := by decide +kernel
theorem dL_law_258 : decode cL_law 258 = .ok (.iconst 0, 1) := by decide +kernel
theorem dL_law_259 : decode cL_law 259 = .ok (.ireturn, 1) := by decide +kernel
theorem dL_law_260 : decode cL_law 260 = .ok (.aload_n 1, 1) := by decide +kernel
theorem dL_law_261 : decode cL_law 261 = .ok (.aload_n 0, 1) := by decide +kernel
theorem dL_law_262 : decode cL_law 262 = .ok (.iload_n 3, 1) := by decide +kernel
theorem dL_law_263 : decode cL_law 263 = .ok (.iconst 1, 1) := by decide +kernel
theorem dL_law_264 : decode cL_law 264 = .ok (.iadd, 1) := by decide +kernel
theorem dL_law_265 : decode cL_law 265 = .ok (.iaload, 1) := by decide +kernel
theorem dL_law_266 : decode cL_law 266 = .ok (.i2l, 1) := by decide +kernel
theorem dL_law_267 : decode cL_law 267 = .ok (.bipush 32, 2) := by decide +kernel
theorem dL_law_269 : decode cL_law 269 = .ok (.lshl, 1) := by decide +kernel
theorem dL_law_270 : decode cL_law 270 = .ok (.aload_n 0, 1) := by decide +kernel
theorem dL_law_271 : decode cL_law 271 = .ok (.iload_n 3, 1) := by decide +kernel
theorem dL_law_272 : decode cL_law 272 = .ok (.iconst 2, 1) := by decide +kernel
theorem dL_law_273 : decode cL_law 273 = .ok (.iadd, 1) := by decide +kernel
theorem dL_law_274 : decode cL_law 274 = .ok (.iaload, 1) := by decide +kernel
theorem dL_law_275 : decode cL_law 275 = .ok (.i2l, 1) := by decide +kernel
theorem dL_law_276 : decode cL_law 276 = .ok (.ldc2_w 13, 3) := by decide +kernel
theorem dL_law_279 : decode cL_law 279 = .ok (.land, 1) := by decide +kernel
theorem dL_law_280 : decode cL_law 280 = .ok (.lor, 1) := by decide +kernel
theorem dL_law_281 : decode cL_law 281 = .ok (.invokevirtual 34, 3) := by decide +kernel
theorem dL_law_284 : decode cL_law 284 = .ok (.aload_n 2, 1) := by decide +kernel
theorem dL_law_285 : decode cL_law 285 = .ok (.aload_n 0, 1) := by decide +kernel
theorem dL_law_286 : decode cL_law 286 = .ok (.iload_n 3, 1) := by decide +kernel
theorem dL_law_287 : decode cL_law 287 = .ok (.iconst 1, 1) := by decide +kernel
theorem dL_law_288 : decode cL_law 288 = .ok (.iadd, 1) := by decide +kernel
theorem dL_law_289 : decode cL_law 289 = .ok (.iaload, 1) := by decide +kernel
theorem dL_law_290 : decode cL_law 290 = .ok (.i2l, 1) := by decide +kernel
theorem dL_law_291 : decode cL_law 291 = .ok (.bipush 32, 2) := by decide +kernel
theorem dL_law_293 : decode cL_law 293 = .ok (.lshl, 1) := by decide +kernel
theorem dL_law_294 : decode cL_law 294 = .ok (.aload_n 0, 1) := by decide +kernel
theorem dL_law_295 : decode cL_law 295 = .ok (.iload_n 3, 1) := by decide +kernel
theorem dL_law_296 : decode cL_law 296 = .ok (.iconst 2, 1) := by decide +kernel
theorem dL_law_297 : decode cL_law 297 = .ok (.iadd, 1) := by decide +kernel
theorem dL_law_298 : decode cL_law 298 = .ok (.iaload, 1) := by decide +kernel
theorem dL_law_299 : decode cL_law 299 = .ok (.i2l, 1) := by decide +kernel
theorem dL_law_300 : decode cL_law 300 = .ok (.ldc2_w 13, 3) := by decide +kernel
theorem dL_law_303 : decode cL_law 303 = .ok (.land, 1) := by decide +kernel
theorem dL_law_304 : decode cL_law 304 = .ok (.lor, 1) := by decide +kernel
theorem dL_law_305 : decode cL_law 305 = .ok (.invokevirtual 37, 3) := by decide +kernel
theorem dL_law_308 : decode cL_law 308 = .ok (.if_icmp .eq 213, 3) := by decide +kernel
theorem dL_law_311 : decode cL_law 311 = .ok (.iconst 0, 1) := by decide +kernel
theorem dL_law_312 : decode cL_law 312 = .ok (.ireturn, 1) := by decide +kernel
theorem dL_law_313 : decode cL_law 313 = .ok (.aload_n 1, 1) := by decide +kernel
theorem dL_law_314 : decode cL_law 314 = .ok (.invokevirtual 38, 3) := by decide +kernel
theorem dL_law_317 : decode cL_law 317 = .ok (.aload_n 2, 1) := by decide +kernel
theorem dL_law_318 : decode cL_law 318 = .ok (.invokevirtual 41, 3) := by decide +kernel
theorem dL_law_321 : decode cL_law 321 = .ok (.goto 200, 3) := by decide +kernel
theorem dL_law_324 : decode cL_law 324 = .ok (.aload_n 1, 1) := by decide +kernel
theorem dL_law_325 : decode cL_law 325 = .ok (.invokevirtual 42, 3) := by decide +kernel
theorem dL_law_328 : decode cL_law 328 = .ok (.aload_n 2, 1) := by decide +kernel
theorem dL_law_329 : decode cL_law 329 = .ok (.invokevirtual 46, 3) := by decide +kernel
theorem dL_law_332 : decode cL_law 332 = .ok (.if_icmp .eq 189, 3) := by decide +kernel
theorem dL_law_335 : decode cL_law 335 = .ok (.iconst 0, 1) := by decide +kernel
theorem dL_law_336 : decode cL_law 336 = .ok (.ireturn, 1) := by decide +kernel
theorem dL_law_337 : decode cL_law 337 = .ok (.aload_n 1, 1) := by decide +kernel
theorem dL_law_338 : decode cL_law 338 = .ok (.aload_n 0, 1) := by decide +kernel
theorem dL_law_339 : decode cL_law 339 = .ok (.iload_n 3, 1) := by decide +kernel
theorem dL_law_340 : decode cL_law 340 = .ok (.iconst 1, 1) := by decide +kernel
theorem dL_law_341 : decode cL_law 341 = .ok (.iadd, 1) := by decide +kernel
theorem dL_law_342 : decode cL_law 342 = .ok (.iaload, 1) := by decide +kernel
theorem dL_law_343 : decode cL_law 343 = .ok (.invokevirtual 47, 3) := by decide +kernel
theorem dL_law_346 : decode cL_law 346 = .ok (.aload_n 2, 1) := by decide +kernel
theorem dL_law_347 : decode cL_law 347 = .ok (.aload_n 0, 1) := by decide +kernel
theorem dL_law_348 : decode cL_law 348 = .ok (.iload_n 3, 1) := by decide +kernel
theorem dL_law_349 : decode cL_law 349 = .ok (.iconst 1, 1) := by decide +kernel
theorem dL_law_350 : decode cL_law 350 = .ok (.iadd, 1) := by decide +kernel
theorem dL_law_351 : decode cL_law 351 = .ok (.iaload, 1) := by decide +kernel
theorem dL_law_352 : decode cL_law 352 = .ok (.invokevirtual 51, 3) := by decide +kernel
theorem dL_law_355 : decode cL_law 355 = .ok (.lcmp, 1) := by decide +kernel
theorem dL_law_356 : decode cL_law 356 = .ok (.ifCond .eq 165, 3) := by decide +kernel
theorem dL_law_359 : decode cL_law 359 = .ok (.iconst 0, 1) := by decide +kernel
theorem dL_law_360 : decode cL_law 360 = .ok (.ireturn, 1) := by decide +kernel
theorem dL_law_361 : decode cL_law 361 = .ok (.aload_n 1, 1) := by decide +kernel
theorem dL_law_362 : decode cL_law 362 = .ok (.invokevirtual 52, 3) := by decide +kernel
theorem dL_law_365 : decode cL_law 365 = .ok (.aload_n 2, 1) := by decide +kernel
theorem dL_law_366 : decode cL_law 366 = .ok (.invokevirtual 55, 3) := by decide +kernel
theorem dL_law_369 : decode cL_law 369 = .ok (.if_icmp .eq 152, 3) := by decide +kernel
theorem dL_law_372 : decode cL_law 372 = .ok (.iconst 0, 1) := by decide +kernel
theorem dL_law_373 : decode cL_law 373 = .ok (.ireturn, 1) := by decide +kernel
theorem dL_law_374 : decode cL_law 374 = .ok (.aload_n 1, 1) := by decide +kernel
theorem dL_law_375 : decode cL_law 375 = .ok (.invokevirtual 56, 3) := by decide +kernel
theorem dL_law_378 : decode cL_law 378 = .ok (.aload_n 2, 1) := by decide +kernel
theorem dL_law_379 : decode cL_law 379 = .ok (.invokevirtual 59, 3) := by decide +kernel
theorem dL_law_382 : decode cL_law 382 = .ok (.if_icmp .eq 139, 3) := by decide +kernel
theorem dL_law_385 : decode cL_law 385 = .ok (.iconst 0, 1) := by decide +kernel
theorem dL_law_386 : decode cL_law 386 = .ok (.ireturn, 1) := by decide +kernel
theorem dL_law_387 : decode cL_law 387 = .ok (.aload_n 1, 1) := by decide +kernel
theorem dL_law_388 : decode cL_law 388 = .ok (.aload_n 0, 1) := by decide +kernel
theorem dL_law_389 : decode cL_law 389 = .ok (.iload_n 3, 1) := by decide +kernel
theorem dL_law_390 : decode cL_law 390 = .ok (.iconst 1, 1) := by decide +kernel
theorem dL_law_391 : decode cL_law 391 = .ok (.iadd, 1) := by decide +kernel
theorem dL_law_392 : decode cL_law 392 = .ok (.iaload, 1) := by decide +kernel
theorem dL_law_393 : decode cL_law 393 = .ok (.invokevirtual 60, 3) := by decide +kernel
theorem dL_law_396 : decode cL_law 396 = .ok (.aload_n 2, 1) := by decide +kernel
theorem dL_law_397 : decode cL_law 397 = .ok (.aload_n 0, 1) := by decide +kernel
theorem dL_law_398 : decode cL_law 398 = .ok (.iload_n 3, 1) := by decide +kernel
theorem dL_law_399 : decode cL_law 399 = .ok (.iconst 1, 1) := by decide +kernel
theorem dL_law_400 : decode cL_law 400 = .ok (.iadd, 1) := by decide +kernel
theorem dL_law_401 : decode cL_law 401 = .ok (.iaload, 1) := by decide +kernel
theorem dL_law_402 : decode cL_law 402 = .ok (.invokevirtual 64, 3) := by decide +kernel
theorem dL_law_405 : decode cL_law 405 = .ok (.if_icmp .eq 116, 3) := by decide +kernel
theorem dL_law_408 : decode cL_law 408 = .ok (.iconst 0, 1) := by decide +kernel
theorem dL_law_409 : decode cL_law 409 = .ok (.ireturn, 1) := by decide +kernel
theorem dL_law_410 : decode cL_law 410 = .ok (.aload_n 1, 1) := by decide +kernel
theorem dL_law_411 : decode cL_law 411 = .ok (.aload_n 0, 1) := by decide +kernel
theorem dL_law_412 : decode cL_law 412 = .ok (.iload_n 3, 1) := by decide +kernel
theorem dL_law_413 : decode cL_law 413 = .ok (.iconst 1, 1) := by decide +kernel
theorem dL_law_414 : decode cL_law 414 = .ok (.iadd, 1) := by decide +kernel
theorem dL_law_415 : decode cL_law 415 = .ok (.iaload, 1) := by decide +kernel
theorem dL_law_416 : decode cL_law 416 = .ok (.aload_n 0, 1) := by decide +kernel
theorem dL_law_417 : decode cL_law 417 = .ok (.iload_n 3, 1) := by decide +kernel
theorem dL_law_418 : decode cL_law 418 = .ok (.iconst 2, 1) := by decide +kernel
theorem dL_law_419 : decode cL_law 419 = .ok (.iadd, 1) := by decide +kernel
theorem dL_law_420 : decode cL_law 420 = .ok (.iaload, 1) := by decide +kernel
theorem dL_law_421 : decode cL_law 421 = .ok (.invokevirtual 65, 3) := by decide +kernel
theorem dL_law_424 : decode cL_law 424 = .ok (.aload_n 2, 1) := by decide +kernel
theorem dL_law_425 : decode cL_law 425 = .ok (.aload_n 0, 1) := by decide +kernel
theorem dL_law_426 : decode cL_law 426 = .ok (.iload_n 3, 1) := by decide +kernel
theorem dL_law_427 : decode cL_law 427 = .ok (.iconst 1, 1) := by decide +kernel
theorem dL_law_428 : decode cL_law 428 = .ok (.iadd, 1) := by decide +kernel
theorem dL_law_429 : decode cL_law 429 = .ok (.iaload, 1) := by decide +kernel
theorem dL_law_430 : decode cL_law 430 = .ok (.aload_n 0, 1) := by decide +kernel
theorem dL_law_431 : decode cL_law 431 = .ok (.iload_n 3, 1) := by decide +kernel
theorem dL_law_432 : decode cL_law 432 = .ok (.iconst 2, 1) := by decide +kernel
theorem dL_law_433 : decode cL_law 433 = .ok (.iadd, 1) := by decide +kernel
theorem dL_law_434 : decode cL_law 434 = .ok (.iaload, 1) := by decide +kernel
theorem dL_law_435 : decode cL_law 435 = .ok (.invokevirtual 69, 3) := by decide +kernel
theorem dL_law_438 : decode cL_law 438 = .ok (.lcmp, 1) := by decide +kernel
theorem dL_law_439 : decode cL_law 439 = .ok (.ifCond .eq 82, 3) := by decide +kernel
theorem dL_law_442 : decode cL_law 442 = .ok (.iconst 0, 1) := by decide +kernel
theorem dL_law_443 : decode cL_law 443 = .ok (.ireturn, 1) := by decide +kernel
theorem dL_law_444 : decode cL_law 444 = .ok (.aload_n 1, 1) := by decide +kernel
theorem dL_law_445 : decode cL_law 445 = .ok (.aload_n 0, 1) := by decide +kernel
theorem dL_law_446 : decode cL_law 446 = .ok (.iload_n 3, 1) := by decide +kernel
theorem dL_law_447 : decode cL_law 447 = .ok (.iconst 1, 1) := by decide +kernel
theorem dL_law_448 : decode cL_law 448 = .ok (.iadd, 1) := by decide +kernel
theorem dL_law_449 : decode cL_law 449 = .ok (.iaload, 1) := by decide +kernel
theorem dL_law_450 : decode cL_law 450 = .ok (.aload_n 0, 1) := by decide +kernel
theorem dL_law_451 : decode cL_law 451 = .ok (.iload_n 3, 1) := by decide +kernel
theorem dL_law_452 : decode cL_law 452 = .ok (.iconst 2, 1) := by decide +kernel
theorem dL_law_453 : decode cL_law 453 = .ok (.iadd, 1) := by decide +kernel
theorem dL_law_454 : decode cL_law 454 = .ok (.iaload, 1) := by decide +kernel
theorem dL_law_455 : decode cL_law 455 = .ok (.invokevirtual 70, 3) := by decide +kernel
theorem dL_law_458 : decode cL_law 458 = .ok (.aload_n 2, 1) := by decide +kernel
theorem dL_law_459 : decode cL_law 459 = .ok (.aload_n 0, 1) := by decide +kernel
theorem dL_law_460 : decode cL_law 460 = .ok (.iload_n 3, 1) := by decide +kernel
theorem dL_law_461 : decode cL_law 461 = .ok (.iconst 1, 1) := by decide +kernel
theorem dL_law_462 : decode cL_law 462 = .ok (.iadd, 1) := by decide +kernel
theorem dL_law_463 : decode cL_law 463 = .ok (.iaload, 1) := by decide +kernel
theorem dL_law_464 : decode cL_law 464 = .ok (.aload_n 0, 1) := by decide +kernel
theorem dL_law_465 : decode cL_law 465 = .ok (.iload_n 3, 1) := by decide +kernel
theorem dL_law_466 : decode cL_law 466 = .ok (.iconst 2, 1) := by decide +kernel
theorem dL_law_467 : decode cL_law 467 = .ok (.iadd, 1) := by decide +kernel
theorem dL_law_468 : decode cL_law 468 = .ok (.iaload, 1) := by decide +kernel
theorem dL_law_469 : decode cL_law 469 = .ok (.invokevirtual 74, 3) := by decide +kernel
theorem dL_law_472 : decode cL_law 472 = .ok (.if_icmp .eq 49, 3) := by decide +kernel
theorem dL_law_475 : decode cL_law 475 = .ok (.iconst 0, 1) := by decide +kernel
theorem dL_law_476 : decode cL_law 476 = .ok (.ireturn, 1) := by decide +kernel
theorem dL_law_477 : decode cL_law 477 = .ok (.aload_n 1, 1) := by decide +kernel
theorem dL_law_478 : decode cL_law 478 = .ok (.aload_n 0, 1) := by decide +kernel
theorem dL_law_479 : decode cL_law 479 = .ok (.iload_n 3, 1) := by decide +kernel
theorem dL_law_480 : decode cL_law 480 = .ok (.iconst 1, 1) := by decide +kernel
theorem dL_law_481 : decode cL_law 481 = .ok (.iadd, 1) := by decide +kernel
theorem dL_law_482 : decode cL_law 482 = .ok (.iaload, 1) := by decide +kernel
theorem dL_law_483 : decode cL_law 483 = .ok (.aload_n 0, 1) := by decide +kernel
theorem dL_law_484 : decode cL_law 484 = .ok (.iload_n 3, 1) := by decide +kernel
theorem dL_law_485 : decode cL_law 485 = .ok (.iconst 2, 1) := by decide +kernel
theorem dL_law_486 : decode cL_law 486 = .ok (.iadd, 1) := by decide +kernel
theorem dL_law_487 : decode cL_law 487 = .ok (.iaload, 1) := by decide +kernel
theorem dL_law_488 : decode cL_law 488 = .ok (.aload_n 0, 1) := by decide +kernel
theorem dL_law_489 : decode cL_law 489 = .ok (.iload_n 3, 1) := by decide +kernel
theorem dL_law_490 : decode cL_law 490 = .ok (.iconst 3, 1) := by decide +kernel
theorem dL_law_491 : decode cL_law 491 = .ok (.iadd, 1) := by decide +kernel
theorem dL_law_492 : decode cL_law 492 = .ok (.iaload, 1) := by decide +kernel
theorem dL_law_493 : decode cL_law 493 = .ok (.invokevirtual 75, 3) := by decide +kernel
theorem dL_law_496 : decode cL_law 496 = .ok (.aload_n 2, 1) := by decide +kernel
theorem dL_law_497 : decode cL_law 497 = .ok (.aload_n 0, 1) := by decide +kernel
theorem dL_law_498 : decode cL_law 498 = .ok (.iload_n 3, 1) := by decide +kernel
theorem dL_law_499 : decode cL_law 499 = .ok (.iconst 1, 1) := by decide +kernel
theorem dL_law_500 : decode cL_law 500 = .ok (.iadd, 1) := by decide +kernel
theorem dL_law_501 : decode cL_law 501 = .ok (.iaload, 1) := by decide +kernel
theorem dL_law_502 : decode cL_law 502 = .ok (.aload_n 0, 1) := by decide +kernel
theorem dL_law_503 : decode cL_law 503 = .ok (.iload_n 3, 1) := by decide +kernel
theorem dL_law_504 : decode cL_law 504 = .ok (.iconst 2, 1) := by decide +kernel
theorem dL_law_505 : decode cL_law 505 = .ok (.iadd, 1) := by decide +kernel
theorem dL_law_506 : decode cL_law 506 = .ok (.iaload, 1) := by decide +kernel
theorem dL_law_507 : decode cL_law 507 = .ok (.aload_n 0, 1) := by decide +kernel
theorem dL_law_508 : decode cL_law 508 = .ok (.iload_n 3, 1) := by decide +kernel
theorem dL_law_509 : decode cL_law 509 = .ok (.iconst 3, 1) := by decide +kernel
theorem dL_law_510 : decode cL_law 510 = .ok (.iadd, 1) := by decide +kernel
theorem dL_law_511 : decode cL_law 511 = .ok (.iaload, 1) := by decide +kernel
theorem dL_law_512 : decode cL_law 512 = .ok (.invokevirtual 79, 3) := by decide +kernel
theorem dL_law_515 : decode cL_law 515 = .ok (.lcmp, 1) := by decide +kernel
theorem dL_law_516 : decode cL_law 516 = .ok (.ifCond .eq 5, 3) := by decide +kernel
theorem dL_law_519 : decode cL_law 519 = .ok (.iconst 0, 1) := by decide +kernel
theorem dL_law_520 : decode cL_law 520 = .ok (.ireturn, 1) := by decide +kernel
theorem dL_law_521 : decode cL_law 521 = .ok (.iinc 3 4, 3) := by decide +kernel
theorem dL_law_524 : decode cL_law 524 = .ok (.goto (-506), 3) := by decide +kernel
theorem dL_law_527 : decode cL_law 527 = .ok (.iconst 1, 1) := by decide +kernel
theorem dL_law_528 : decode cL_law 528 = .ok (.ireturn, 1) := by decide +kernel
