theorem dX10_init_0 : decode cX10_init 0 = .ok (.aload_n 0, 1) := by decide +kernel
theorem dX10_init_1 : decode cX10_init 1 = .ok (.invokespecial 1, 3) := by decide +kernel
theorem dX10_init_4 : decode cX10_init 4 = .ok (.aload_n 0, 1) := by decide +kernel
theorem dX10_init_5 : decode cX10_init 5 = .ok (.new 7, 3) := by decide +kernel
theorem dX10_init_8 : decode cX10_init 8 = .ok (.dup, 1) := by decide +kernel
theorem dX10_init_9 : decode cX10_init 9 = .ok (.invokespecial 9, 3) := by decide +kernel
theorem dX10_init_12 : decode cX10_init 12 = .ok (.putfield 10, 3) := by decide +kernel
theorem dX10_init_15 : decode cX10_init 15 = .ok (.aload_n 0, 1) := by decide +kernel
theorem dX10_init_16 : decode cX10_init 16 = .ok (.new 7, 3) := by decide +kernel
theorem dX10_init_19 : decode cX10_init 19 = .ok (.dup, 1) := by decide +kernel
theorem dX10_init_20 : decode cX10_init 20 = .ok (.invokespecial 9, 3) := by decide +kernel
theorem dX10_init_23 : decode cX10_init 23 = .ok (.putfield 16, 3) := by decide +kernel
theorem dX10_init_26 : decode cX10_init 26 = .ok (.aload_n 0, 1) := by decide +kernel
theorem dX10_init_27 : decode cX10_init 27 = .ok (.new 7, 3) := by decide +kernel
theorem dX10_init_30 : decode cX10_init 30 = .ok (.dup, 1) := by decide +kernel
theorem dX10_init_31 : decode cX10_init 31 = .ok (.invokespecial 9, 3) := by decide +kernel
theorem dX10_init_34 : decode cX10_init 34 = .ok (.putfield 19, 3) := by decide +kernel
theorem dX10_init_37 : decode cX10_init 37 = .ok (.aload_n 0, 1) := by decide +kernel
theorem dX10_init_38 : decode cX10_init 38 = .ok (.new 22, 3) := by decide +kernel
theorem dX10_init_41 : decode cX10_init 41 = .ok (.dup, 1) := by decide +kernel
theorem dX10_init_42 : decode cX10_init 42 = .ok (.invokespecial 24, 3) := by decide +kernel
theorem dX10_init_45 : decode cX10_init 45 = .ok (.putfield 25, 3) := by decide +kernel
theorem dX10_init_48 : decode cX10_init 48 = .ok (.aload_n 0, 1) := by decide +kernel
theorem dX10_init_49 : decode cX10_init 49 = .ok (.new 29, 3) := by decide +kernel
theorem dX10_init_52 : decode cX10_init 52 = .ok (.dup, 1) := by decide +kernel
theorem dX10_init_53 : decode cX10_init 53 = .ok (.invokespecial 31, 3) := by decide +kernel
theorem dX10_init_56 : decode cX10_init 56 = .ok (.putfield 32, 3) := by decide +kernel
theorem dX10_init_59 : decode cX10_init 59 = .ok (.aload_n 0, 1) := by decide +kernel
theorem dX10_init_60 : decode cX10_init 60 = .ok (.new 36, 3) := by decide +kernel
theorem dX10_init_63 : decode cX10_init 63 = .ok (.dup, 1) := by decide +kernel
theorem dX10_init_64 : decode cX10_init 64 = .ok (.invokespecial 38, 3) := by decide +kernel
theorem dX10_init_67 : decode cX10_init 67 = .ok (.putfield 39, 3) := by decide +kernel
theorem dX10_init_70 : decode cX10_init 70 = .ok (.aload_n 0, 1) := by decide +kernel
theorem dX10_init_71 : decode cX10_init 71 = .ok (.new 43, 3) := by decide +kernel
theorem dX10_init_74 : decode cX10_init 74 = .ok (.dup, 1) := by decide +kernel
theorem dX10_init_75 : decode cX10_init 75 = .ok (.invokespecial 45, 3) := by decide +kernel
theorem dX10_init_78 : decode cX10_init 78 = .ok (.putfield 46, 3) := by decide +kernel
theorem dX10_init_81 : decode cX10_init 81 = .ok (.aload_n 0, 1) := by decide +kernel
theorem dX10_init_82 : decode cX10_init 82 = .ok (.iconst 0, 1) := by decide +kernel
theorem dX10_init_83 : decode cX10_init 83 = .ok (.putfield 50, 3) := by decide +kernel
theorem dX10_init_86 : decode cX10_init 86 = .ok (.aload_n 0, 1) := by decide +kernel
theorem dX10_init_87 : decode cX10_init 87 = .ok (.iconst 1, 1) := by decide +kernel
theorem dX10_init_88 : decode cX10_init 88 = .ok (.putfield 54, 3) := by decide +kernel
theorem dX10_init_91 : decode cX10_init 91 = .ok (.return_, 1) := by decide +kernel
theorem dX10_feed_0 : decode cX10_feed 0 = .ok (.aload_n 0, 1) := by decide +kernel
theorem dX10_feed_1 : decode cX10_feed 1 = .ok (.getfield 32, 3) := by decide +kernel
theorem dX10_feed_4 : decode cX10_feed 4 = .ok (.invokevirtual 57, 3) := by decide +kernel
theorem dX10_feed_7 : decode cX10_feed 7 = .ok (.ifCond .ne 5, 3) := by decide +kernel
theorem dX10_feed_10 : decode cX10_feed 10 = .ok (.iconst (-1), 1) := by decide +kernel
theorem dX10_feed_11 : decode cX10_feed 11 = .ok (.ireturn, 1) := by decide +kernel
theorem dX10_feed_12 : decode cX10_feed 12 = .ok (.aload_n 0, 1) := by decide +kernel
theorem dX10_feed_13 : decode cX10_feed 13 = .ok (.getfield 32, 3) := by decide +kernel
theorem dX10_feed_16 : decode cX10_feed 16 = .ok (.iload_n 1, 1) := by decide +kernel
theorem dX10_feed_17 : decode cX10_feed 17 = .ok (.invokevirtual 61, 3) := by decide +kernel
theorem dX10_feed_20 : decode cX10_feed 20 = .ok (.aload_n 0, 1) := by decide +kernel
theorem dX10_feed_21 : decode cX10_feed 21 = .ok (.getfield 32, 3) := by decide +kernel
theorem dX10_feed_24 : decode cX10_feed 24 = .ok (.iload_n 2, 1) := by decide +kernel
theorem dX10_feed_25 : decode cX10_feed 25 = .ok (.invokevirtual 61, 3) := by decide +kernel
theorem dX10_feed_28 : decode cX10_feed 28 = .ok (.aload_n 0, 1) := by decide +kernel
theorem dX10_feed_29 : decode cX10_feed 29 = .ok (.getfield 32, 3) := by decide +kernel
theorem dX10_feed_32 : decode cX10_feed 32 = .ok (.iload_n 3, 1) := by decide +kernel
theorem dX10_feed_33 : decode cX10_feed 33 = .ok (.invokevirtual 61, 3) := by decide +kernel
theorem dX10_feed_36 : decode cX10_feed 36 = .ok (.aload_n 0, 1) := by decide +kernel
theorem dX10_feed_37 : decode cX10_feed 37 = .ok (.getfield 32, 3) := by decide +kernel
theorem dX10_feed_40 : decode cX10_feed 40 = .ok (.iload 4, 2) := by decide +kernel
theorem dX10_feed_42 : decode cX10_feed 42 = .ok (.invokevirtual 61, 3) := by decide +kernel
theorem dX10_feed_45 : decode cX10_feed 45 = .ok (.aload_n 0, 1) := by decide +kernel
theorem dX10_feed_46 : decode cX10_feed 46 = .ok (.getfield 32, 3) := by decide +kernel
theorem dX10_feed_49 : decode cX10_feed 49 = .ok (.iload 5, 2) := by decide +kernel
theorem dX10_feed_51 : decode cX10_feed 51 = .ok (.invokevirtual 61, 3) := by decide +kernel
theorem dX10_feed_54 : decode cX10_feed 54 = .ok (.aload_n 0, 1) := by decide +kernel
theorem dX10_feed_55 : decode cX10_feed 55 = .ok (.getfield 32, 3) := by decide +kernel
theorem dX10_feed_58 : decode cX10_feed 58 = .ok (.getfield 65, 3) := by decide +kernel
theorem dX10_feed_61 : decode cX10_feed 61 = .ok (.ireturn, 1) := by decide +kernel
theorem dX10_end_0 : decode cX10_end 0 = .ok (.aload_n 0, 1) := by decide +kernel
theorem dX10_end_1 : decode cX10_end 1 = .ok (.getfield 32, 3) := by decide +kernel
theorem dX10_end_4 : decode cX10_end 4 = .ok (.iload_n 1, 1) := by decide +kernel
theorem dX10_end_5 : decode cX10_end 5 = .ok (.invokevirtual 69, 3) := by decide +kernel
theorem dX10_end_8 : decode cX10_end 8 = .ok (.ireturn, 1) := by decide +kernel
theorem dX10_acts_0 : decode cX10_acts 0 = .ok (.aload_n 0, 1) := by decide +kernel
theorem dX10_acts_1 : decode cX10_acts 1 = .ok (.getfield 32, 3) := by decide +kernel
theorem dX10_acts_4 : decode cX10_acts 4 = .ok (.aload_n 0, 1) := by decide +kernel
theorem dX10_acts_5 : decode cX10_acts 5 = .ok (.getfield 10, 3) := by decide +kernel
theorem dX10_acts_8 : decode cX10_acts 8 = .ok (.invokevirtual 73, 3) := by decide +kernel
theorem dX10_acts_11 : decode cX10_acts 11 = .ok (.istore_n 1, 1) := by decide +kernel
theorem dX10_acts_12 : decode cX10_acts 12 = .ok (.aload_n 0, 1) := by decide +kernel
theorem dX10_acts_13 : decode cX10_acts 13 = .ok (.getfield 32, 3) := by decide +kernel
theorem dX10_acts_16 : decode cX10_acts 16 = .ok (.getfield 77, 3) := by decide +kernel
theorem dX10_acts_19 : decode cX10_acts 19 = .ok (.iconst (-1), 1) := by decide +kernel
theorem dX10_acts_20 : decode cX10_acts 20 = .ok (.if_icmp .eq 13, 3) := by decide +kernel
theorem dX10_acts_23 : decode cX10_acts 23 = .ok (.new 80, 3) := by decide +kernel
theorem dX10_acts_26 : decode cX10_acts 26 = .ok (.dup, 1) := by decide +kernel
theorem dX10_acts_27 : decode cX10_acts 27 = .ok (.ldc 82, 2) := by decide +kernel
theorem dX10_acts_29 : decode cX10_acts 29 = .ok (.invokespecial 84, 3) := by decide +kernel
theorem dX10_acts_32 : decode cX10_acts 32 = .ok (.athrow, 1) := by decide +kernel
theorem dX10_acts_33 : decode cX10_acts 33 = .ok (.aload_n 0, 1) := by decide +kernel
theorem dX10_acts_34 : decode cX10_acts 34 = .ok (.getfield 25, 3) := by decide +kernel
theorem dX10_acts_37 : decode cX10_acts 37 = .ok (.invokevirtual 87, 3) := by decide +kernel
theorem dX10_acts_40 : decode cX10_acts 40 = .ok (.aload_n 0, 1) := by decide +kernel
theorem dX10_acts_41 : decode cX10_acts 41 = .ok (.aload_n 0, 1) := by decide +kernel
theorem dX10_acts_42 : decode cX10_acts 42 = .ok (.getfield 32, 3) := by decide +kernel
theorem dX10_acts_45 : decode cX10_acts 45 = .ok (.getfield 90, 3) := by decide +kernel
theorem dX10_acts_48 : decode cX10_acts 48 = .ok (.invokevirtual 93, 3) := by decide +kernel
theorem dX10_acts_51 : decode cX10_acts 51 = .ok (.iload_n 1, 1) := by decide +kernel
theorem dX10_acts_52 : decode cX10_acts 52 = .ok (.ireturn, 1) := by decide +kernel
theorem dX10_fault_0 : decode cX10_fault 0 = .ok (.aload_n 0, 1) := by decide +kernel
theorem dX10_fault_1 : decode cX10_fault 1 = .ok (.getfield 32, 3) := by decide +kernel
theorem dX10_fault_4 : decode cX10_fault 4 = .ok (.getfield 77, 3) := by decide +kernel
theorem dX10_fault_7 : decode cX10_fault 7 = .ok (.ireturn, 1) := by decide +kernel
theorem dX10_add_0 : decode cX10_add 0 = .ok (.iload_n 1, 1) := by decide +kernel
theorem dX10_add_1 : decode cX10_add 1 = .ok (.iload_n 2, 1) := by decide +kernel
theorem dX10_add_2 : decode cX10_add 2 = .ok (.invokestatic 97, 3) := by decide +kernel
theorem dX10_add_5 : decode cX10_add 5 = .ok (.iload_n 3, 1) := by decide +kernel
theorem dX10_add_6 : decode cX10_add 6 = .ok (.iload 4, 2) := by decide +kernel
theorem dX10_add_8 : decode cX10_add 8 = .ok (.invokestatic 97, 3) := by decide +kernel
theorem dX10_add_11 : decode cX10_add 11 = .ok (.iload 5, 2) := by decide +kernel
theorem dX10_add_13 : decode cX10_add 13 = .ok (.invokestatic 101, 3) := by decide +kernel
theorem dX10_add_16 : decode cX10_add 16 = .ok (.aload_n 0, 1) := by decide +kernel
theorem dX10_add_17 : decode cX10_add 17 = .ok (.getfield 10, 3) := by decide +kernel
theorem dX10_add_20 : decode cX10_add 20 = .ok (.invokevirtual 104, 3) := by decide +kernel
theorem dX10_add_23 : decode cX10_add 23 = .ok (.ifCond .eq 13, 3) := by decide +kernel
theorem dX10_add_26 : decode cX10_add 26 = .ok (.new 107, 3) := by decide +kernel
theorem dX10_add_29 : decode cX10_add 29 = .ok (.dup, 1) := by decide +kernel
theorem dX10_add_30 : decode cX10_add 30 = .ok (.ldc 109, 2) := by decide +kernel
theorem dX10_add_32 : decode cX10_add 32 = .ok (.invokespecial 111, 3) := by decide +kernel
theorem dX10_add_35 : decode cX10_add 35 = .ok (.athrow, 1) := by decide +kernel
theorem dX10_add_36 : decode cX10_add 36 = .ok (.aload_n 0, 1) := by decide +kernel
theorem dX10_add_37 : decode cX10_add 37 = .ok (.invokevirtual 112, 3) := by decide +kernel
theorem dX10_add_40 : decode cX10_add 40 = .ok (.aload_n 0, 1) := by decide +kernel
theorem dX10_add_41 : decode cX10_add 41 = .ok (.getfield 10, 3) := by decide +kernel
theorem dX10_add_44 : decode cX10_add 44 = .ok (.iload_n 1, 1) := by decide +kernel
theorem dX10_add_45 : decode cX10_add 45 = .ok (.iload_n 2, 1) := by decide +kernel
theorem dX10_add_46 : decode cX10_add 46 = .ok (.iload_n 3, 1) := by decide +kernel
theorem dX10_add_47 : decode cX10_add 47 = .ok (.iload 4, 2) := by decide +kernel
theorem dX10_add_49 : decode cX10_add 49 = .ok (.iload 5, 2) := by decide +kernel
theorem dX10_add_51 : decode cX10_add 51 = .ok (.invokevirtual 115, 3) := by decide +kernel
theorem dX10_add_54 : decode cX10_add 54 = .ok (.aload_n 0, 1) := by decide +kernel
theorem dX10_add_55 : decode cX10_add 55 = .ok (.getfield 10, 3) := by decide +kernel
theorem dX10_add_58 : decode cX10_add 58 = .ok (.getfield 119, 3) := by decide +kernel
theorem dX10_add_61 : decode cX10_add 61 = .ok (.iconst 1, 1) := by decide +kernel
theorem dX10_add_62 : decode cX10_add 62 = .ok (.isub, 1) := by decide +kernel
theorem dX10_add_63 : decode cX10_add 63 = .ok (.ireturn, 1) := by decide +kernel
theorem dX10_cut_0 : decode cX10_cut 0 = .ok (.aload_n 0, 1) := by decide +kernel
theorem dX10_cut_1 : decode cX10_cut 1 = .ok (.iload_n 1, 1) := by decide +kernel
theorem dX10_cut_2 : decode cX10_cut 2 = .ok (.invokevirtual 122, 3) := by decide +kernel
theorem dX10_cut_5 : decode cX10_cut 5 = .ok (.aload_n 0, 1) := by decide +kernel
theorem dX10_cut_6 : decode cX10_cut 6 = .ok (.invokevirtual 125, 3) := by decide +kernel
theorem dX10_cut_9 : decode cX10_cut 9 = .ok (.getfield 129, 3) := by decide +kernel
theorem dX10_cut_12 : decode cX10_cut 12 = .ok (.getfield 133, 3) := by decide +kernel
theorem dX10_cut_15 : decode cX10_cut 15 = .ok (.istore_n 2, 1) := by decide +kernel
theorem dX10_cut_16 : decode cX10_cut 16 = .ok (.aload_n 0, 1) := by decide +kernel
theorem dX10_cut_17 : decode cX10_cut 17 = .ok (.invokevirtual 112, 3) := by decide +kernel
theorem dX10_cut_20 : decode cX10_cut 20 = .ok (.aload_n 0, 1) := by decide +kernel
theorem dX10_cut_21 : decode cX10_cut 21 = .ok (.getfield 10, 3) := by decide +kernel
theorem dX10_cut_24 : decode cX10_cut 24 = .ok (.iload_n 1, 1) := by decide +kernel
theorem dX10_cut_25 : decode cX10_cut 25 = .ok (.invokevirtual 138, 3) := by decide +kernel
theorem dX10_cut_28 : decode cX10_cut 28 = .ok (.iload_n 2, 1) := by decide +kernel
theorem dX10_cut_29 : decode cX10_cut 29 = .ok (.aload_n 0, 1) := by decide +kernel
theorem dX10_cut_30 : decode cX10_cut 30 = .ok (.invokevirtual 125, 3) := by decide +kernel
theorem dX10_cut_33 : decode cX10_cut 33 = .ok (.getfield 129, 3) := by decide +kernel
theorem dX10_cut_36 : decode cX10_cut 36 = .ok (.getfield 133, 3) := by decide +kernel
theorem dX10_cut_39 : decode cX10_cut 39 = .ok (.isub, 1) := by decide +kernel
theorem dX10_cut_40 : decode cX10_cut 40 = .ok (.ireturn, 1) := by decide +kernel
theorem dX10_move_0 : decode cX10_move 0 = .ok (.aload_n 0, 1) := by decide +kernel
theorem dX10_move_1 : decode cX10_move 1 = .ok (.iload_n 1, 1) := by decide +kernel
theorem dX10_move_2 : decode cX10_move 2 = .ok (.invokevirtual 122, 3) := by decide +kernel
theorem dX10_move_5 : decode cX10_move 5 = .ok (.aload_n 0, 1) := by decide +kernel
theorem dX10_move_6 : decode cX10_move 6 = .ok (.getfield 10, 3) := by decide +kernel
theorem dX10_move_9 : decode cX10_move 9 = .ok (.iload_n 1, 1) := by decide +kernel
theorem dX10_move_10 : decode cX10_move 10 = .ok (.iload_n 2, 1) := by decide +kernel
theorem dX10_move_11 : decode cX10_move 11 = .ok (.i2l, 1) := by decide +kernel
theorem dX10_move_12 : decode cX10_move 12 = .ok (.iload_n 3, 1) := by decide +kernel
theorem dX10_move_13 : decode cX10_move 13 = .ok (.i2l, 1) := by decide +kernel
theorem dX10_move_14 : decode cX10_move 14 = .ok (.invokevirtual 141, 3) := by decide +kernel
theorem dX10_move_17 : decode cX10_move 17 = .ok (.ifCond .ne 13, 3) := by decide +kernel
theorem dX10_move_20 : decode cX10_move 20 = .ok (.new 80, 3) := by decide +kernel
theorem dX10_move_23 : decode cX10_move 23 = .ok (.dup, 1) := by decide +kernel
theorem dX10_move_24 : decode cX10_move 24 = .ok (.ldc 145, 2) := by decide +kernel
theorem dX10_move_26 : decode cX10_move 26 = .ok (.invokespecial 84, 3) := by decide +kernel
theorem dX10_move_29 : decode cX10_move 29 = .ok (.athrow, 1) := by decide +kernel
theorem dX10_move_30 : decode cX10_move 30 = .ok (.aload_n 0, 1) := by decide +kernel
theorem dX10_move_31 : decode cX10_move 31 = .ok (.invokevirtual 112, 3) := by decide +kernel
theorem dX10_move_34 : decode cX10_move 34 = .ok (.aload_n 0, 1) := by decide +kernel
theorem dX10_move_35 : decode cX10_move 35 = .ok (.getfield 10, 3) := by decide +kernel
theorem dX10_move_38 : decode cX10_move 38 = .ok (.iload_n 1, 1) := by decide +kernel
theorem dX10_move_39 : decode cX10_move 39 = .ok (.iload_n 2, 1) := by decide +kernel
theorem dX10_move_40 : decode cX10_move 40 = .ok (.iload_n 3, 1) := by decide +kernel
theorem dX10_move_41 : decode cX10_move 41 = .ok (.invokevirtual 147, 3) := by decide +kernel
theorem dX10_move_44 : decode cX10_move 44 = .ok (.aload_n 0, 1) := by decide +kernel
theorem dX10_move_45 : decode cX10_move 45 = .ok (.invokevirtual 125, 3) := by decide +kernel
theorem dX10_move_48 : decode cX10_move 48 = .ok (.getfield 129, 3) := by decide +kernel
theorem dX10_move_51 : decode cX10_move 51 = .ok (.getfield 133, 3) := by decide +kernel
theorem dX10_move_54 : decode cX10_move 54 = .ok (.ireturn, 1) := by decide +kernel
theorem dX10_tint_0 : decode cX10_tint 0 = .ok (.aload_n 0, 1) := by decide +kernel
theorem dX10_tint_1 : decode cX10_tint 1 = .ok (.iload_n 1, 1) := by decide +kernel
theorem dX10_tint_2 : decode cX10_tint 2 = .ok (.invokevirtual 122, 3) := by decide +kernel
theorem dX10_tint_5 : decode cX10_tint 5 = .ok (.iload_n 2, 1) := by decide +kernel
theorem dX10_tint_6 : decode cX10_tint 6 = .ok (.invokestatic 101, 3) := by decide +kernel
theorem dX10_tint_9 : decode cX10_tint 9 = .ok (.aload_n 0, 1) := by decide +kernel
theorem dX10_tint_10 : decode cX10_tint 10 = .ok (.invokevirtual 112, 3) := by decide +kernel
theorem dX10_tint_13 : decode cX10_tint 13 = .ok (.aload_n 0, 1) := by decide +kernel
theorem dX10_tint_14 : decode cX10_tint 14 = .ok (.getfield 10, 3) := by decide +kernel
theorem dX10_tint_17 : decode cX10_tint 17 = .ok (.getfield 151, 3) := by decide +kernel
theorem dX10_tint_20 : decode cX10_tint 20 = .ok (.iload_n 1, 1) := by decide +kernel
theorem dX10_tint_21 : decode cX10_tint 21 = .ok (.iaload, 1) := by decide +kernel
theorem dX10_tint_22 : decode cX10_tint 22 = .ok (.istore_n 3, 1) := by decide +kernel
theorem dX10_tint_23 : decode cX10_tint 23 = .ok (.aload_n 0, 1) := by decide +kernel
theorem dX10_tint_24 : decode cX10_tint 24 = .ok (.getfield 10, 3) := by decide +kernel
theorem dX10_tint_27 : decode cX10_tint 27 = .ok (.getfield 151, 3) := by decide +kernel
theorem dX10_tint_30 : decode cX10_tint 30 = .ok (.iload_n 1, 1) := by decide +kernel
theorem dX10_tint_31 : decode cX10_tint 31 = .ok (.iload_n 2, 1) := by decide +kernel
theorem dX10_tint_32 : decode cX10_tint 32 = .ok (.iastore, 1) := by decide +kernel
theorem dX10_tint_33 : decode cX10_tint 33 = .ok (.iload_n 3, 1) := by decide +kernel
theorem dX10_tint_34 : decode cX10_tint 34 = .ok (.ireturn, 1) := by decide +kernel
theorem dX10_turn_0 : decode cX10_turn 0 = .ok (.aload_n 0, 1) := by decide +kernel
theorem dX10_turn_1 : decode cX10_turn 1 = .ok (.invokevirtual 112, 3) := by decide +kernel
theorem dX10_turn_4 : decode cX10_turn 4 = .ok (.aload_n 0, 1) := by decide +kernel
theorem dX10_turn_5 : decode cX10_turn 5 = .ok (.getfield 10, 3) := by decide +kernel
theorem dX10_turn_8 : decode cX10_turn 8 = .ok (.invokevirtual 155, 3) := by decide +kernel
theorem dX10_turn_11 : decode cX10_turn 11 = .ok (.aload_n 0, 1) := by decide +kernel
theorem dX10_turn_12 : decode cX10_turn 12 = .ok (.invokevirtual 125, 3) := by decide +kernel
theorem dX10_turn_15 : decode cX10_turn 15 = .ok (.getfield 129, 3) := by decide +kernel
theorem dX10_turn_18 : decode cX10_turn 18 = .ok (.getfield 158, 3) := by decide +kernel
theorem dX10_turn_21 : decode cX10_turn 21 = .ok (.ireturn, 1) := by decide +kernel
theorem dX10_undo_0 : decode cX10_undo 0 = .ok (.aload_n 0, 1) := by decide +kernel
theorem dX10_undo_1 : decode cX10_undo 1 = .ok (.getfield 25, 3) := by decide +kernel
theorem dX10_undo_4 : decode cX10_undo 4 = .ok (.getfield 159, 3) := by decide +kernel
theorem dX10_undo_7 : decode cX10_undo 7 = .ok (.ifCond .ne 13, 3) := by decide +kernel
theorem dX10_undo_10 : decode cX10_undo 10 = .ok (.new 107, 3) := by decide +kernel
theorem dX10_undo_13 : decode cX10_undo 13 = .ok (.dup, 1) := by decide +kernel
theorem dX10_undo_14 : decode cX10_undo 14 = .ok (.ldc 160, 2) := by decide +kernel
theorem dX10_undo_16 : decode cX10_undo 16 = .ok (.invokespecial 111, 3) := by decide +kernel
theorem dX10_undo_19 : decode cX10_undo 19 = .ok (.athrow, 1) := by decide +kernel
theorem dX10_undo_20 : decode cX10_undo 20 = .ok (.aload_n 0, 1) := by decide +kernel
theorem dX10_undo_21 : decode cX10_undo 21 = .ok (.aload_n 0, 1) := by decide +kernel
theorem dX10_undo_22 : decode cX10_undo 22 = .ok (.getfield 25, 3) := by decide +kernel
theorem dX10_undo_25 : decode cX10_undo 25 = .ok (.invokevirtual 162, 3) := by decide +kernel
theorem dX10_undo_28 : decode cX10_undo 28 = .ok (.invokevirtual 93, 3) := by decide +kernel
theorem dX10_undo_31 : decode cX10_undo 31 = .ok (.aload_n 0, 1) := by decide +kernel
theorem dX10_undo_32 : decode cX10_undo 32 = .ok (.getfield 25, 3) := by decide +kernel
theorem dX10_undo_35 : decode cX10_undo 35 = .ok (.getfield 159, 3) := by decide +kernel
theorem dX10_undo_38 : decode cX10_undo 38 = .ok (.ireturn, 1) := by decide +kernel
theorem dX10_segment_0 : decode cX10_segment 0 = .ok (.aload_n 0, 1) := by decide +kernel
theorem dX10_segment_1 : decode cX10_segment 1 = .ok (.iload_n 1, 1) := by decide +kernel
theorem dX10_segment_2 : decode cX10_segment 2 = .ok (.invokevirtual 122, 3) := by decide +kernel
theorem dX10_segment_5 : decode cX10_segment 5 = .ok (.iload_n 2, 1) := by decide +kernel
theorem dX10_segment_6 : decode cX10_segment 6 = .ok (.tableswitch 147 0 8 #[50, 60, 70, 80, 90, 100, 109, 121, 135], 50) := by decide +kernel
theorem dX10_segment_56 : decode cX10_segment 56 = .ok (.aload_n 0, 1) := by decide +kernel
theorem dX10_segment_57 : decode cX10_segment 57 = .ok (.getfield 10, 3) := by decide +kernel
theorem dX10_segment_60 : decode cX10_segment 60 = .ok (.getfield 166, 3) := by decide +kernel
theorem dX10_segment_63 : decode cX10_segment 63 = .ok (.iload_n 1, 1) := by decide +kernel
theorem dX10_segment_64 : decode cX10_segment 64 = .ok (.iaload, 1) := by decide +kernel
theorem dX10_segment_65 : decode cX10_segment 65 = .ok (.ireturn, 1) := by decide +kernel
theorem dX10_segment_66 : decode cX10_segment 66 = .ok (.aload_n 0, 1) := by decide +kernel
theorem dX10_segment_67 : decode cX10_segment 67 = .ok (.getfield 10, 3) := by decide +kernel
theorem dX10_segment_70 : decode cX10_segment 70 = .ok (.getfield 169, 3) := by decide +kernel
theorem dX10_segment_73 : decode cX10_segment 73 = .ok (.iload_n 1, 1) := by decide +kernel
theorem dX10_segment_74 : decode cX10_segment 74 = .ok (.iaload, 1) := by decide +kernel
theorem dX10_segment_75 : decode cX10_segment 75 = .ok (.ireturn, 1) := by decide +kernel
theorem dX10_segment_76 : decode cX10_segment 76 = .ok (.aload_n 0, 1) := by decide +kernel
theorem dX10_segment_77 : decode cX10_segment 77 = .ok (.getfield 10, 3) := by decide +kernel
theorem dX10_segment_80 : decode cX10_segment 80 = .ok (.getfield 172, 3) := by decide +kernel
theorem dX10_segment_83 : decode cX10_segment 83 = .ok (.iload_n 1, 1) := by decide +kernel
theorem dX10_segment_84 : decode cX10_segment 84 = .ok (.iaload, 1) := by decide +kernel
theorem dX10_segment_85 : decode cX10_segment 85 = .ok (.ireturn, 1) := by decide +kernel
theorem dX10_segment_86 : decode cX10_segment 86 = .ok (.aload_n 0, 1) := by decide +kernel
theorem dX10_segment_87 : decode cX10_segment 87 = .ok (.getfield 10, 3) := by decide +kernel
theorem dX10_segment_90 : decode cX10_segment 90 = .ok (.getfield 175, 3) := by decide +kernel
theorem dX10_segment_93 : decode cX10_segment 93 = .ok (.iload_n 1, 1) := by decide +kernel
theorem dX10_segment_94 : decode cX10_segment 94 = .ok (.iaload, 1) := by decide +kernel
theorem dX10_segment_95 : decode cX10_segment 95 = .ok (.ireturn, 1) := by decide +kernel
theorem dX10_segment_96 : decode cX10_segment 96 = .ok (.aload_n 0, 1) := by decide +kernel
theorem dX10_segment_97 : decode cX10_segment 97 = .ok (.getfield 10, 3) := by decide +kernel
theorem dX10_segment_100 : decode cX10_segment 100 = .ok (.getfield 151, 3) := by decide +kernel
theorem dX10_segment_103 : decode cX10_segment 103 = .ok (.iload_n 1, 1) := by decide +kernel
theorem dX10_segment_104 : decode cX10_segment 104 = .ok (.iaload, 1) := by decide +kernel
theorem dX10_segment_105 : decode cX10_segment 105 = .ok (.ireturn, 1) := by decide +kernel
theorem dX10_segment_106 : decode cX10_segment 106 = .ok (.aload_n 0, 1) := by decide +kernel
theorem dX10_segment_107 : decode cX10_segment 107 = .ok (.getfield 10, 3) := by decide +kernel
theorem dX10_segment_110 : decode cX10_segment 110 = .ok (.iload_n 1, 1) := by decide +kernel
theorem dX10_segment_111 : decode cX10_segment 111 = .ok (.invokevirtual 178, 3) := by decide +kernel
theorem dX10_segment_114 : decode cX10_segment 114 = .ok (.ireturn, 1) := by decide +kernel
theorem dX10_segment_115 : decode cX10_segment 115 = .ok (.aload_n 0, 1) := by decide +kernel
theorem dX10_segment_116 : decode cX10_segment 116 = .ok (.invokevirtual 125, 3) := by decide +kernel
theorem dX10_segment_119 : decode cX10_segment 119 = .ok (.getfield 129, 3) := by decide +kernel
theorem dX10_segment_122 : decode cX10_segment 122 = .ok (.iload_n 1, 1) := by decide +kernel
theorem dX10_segment_123 : decode cX10_segment 123 = .ok (.invokevirtual 182, 3) := by decide +kernel
theorem dX10_segment_126 : decode cX10_segment 126 = .ok (.ireturn, 1) := by decide +kernel
theorem dX10_segment_127 : decode cX10_segment 127 = .ok (.aload_n 0, 1) := by decide +kernel
theorem dX10_segment_128 : decode cX10_segment 128 = .ok (.invokevirtual 125, 3) := by decide +kernel
theorem dX10_segment_131 : decode cX10_segment 131 = .ok (.getfield 129, 3) := by decide +kernel
theorem dX10_segment_134 : decode cX10_segment 134 = .ok (.iload_n 1, 1) := by decide +kernel
theorem dX10_segment_135 : decode cX10_segment 135 = .ok (.invokevirtual 185, 3) := by decide +kernel
theorem dX10_segment_138 : decode cX10_segment 138 = .ok (.iconst 1, 1) := by decide +kernel
theorem dX10_segment_139 : decode cX10_segment 139 = .ok (.isub, 1) := by decide +kernel
theorem dX10_segment_140 : decode cX10_segment 140 = .ok (.ireturn, 1) := by decide +kernel
theorem dX10_segment_141 : decode cX10_segment 141 = .ok (.aload_n 0, 1) := by decide +kernel
theorem dX10_segment_142 : decode cX10_segment 142 = .ok (.invokevirtual 125, 3) := by decide +kernel
theorem dX10_segment_145 : decode cX10_segment 145 = .ok (.getfield 188, 3) := by decide +kernel
theorem dX10_segment_148 : decode cX10_segment 148 = .ok (.iload_n 1, 1) := by decide +kernel
theorem dX10_segment_149 : decode cX10_segment 149 = .ok (.invokevirtual 192, 3) := by decide +kernel
theorem dX10_segment_152 : decode cX10_segment 152 = .ok (.ireturn, 1) := by decide +kernel
theorem dX10_segment_153 : decode cX10_segment 153 = .ok (.new 197, 3) := by decide +kernel
theorem dX10_segment_156 : decode cX10_segment 156 = .ok (.dup, 1) := by decide +kernel
theorem dX10_segment_157 : decode cX10_segment 157 = .ok (.ldc 199, 2) := by decide +kernel
theorem dX10_segment_159 : decode cX10_segment 159 = .ok (.invokespecial 201, 3) := by decide +kernel
theorem dX10_segment_162 : decode cX10_segment 162 = .ok (.athrow, 1) := by decide +kernel
theorem dX10_how_0 : decode cX10_how 0 = .ok (.aload_n 0, 1) := by decide +kernel
theorem dX10_how_1 : decode cX10_how 1 = .ok (.iload_n 1, 1) := by decide +kernel
theorem dX10_how_2 : decode cX10_how 2 = .ok (.invokevirtual 122, 3) := by decide +kernel
theorem dX10_how_5 : decode cX10_how 5 = .ok (.aload_n 0, 1) := by decide +kernel
theorem dX10_how_6 : decode cX10_how 6 = .ok (.iload_n 2, 1) := by decide +kernel
theorem dX10_how_7 : decode cX10_how 7 = .ok (.invokevirtual 122, 3) := by decide +kernel
theorem dX10_how_10 : decode cX10_how 10 = .ok (.iload_n 1, 1) := by decide +kernel
theorem dX10_how_11 : decode cX10_how 11 = .ok (.iload_n 2, 1) := by decide +kernel
theorem dX10_how_12 : decode cX10_how 12 = .ok (.invokestatic 202, 3) := by decide +kernel
theorem dX10_how_15 : decode cX10_how 15 = .ok (.aload_n 0, 1) := by decide +kernel
theorem dX10_how_16 : decode cX10_how 16 = .ok (.getfield 10, 3) := by decide +kernel
theorem dX10_how_19 : decode cX10_how 19 = .ok (.iload_n 1, 1) := by decide +kernel
theorem dX10_how_20 : decode cX10_how 20 = .ok (.iload_n 2, 1) := by decide +kernel
theorem dX10_how_21 : decode cX10_how 21 = .ok (.invokevirtual 205, 3) := by decide +kernel
theorem dX10_how_24 : decode cX10_how 24 = .ok (.ifCond .eq 5, 3) := by decide +kernel
theorem dX10_how_27 : decode cX10_how 27 = .ok (.iconst 4, 1) := by decide +kernel
theorem dX10_how_28 : decode cX10_how 28 = .ok (.ireturn, 1) := by decide +kernel
theorem dX10_how_29 : decode cX10_how 29 = .ok (.aload_n 0, 1) := by decide +kernel
theorem dX10_how_30 : decode cX10_how 30 = .ok (.iload_n 1, 1) := by decide +kernel
theorem dX10_how_31 : decode cX10_how 31 = .ok (.iload_n 2, 1) := by decide +kernel
theorem dX10_how_32 : decode cX10_how 32 = .ok (.invokevirtual 209, 3) := by decide +kernel
theorem dX10_how_35 : decode cX10_how 35 = .ok (.astore_n 3, 1) := by decide +kernel
theorem dX10_how_36 : decode cX10_how 36 = .ok (.aload_n 3, 1) := by decide +kernel
theorem dX10_how_37 : decode cX10_how 37 = .ok (.getfield 213, 3) := by decide +kernel
theorem dX10_how_40 : decode cX10_how 40 = .ok (.iconst 2, 1) := by decide +kernel
theorem dX10_how_41 : decode cX10_how 41 = .ok (.if_icmp .ne 5, 3) := by decide +kernel
theorem dX10_how_44 : decode cX10_how 44 = .ok (.iconst 3, 1) := by decide +kernel
theorem dX10_how_45 : decode cX10_how 45 = .ok (.ireturn, 1) := by decide +kernel
theorem dX10_how_46 : decode cX10_how 46 = .ok (.aload_n 3, 1) := by decide +kernel
theorem dX10_how_47 : decode cX10_how 47 = .ok (.getfield 213, 3) := by decide +kernel
theorem dX10_how_50 : decode cX10_how 50 = .ok (.ifCond .ne 5, 3) := by decide +kernel
theorem dX10_how_53 : decode cX10_how 53 = .ok (.iconst 0, 1) := by decide +kernel
theorem dX10_how_54 : decode cX10_how 54 = .ok (.ireturn, 1) := by decide +kernel
theorem dX10_how_55 : decode cX10_how 55 = .ok (.aload_n 3, 1) := by decide +kernel
theorem dX10_how_56 : decode cX10_how 56 = .ok (.aload_n 0, 1) := by decide +kernel
theorem dX10_how_57 : decode cX10_how 57 = .ok (.getfield 10, 3) := by decide +kernel
theorem dX10_how_60 : decode cX10_how 60 = .ok (.iload_n 1, 1) := by decide +kernel
theorem dX10_how_61 : decode cX10_how 61 = .ok (.invokevirtual 217, 3) := by decide +kernel
theorem dX10_how_64 : decode cX10_how 64 = .ok (.ifCond .ne 15, 3) := by decide +kernel
theorem dX10_how_67 : decode cX10_how 67 = .ok (.aload_n 3, 1) := by decide +kernel
theorem dX10_how_68 : decode cX10_how 68 = .ok (.aload_n 0, 1) := by decide +kernel
theorem dX10_how_69 : decode cX10_how 69 = .ok (.getfield 10, 3) := by decide +kernel
theorem dX10_how_72 : decode cX10_how 72 = .ok (.iload_n 2, 1) := by decide +kernel
theorem dX10_how_73 : decode cX10_how 73 = .ok (.invokevirtual 217, 3) := by decide +kernel
theorem dX10_how_76 : decode cX10_how 76 = .ok (.ifCond .eq 7, 3) := by decide +kernel
theorem dX10_how_79 : decode cX10_how 79 = .ok (.iconst 1, 1) := by decide +kernel
theorem dX10_how_80 : decode cX10_how 80 = .ok (.goto 4, 3) := by decide +kernel
theorem dX10_how_83 : decode cX10_how 83 = .ok (.iconst 2, 1) := by decide +kernel
theorem dX10_how_84 : decode cX10_how 84 = .ok (.ireturn, 1) := by decide +kernel
theorem dX10_meet_0 : decode cX10_meet 0 = .ok (.aload_n 0, 1) := by decide +kernel
theorem dX10_meet_1 : decode cX10_meet 1 = .ok (.iload_n 1, 1) := by decide +kernel
theorem dX10_meet_2 : decode cX10_meet 2 = .ok (.invokevirtual 122, 3) := by decide +kernel
theorem dX10_meet_5 : decode cX10_meet 5 = .ok (.aload_n 0, 1) := by decide +kernel
theorem dX10_meet_6 : decode cX10_meet 6 = .ok (.iload_n 2, 1) := by decide +kernel
theorem dX10_meet_7 : decode cX10_meet 7 = .ok (.invokevirtual 122, 3) := by decide +kernel
theorem dX10_meet_10 : decode cX10_meet 10 = .ok (.iload_n 3, 1) := by decide +kernel
theorem dX10_meet_11 : decode cX10_meet 11 = .ok (.iconst 3, 1) := by decide +kernel
theorem dX10_meet_12 : decode cX10_meet 12 = .ok (.invokestatic 221, 3) := by decide +kernel
theorem dX10_meet_15 : decode cX10_meet 15 = .ok (.iload_n 1, 1) := by decide +kernel
theorem dX10_meet_16 : decode cX10_meet 16 = .ok (.iload_n 2, 1) := by decide +kernel
theorem dX10_meet_17 : decode cX10_meet 17 = .ok (.invokestatic 202, 3) := by decide +kernel
theorem dX10_meet_20 : decode cX10_meet 20 = .ok (.aload_n 0, 1) := by decide +kernel
theorem dX10_meet_21 : decode cX10_meet 21 = .ok (.iload_n 1, 1) := by decide +kernel
theorem dX10_meet_22 : decode cX10_meet 22 = .ok (.iload_n 2, 1) := by decide +kernel
theorem dX10_meet_23 : decode cX10_meet 23 = .ok (.invokevirtual 209, 3) := by decide +kernel
theorem dX10_meet_26 : decode cX10_meet 26 = .ok (.astore 4, 2) := by decide +kernel
theorem dX10_meet_28 : decode cX10_meet 28 = .ok (.aload 4, 2) := by decide +kernel
theorem dX10_meet_30 : decode cX10_meet 30 = .ok (.getfield 213, 3) := by decide +kernel
theorem dX10_meet_33 : decode cX10_meet 33 = .ok (.iconst 1, 1) := by decide +kernel
theorem dX10_meet_34 : decode cX10_meet 34 = .ok (.if_icmp .eq 13, 3) := by decide +kernel
theorem dX10_meet_37 : decode cX10_meet 37 = .ok (.new 107, 3) := by decide +kernel
theorem dX10_meet_40 : decode cX10_meet 40 = .ok (.dup, 1) := by decide +kernel
theorem dX10_meet_41 : decode cX10_meet 41 = .ok (.ldc 224, 2) := by decide +kernel
theorem dX10_meet_43 : decode cX10_meet 43 = .ok (.invokespecial 111, 3) := by decide +kernel
theorem dX10_meet_46 : decode cX10_meet 46 = .ok (.athrow, 1) := by decide +kernel
theorem dX10_meet_47 : decode cX10_meet 47 = .ok (.aload 4, 2) := by decide +kernel
theorem dX10_meet_49 : decode cX10_meet 49 = .ok (.getfield 226, 3) := by decide +kernel
theorem dX10_meet_52 : decode cX10_meet 52 = .ok (.aload 4, 2) := by decide +kernel
theorem dX10_meet_54 : decode cX10_meet 54 = .ok (.getfield 230, 3) := by decide +kernel
theorem dX10_meet_57 : decode cX10_meet 57 = .ok (.aload 4, 2) := by decide +kernel
theorem dX10_meet_59 : decode cX10_meet 59 = .ok (.getfield 233, 3) := by decide +kernel
theorem dX10_meet_62 : decode cX10_meet 62 = .ok (.iload_n 3, 1) := by decide +kernel
theorem dX10_meet_63 : decode cX10_meet 63 = .ok (.invokestatic 236, 3) := by decide +kernel
theorem dX10_meet_66 : decode cX10_meet 66 = .ok (.lreturn, 1) := by decide +kernel
theorem dX10_along_0 : decode cX10_along 0 = .ok (.aload_n 0, 1) := by decide +kernel
theorem dX10_along_1 : decode cX10_along 1 = .ok (.iload_n 1, 1) := by decide +kernel
theorem dX10_along_2 : decode cX10_along 2 = .ok (.invokevirtual 122, 3) := by decide +kernel
theorem dX10_along_5 : decode cX10_along 5 = .ok (.aload_n 0, 1) := by decide +kernel
theorem dX10_along_6 : decode cX10_along 6 = .ok (.iload_n 2, 1) := by decide +kernel
theorem dX10_along_7 : decode cX10_along 7 = .ok (.invokevirtual 122, 3) := by decide +kernel
theorem dX10_along_10 : decode cX10_along 10 = .ok (.iload_n 3, 1) := by decide +kernel
theorem dX10_along_11 : decode cX10_along 11 = .ok (.iconst 3, 1) := by decide +kernel
theorem dX10_along_12 : decode cX10_along 12 = .ok (.invokestatic 221, 3) := by decide +kernel
theorem dX10_along_15 : decode cX10_along 15 = .ok (.iload_n 1, 1) := by decide +kernel
theorem dX10_along_16 : decode cX10_along 16 = .ok (.iload_n 2, 1) := by decide +kernel
theorem dX10_along_17 : decode cX10_along 17 = .ok (.invokestatic 202, 3) := by decide +kernel
theorem dX10_along_20 : decode cX10_along 20 = .ok (.aload_n 0, 1) := by decide +kernel
theorem dX10_along_21 : decode cX10_along 21 = .ok (.iload_n 1, 1) := by decide +kernel
theorem dX10_along_22 : decode cX10_along 22 = .ok (.iload_n 2, 1) := by decide +kernel
theorem dX10_along_23 : decode cX10_along 23 = .ok (.invokevirtual 209, 3) := by decide +kernel
theorem dX10_along_26 : decode cX10_along 26 = .ok (.astore 4, 2) := by decide +kernel
theorem dX10_along_28 : decode cX10_along 28 = .ok (.aload 4, 2) := by decide +kernel
theorem dX10_along_30 : decode cX10_along 30 = .ok (.getfield 213, 3) := by decide +kernel
theorem dX10_along_33 : decode cX10_along 33 = .ok (.iconst 2, 1) := by decide +kernel
theorem dX10_along_34 : decode cX10_along 34 = .ok (.if_icmp .eq 13, 3) := by decide +kernel
theorem dX10_along_37 : decode cX10_along 37 = .ok (.new 107, 3) := by decide +kernel
theorem dX10_along_40 : decode cX10_along 40 = .ok (.dup, 1) := by decide +kernel
theorem dX10_along_41 : decode cX10_along 41 = .ok (.ldc 240, 2) := by decide +kernel
theorem dX10_along_43 : decode cX10_along 43 = .ok (.invokespecial 111, 3) := by decide +kernel
theorem dX10_along_46 : decode cX10_along 46 = .ok (.athrow, 1) := by decide +kernel
theorem dX10_along_47 : decode cX10_along 47 = .ok (.iload_n 3, 1) := by decide +kernel
theorem dX10_along_48 : decode cX10_along 48 = .ok (.tableswitch 46 0 2 #[28, 34, 40], 28) := by decide +kernel
theorem dX10_along_76 : decode cX10_along 76 = .ok (.aload 4, 2) := by decide +kernel
theorem dX10_along_78 : decode cX10_along 78 = .ok (.getfield 242, 3) := by decide +kernel
theorem dX10_along_81 : decode cX10_along 81 = .ok (.ireturn, 1) := by decide +kernel
theorem dX10_along_82 : decode cX10_along 82 = .ok (.aload 4, 2) := by decide +kernel
theorem dX10_along_84 : decode cX10_along 84 = .ok (.getfield 245, 3) := by decide +kernel
theorem dX10_along_87 : decode cX10_along 87 = .ok (.ireturn, 1) := by decide +kernel
theorem dX10_along_88 : decode cX10_along 88 = .ok (.aload 4, 2) := by decide +kernel
theorem dX10_along_90 : decode cX10_along 90 = .ok (.getfield 248, 3) := by decide +kernel
theorem dX10_along_93 : decode cX10_along 93 = .ok (.ireturn, 1) := by decide +kernel
theorem dX10_along_94 : decode cX10_along 94 = .ok (.aload 4, 2) := by decide +kernel
theorem dX10_along_96 : decode cX10_along 96 = .ok (.getfield 251, 3) := by decide +kernel
theorem dX10_along_99 : decode cX10_along 99 = .ok (.ireturn, 1) := by decide +kernel
theorem dX10_crossing_0 : decode cX10_crossing 0 = .ok (.aload_n 0, 1) := by decide +kernel
theorem dX10_crossing_1 : decode cX10_crossing 1 = .ok (.invokevirtual 125, 3) := by decide +kernel
theorem dX10_crossing_4 : decode cX10_crossing 4 = .ok (.getfield 129, 3) := by decide +kernel
theorem dX10_crossing_7 : decode cX10_crossing 7 = .ok (.astore_n 3, 1) := by decide +kernel
theorem dX10_crossing_8 : decode cX10_crossing 8 = .ok (.iload_n 1, 1) := by decide +kernel
theorem dX10_crossing_9 : decode cX10_crossing 9 = .ok (.aload_n 3, 1) := by decide +kernel
theorem dX10_crossing_10 : decode cX10_crossing 10 = .ok (.getfield 133, 3) := by decide +kernel
theorem dX10_crossing_13 : decode cX10_crossing 13 = .ok (.invokestatic 254, 3) := by decide +kernel
theorem dX10_crossing_16 : decode cX10_crossing 16 = .ok (.iload_n 2, 1) := by decide +kernel
theorem dX10_crossing_17 : decode cX10_crossing 17 = .ok (.bipush 6, 2) := by decide +kernel
theorem dX10_crossing_19 : decode cX10_crossing 19 = .ok (.invokestatic 221, 3) := by decide +kernel
theorem dX10_crossing_22 : decode cX10_crossing 22 = .ok (.aload_n 3, 1) := by decide +kernel
theorem dX10_crossing_23 : decode cX10_crossing 23 = .ok (.getfield 257, 3) := by decide +kernel
theorem dX10_crossing_26 : decode cX10_crossing 26 = .ok (.iload_n 1, 1) := by decide +kernel
theorem dX10_crossing_27 : decode cX10_crossing 27 = .ok (.iaload, 1) := by decide +kernel
theorem dX10_crossing_28 : decode cX10_crossing 28 = .ok (.istore 4, 2) := by decide +kernel
theorem dX10_crossing_30 : decode cX10_crossing 30 = .ok (.aload_n 3, 1) := by decide +kernel
theorem dX10_crossing_31 : decode cX10_crossing 31 = .ok (.getfield 260, 3) := by decide +kernel
theorem dX10_crossing_34 : decode cX10_crossing 34 = .ok (.iload 4, 2) := by decide +kernel
theorem dX10_crossing_36 : decode cX10_crossing 36 = .ok (.iaload, 1) := by decide +kernel
theorem dX10_crossing_37 : decode cX10_crossing 37 = .ok (.istore 5, 2) := by decide +kernel
theorem dX10_crossing_39 : decode cX10_crossing 39 = .ok (.iload_n 2, 1) := by decide +kernel
theorem dX10_crossing_40 : decode cX10_crossing 40 = .ok (.tableswitch 50 4 6 #[28, 35, 39], 28) := by decide +kernel
theorem dX10_crossing_68 : decode cX10_crossing 68 = .ok (.iload 5, 2) := by decide +kernel
theorem dX10_crossing_70 : decode cX10_crossing 70 = .ok (.invokestatic 263, 3) := by decide +kernel
theorem dX10_crossing_73 : decode cX10_crossing 73 = .ok (.i2l, 1) := by decide +kernel
theorem dX10_crossing_74 : decode cX10_crossing 74 = .ok (.lreturn, 1) := by decide +kernel
theorem dX10_crossing_75 : decode cX10_crossing 75 = .ok (.iload 5, 2) := by decide +kernel
theorem dX10_crossing_77 : decode cX10_crossing 77 = .ok (.i2l, 1) := by decide +kernel
theorem dX10_crossing_78 : decode cX10_crossing 78 = .ok (.lreturn, 1) := by decide +kernel
theorem dX10_crossing_79 : decode cX10_crossing 79 = .ok (.aload_n 0, 1) := by decide +kernel
theorem dX10_crossing_80 : decode cX10_crossing 80 = .ok (.getfield 10, 3) := by decide +kernel
theorem dX10_crossing_83 : decode cX10_crossing 83 = .ok (.iload 5, 2) := by decide +kernel
theorem dX10_crossing_85 : decode cX10_crossing 85 = .ok (.invokevirtual 268, 3) := by decide +kernel
theorem dX10_crossing_88 : decode cX10_crossing 88 = .ok (.i2l, 1) := by decide +kernel
theorem dX10_crossing_89 : decode cX10_crossing 89 = .ok (.lreturn, 1) := by decide +kernel
theorem dX10_crossing_90 : decode cX10_crossing 90 = .ok (.aload_n 3, 1) := by decide +kernel
theorem dX10_crossing_91 : decode cX10_crossing 91 = .ok (.getfield 271, 3) := by decide +kernel
theorem dX10_crossing_94 : decode cX10_crossing 94 = .ok (.iload 4, 2) := by decide +kernel
theorem dX10_crossing_96 : decode cX10_crossing 96 = .ok (.laload, 1) := by decide +kernel
theorem dX10_crossing_97 : decode cX10_crossing 97 = .ok (.aload_n 3, 1) := by decide +kernel
theorem dX10_crossing_98 : decode cX10_crossing 98 = .ok (.getfield 274, 3) := by decide +kernel
theorem dX10_crossing_101 : decode cX10_crossing 101 = .ok (.iload 4, 2) := by decide +kernel
theorem dX10_crossing_103 : decode cX10_crossing 103 = .ok (.laload, 1) := by decide +kernel
theorem dX10_crossing_104 : decode cX10_crossing 104 = .ok (.aload_n 3, 1) := by decide +kernel
theorem dX10_crossing_105 : decode cX10_crossing 105 = .ok (.getfield 276, 3) := by decide +kernel
theorem dX10_crossing_108 : decode cX10_crossing 108 = .ok (.iload 4, 2) := by decide +kernel
theorem dX10_crossing_110 : decode cX10_crossing 110 = .ok (.laload, 1) := by decide +kernel
theorem dX10_crossing_111 : decode cX10_crossing 111 = .ok (.iload_n 2, 1) := by decide +kernel
theorem dX10_crossing_112 : decode cX10_crossing 112 = .ok (.invokestatic 236, 3) := by decide +kernel
theorem dX10_crossing_115 : decode cX10_crossing 115 = .ok (.lreturn, 1) := by decide +kernel
theorem dX10_event_0 : decode cX10_event 0 = .ok (.aload_n 0, 1) := by decide +kernel
theorem dX10_event_1 : decode cX10_event 1 = .ok (.invokevirtual 125, 3) := by decide +kernel
theorem dX10_event_4 : decode cX10_event 4 = .ok (.getfield 129, 3) := by decide +kernel
theorem dX10_event_7 : decode cX10_event 7 = .ok (.astore_n 3, 1) := by decide +kernel
theorem dX10_event_8 : decode cX10_event 8 = .ok (.iload_n 1, 1) := by decide +kernel
theorem dX10_event_9 : decode cX10_event 9 = .ok (.aload_n 3, 1) := by decide +kernel
theorem dX10_event_10 : decode cX10_event 10 = .ok (.getfield 158, 3) := by decide +kernel
theorem dX10_event_13 : decode cX10_event 13 = .ok (.invokestatic 254, 3) := by decide +kernel
theorem dX10_event_16 : decode cX10_event 16 = .ok (.iload_n 2, 1) := by decide +kernel
theorem dX10_event_17 : decode cX10_event 17 = .ok (.bipush 9, 2) := by decide +kernel
theorem dX10_event_19 : decode cX10_event 19 = .ok (.invokestatic 221, 3) := by decide +kernel
theorem dX10_event_22 : decode cX10_event 22 = .ok (.iload_n 2, 1) := by decide +kernel
theorem dX10_event_23 : decode cX10_event 23 = .ok (.tableswitch 90 4 9 #[37, 44, 51, 58, 66, 76], 37) := by decide +kernel
theorem dX10_event_60 : decode cX10_event 60 = .ok (.aload_n 3, 1) := by decide +kernel
theorem dX10_event_61 : decode cX10_event 61 = .ok (.iload_n 1, 1) := by decide +kernel
theorem dX10_event_62 : decode cX10_event 62 = .ok (.invokevirtual 278, 3) := by decide +kernel
theorem dX10_event_65 : decode cX10_event 65 = .ok (.i2l, 1) := by decide +kernel
theorem dX10_event_66 : decode cX10_event 66 = .ok (.lreturn, 1) := by decide +kernel
theorem dX10_event_67 : decode cX10_event 67 = .ok (.aload_n 3, 1) := by decide +kernel
theorem dX10_event_68 : decode cX10_event 68 = .ok (.iload_n 1, 1) := by decide +kernel
theorem dX10_event_69 : decode cX10_event 69 = .ok (.invokevirtual 281, 3) := by decide +kernel
theorem dX10_event_72 : decode cX10_event 72 = .ok (.i2l, 1) := by decide +kernel
theorem dX10_event_73 : decode cX10_event 73 = .ok (.lreturn, 1) := by decide +kernel
theorem dX10_event_74 : decode cX10_event 74 = .ok (.aload_n 3, 1) := by decide +kernel
theorem dX10_event_75 : decode cX10_event 75 = .ok (.iload_n 1, 1) := by decide +kernel
theorem dX10_event_76 : decode cX10_event 76 = .ok (.invokevirtual 284, 3) := by decide +kernel
theorem dX10_event_79 : decode cX10_event 79 = .ok (.i2l, 1) := by decide +kernel
theorem dX10_event_80 : decode cX10_event 80 = .ok (.lreturn, 1) := by decide +kernel
theorem dX10_event_81 : decode cX10_event 81 = .ok (.aload_n 3, 1) := by decide +kernel
theorem dX10_event_82 : decode cX10_event 82 = .ok (.getfield 287, 3) := by decide +kernel
theorem dX10_event_85 : decode cX10_event 85 = .ok (.iload_n 1, 1) := by decide +kernel
theorem dX10_event_86 : decode cX10_event 86 = .ok (.iaload, 1) := by decide +kernel
theorem dX10_event_87 : decode cX10_event 87 = .ok (.i2l, 1) := by decide +kernel
theorem dX10_event_88 : decode cX10_event 88 = .ok (.lreturn, 1) := by decide +kernel
theorem dX10_event_89 : decode cX10_event 89 = .ok (.aload_n 0, 1) := by decide +kernel
theorem dX10_event_90 : decode cX10_event 90 = .ok (.getfield 39, 3) := by decide +kernel
theorem dX10_event_93 : decode cX10_event 93 = .ok (.iload_n 1, 1) := by decide +kernel
theorem dX10_event_94 : decode cX10_event 94 = .ok (.invokevirtual 290, 3) := by decide +kernel
theorem dX10_event_97 : decode cX10_event 97 = .ok (.i2l, 1) := by decide +kernel
theorem dX10_event_98 : decode cX10_event 98 = .ok (.lreturn, 1) := by decide +kernel
theorem dX10_event_99 : decode cX10_event 99 = .ok (.aload_n 0, 1) := by decide +kernel
theorem dX10_event_100 : decode cX10_event 100 = .ok (.getfield 39, 3) := by decide +kernel
theorem dX10_event_103 : decode cX10_event 103 = .ok (.getfield 293, 3) := by decide +kernel
theorem dX10_event_106 : decode cX10_event 106 = .ok (.getfield 297, 3) := by decide +kernel
theorem dX10_event_109 : decode cX10_event 109 = .ok (.iload_n 1, 1) := by decide +kernel
theorem dX10_event_110 : decode cX10_event 110 = .ok (.iaload, 1) := by decide +kernel
theorem dX10_event_111 : decode cX10_event 111 = .ok (.i2l, 1) := by decide +kernel
theorem dX10_event_112 : decode cX10_event 112 = .ok (.lreturn, 1) := by decide +kernel
theorem dX10_event_113 : decode cX10_event 113 = .ok (.aload_n 3, 1) := by decide +kernel
theorem dX10_event_114 : decode cX10_event 114 = .ok (.getfield 271, 3) := by decide +kernel
theorem dX10_event_117 : decode cX10_event 117 = .ok (.iload_n 1, 1) := by decide +kernel
theorem dX10_event_118 : decode cX10_event 118 = .ok (.laload, 1) := by decide +kernel
theorem dX10_event_119 : decode cX10_event 119 = .ok (.aload_n 3, 1) := by decide +kernel
theorem dX10_event_120 : decode cX10_event 120 = .ok (.getfield 274, 3) := by decide +kernel
theorem dX10_event_123 : decode cX10_event 123 = .ok (.iload_n 1, 1) := by decide +kernel
theorem dX10_event_124 : decode cX10_event 124 = .ok (.laload, 1) := by decide +kernel
theorem dX10_event_125 : decode cX10_event 125 = .ok (.aload_n 3, 1) := by decide +kernel
theorem dX10_event_126 : decode cX10_event 126 = .ok (.getfield 276, 3) := by decide +kernel
theorem dX10_event_129 : decode cX10_event 129 = .ok (.iload_n 1, 1) := by decide +kernel
theorem dX10_event_130 : decode cX10_event 130 = .ok (.laload, 1) := by decide +kernel
theorem dX10_event_131 : decode cX10_event 131 = .ok (.iload_n 2, 1) := by decide +kernel
theorem dX10_event_132 : decode cX10_event 132 = .ok (.invokestatic 236, 3) := by decide +kernel
theorem dX10_event_135 : decode cX10_event 135 = .ok (.lreturn, 1) := by decide +kernel
theorem dX10_status_0 : decode cX10_status 0 = .ok (.aload_n 0, 1) := by decide +kernel
theorem dX10_status_1 : decode cX10_status 1 = .ok (.invokevirtual 125, 3) := by decide +kernel
theorem dX10_status_4 : decode cX10_status 4 = .ok (.getfield 129, 3) := by decide +kernel
theorem dX10_status_7 : decode cX10_status 7 = .ok (.astore_n 3, 1) := by decide +kernel
theorem dX10_status_8 : decode cX10_status 8 = .ok (.iload_n 1, 1) := by decide +kernel
theorem dX10_status_9 : decode cX10_status 9 = .ok (.aload_n 3, 1) := by decide +kernel
theorem dX10_status_10 : decode cX10_status 10 = .ok (.getfield 158, 3) := by decide +kernel
theorem dX10_status_13 : decode cX10_status 13 = .ok (.invokestatic 254, 3) := by decide +kernel
theorem dX10_status_16 : decode cX10_status 16 = .ok (.aload_n 3, 1) := by decide +kernel
theorem dX10_status_17 : decode cX10_status 17 = .ok (.iload_n 1, 1) := by decide +kernel
theorem dX10_status_18 : decode cX10_status 18 = .ok (.invokevirtual 302, 3) := by decide +kernel
theorem dX10_status_21 : decode cX10_status 21 = .ok (.istore 4, 2) := by decide +kernel
theorem dX10_status_23 : decode cX10_status 23 = .ok (.iload_n 2, 1) := by decide +kernel
theorem dX10_status_24 : decode cX10_status 24 = .ok (.iconst (-1), 1) := by decide +kernel
theorem dX10_status_25 : decode cX10_status 25 = .ok (.if_icmp .ne 9, 3) := by decide +kernel
theorem dX10_status_28 : decode cX10_status 28 = .ok (.iload 4, 2) := by decide +kernel
theorem dX10_status_30 : decode cX10_status 30 = .ok (.invokestatic 263, 3) := by decide +kernel
theorem dX10_status_33 : decode cX10_status 33 = .ok (.ireturn, 1) := by decide +kernel
theorem dX10_status_34 : decode cX10_status 34 = .ok (.iconst 0, 1) := by decide +kernel
theorem dX10_status_35 : decode cX10_status 35 = .ok (.istore 5, 2) := by decide +kernel
theorem dX10_status_37 : decode cX10_status 37 = .ok (.iload 5, 2) := by decide +kernel
theorem dX10_status_39 : decode cX10_status 39 = .ok (.aload_n 0, 1) := by decide +kernel
theorem dX10_status_40 : decode cX10_status 40 = .ok (.getfield 10, 3) := by decide +kernel
theorem dX10_status_43 : decode cX10_status 43 = .ok (.getfield 119, 3) := by decide +kernel
theorem dX10_status_46 : decode cX10_status 46 = .ok (.if_icmp .ge 37, 3) := by decide +kernel
theorem dX10_status_49 : decode cX10_status 49 = .ok (.iload 4, 2) := by decide +kernel
theorem dX10_status_51 : decode cX10_status 51 = .ok (.iload 5, 2) := by decide +kernel
theorem dX10_status_53 : decode cX10_status 53 = .ok (.invokestatic 305, 3) := by decide +kernel
theorem dX10_status_56 : decode cX10_status 56 = .ok (.ifCond .eq 21, 3) := by decide +kernel
theorem dX10_status_59 : decode cX10_status 59 = .ok (.aload_n 0, 1) := by decide +kernel
theorem dX10_status_60 : decode cX10_status 60 = .ok (.getfield 10, 3) := by decide +kernel
theorem dX10_status_63 : decode cX10_status 63 = .ok (.aload_n 3, 1) := by decide +kernel
theorem dX10_status_64 : decode cX10_status 64 = .ok (.iload_n 1, 1) := by decide +kernel
theorem dX10_status_65 : decode cX10_status 65 = .ok (.iload 5, 2) := by decide +kernel
theorem dX10_status_67 : decode cX10_status 67 = .ok (.invokestatic 308, 3) := by decide +kernel
theorem dX10_status_70 : decode cX10_status 70 = .ok (.iload_n 2, 1) := by decide +kernel
theorem dX10_status_71 : decode cX10_status 71 = .ok (.if_icmp .ne 6, 3) := by decide +kernel
theorem dX10_status_74 : decode cX10_status 74 = .ok (.iload 5, 2) := by decide +kernel
theorem dX10_status_76 : decode cX10_status 76 = .ok (.ireturn, 1) := by decide +kernel
theorem dX10_status_77 : decode cX10_status 77 = .ok (.iinc 5 1, 3) := by decide +kernel
theorem dX10_status_80 : decode cX10_status 80 = .ok (.goto (-43), 3) := by decide +kernel
theorem dX10_status_83 : decode cX10_status 83 = .ok (.iconst (-1), 1) := by decide +kernel
theorem dX10_status_84 : decode cX10_status 84 = .ok (.ireturn, 1) := by decide +kernel
theorem dX10_rank_0 : decode cX10_rank 0 = .ok (.aload_n 0, 1) := by decide +kernel
theorem dX10_rank_1 : decode cX10_rank 1 = .ok (.iload_n 1, 1) := by decide +kernel
theorem dX10_rank_2 : decode cX10_rank 2 = .ok (.invokevirtual 122, 3) := by decide +kernel
theorem dX10_rank_5 : decode cX10_rank 5 = .ok (.aload_n 0, 1) := by decide +kernel
theorem dX10_rank_6 : decode cX10_rank 6 = .ok (.invokevirtual 125, 3) := by decide +kernel
theorem dX10_rank_9 : decode cX10_rank 9 = .ok (.getfield 129, 3) := by decide +kernel
theorem dX10_rank_12 : decode cX10_rank 12 = .ok (.astore_n 3, 1) := by decide +kernel
theorem dX10_rank_13 : decode cX10_rank 13 = .ok (.iload_n 2, 1) := by decide +kernel
theorem dX10_rank_14 : decode cX10_rank 14 = .ok (.aload_n 3, 1) := by decide +kernel
theorem dX10_rank_15 : decode cX10_rank 15 = .ok (.getfield 158, 3) := by decide +kernel
theorem dX10_rank_18 : decode cX10_rank 18 = .ok (.invokestatic 254, 3) := by decide +kernel
theorem dX10_rank_21 : decode cX10_rank 21 = .ok (.aload_n 3, 1) := by decide +kernel
theorem dX10_rank_22 : decode cX10_rank 22 = .ok (.iload_n 2, 1) := by decide +kernel
theorem dX10_rank_23 : decode cX10_rank 23 = .ok (.invokevirtual 302, 3) := by decide +kernel
theorem dX10_rank_26 : decode cX10_rank 26 = .ok (.iload_n 1, 1) := by decide +kernel
theorem dX10_rank_27 : decode cX10_rank 27 = .ok (.invokestatic 305, 3) := by decide +kernel
theorem dX10_rank_30 : decode cX10_rank 30 = .ok (.ifCond .ne 5, 3) := by decide +kernel
theorem dX10_rank_33 : decode cX10_rank 33 = .ok (.iconst (-1), 1) := by decide +kernel
theorem dX10_rank_34 : decode cX10_rank 34 = .ok (.ireturn, 1) := by decide +kernel
theorem dX10_rank_35 : decode cX10_rank 35 = .ok (.aload_n 0, 1) := by decide +kernel
theorem dX10_rank_36 : decode cX10_rank 36 = .ok (.getfield 10, 3) := by decide +kernel
theorem dX10_rank_39 : decode cX10_rank 39 = .ok (.aload_n 3, 1) := by decide +kernel
theorem dX10_rank_40 : decode cX10_rank 40 = .ok (.iload_n 2, 1) := by decide +kernel
theorem dX10_rank_41 : decode cX10_rank 41 = .ok (.iload_n 1, 1) := by decide +kernel
theorem dX10_rank_42 : decode cX10_rank 42 = .ok (.invokestatic 308, 3) := by decide +kernel
theorem dX10_rank_45 : decode cX10_rank 45 = .ok (.ireturn, 1) := by decide +kernel
theorem dX10_road_0 : decode cX10_road 0 = .ok (.aload_n 0, 1) := by decide +kernel
theorem dX10_road_1 : decode cX10_road 1 = .ok (.invokevirtual 125, 3) := by decide +kernel
theorem dX10_road_4 : decode cX10_road 4 = .ok (.getfield 129, 3) := by decide +kernel
theorem dX10_road_7 : decode cX10_road 7 = .ok (.astore_n 3, 1) := by decide +kernel
theorem dX10_road_8 : decode cX10_road 8 = .ok (.iload_n 1, 1) := by decide +kernel
theorem dX10_road_9 : decode cX10_road 9 = .ok (.aload_n 3, 1) := by decide +kernel
theorem dX10_road_10 : decode cX10_road 10 = .ok (.getfield 158, 3) := by decide +kernel
theorem dX10_road_13 : decode cX10_road 13 = .ok (.invokestatic 254, 3) := by decide +kernel
theorem dX10_road_16 : decode cX10_road 16 = .ok (.iload_n 2, 1) := by decide +kernel
theorem dX10_road_17 : decode cX10_road 17 = .ok (.aload_n 3, 1) := by decide +kernel
theorem dX10_road_18 : decode cX10_road 18 = .ok (.getfield 158, 3) := by decide +kernel
theorem dX10_road_21 : decode cX10_road 21 = .ok (.invokestatic 254, 3) := by decide +kernel
theorem dX10_road_24 : decode cX10_road 24 = .ok (.aload_n 0, 1) := by decide +kernel
theorem dX10_road_25 : decode cX10_road 25 = .ok (.getfield 39, 3) := by decide +kernel
theorem dX10_road_28 : decode cX10_road 28 = .ok (.getfield 293, 3) := by decide +kernel
theorem dX10_road_31 : decode cX10_road 31 = .ok (.aload_n 3, 1) := by decide +kernel
theorem dX10_road_32 : decode cX10_road 32 = .ok (.iload_n 1, 1) := by decide +kernel
theorem dX10_road_33 : decode cX10_road 33 = .ok (.iload_n 2, 1) := by decide +kernel
theorem dX10_road_34 : decode cX10_road 34 = .ok (.invokevirtual 314, 3) := by decide +kernel
theorem dX10_road_37 : decode cX10_road 37 = .ok (.ireturn, 1) := by decide +kernel
theorem dX10_view_0 : decode cX10_view 0 = .ok (.aload_n 0, 1) := by decide +kernel
theorem dX10_view_1 : decode cX10_view 1 = .ok (.invokevirtual 125, 3) := by decide +kernel
theorem dX10_view_4 : decode cX10_view 4 = .ok (.getfield 129, 3) := by decide +kernel
theorem dX10_view_7 : decode cX10_view 7 = .ok (.astore_n 2, 1) := by decide +kernel
theorem dX10_view_8 : decode cX10_view 8 = .ok (.iconst 0, 1) := by decide +kernel
theorem dX10_view_9 : decode cX10_view 9 = .ok (.istore_n 3, 1) := by decide +kernel
theorem dX10_view_10 : decode cX10_view 10 = .ok (.iconst (-1), 1) := by decide +kernel
theorem dX10_view_11 : decode cX10_view 11 = .ok (.istore 4, 2) := by decide +kernel
theorem dX10_view_13 : decode cX10_view 13 = .ok (.iconst 0, 1) := by decide +kernel
theorem dX10_view_14 : decode cX10_view 14 = .ok (.istore 5, 2) := by decide +kernel
theorem dX10_view_16 : decode cX10_view 16 = .ok (.iload 5, 2) := by decide +kernel
theorem dX10_view_18 : decode cX10_view 18 = .ok (.iconst 1, 1) := by decide +kernel
theorem dX10_view_19 : decode cX10_view 19 = .ok (.iadd, 1) := by decide +kernel
theorem dX10_view_20 : decode cX10_view 20 = .ok (.aload_n 2, 1) := by decide +kernel
theorem dX10_view_21 : decode cX10_view 21 = .ok (.getfield 158, 3) := by decide +kernel
theorem dX10_view_24 : decode cX10_view 24 = .ok (.if_icmp .ge 62, 3) := by decide +kernel
theorem dX10_view_27 : decode cX10_view 27 = .ok (.aload_n 2, 1) := by decide +kernel
theorem dX10_view_28 : decode cX10_view 28 = .ok (.iload 5, 2) := by decide +kernel
theorem dX10_view_30 : decode cX10_view 30 = .ok (.invokevirtual 318, 3) := by decide +kernel
theorem dX10_view_33 : decode cX10_view 33 = .ok (.ifCond .ne 6, 3) := by decide +kernel
theorem dX10_view_36 : decode cX10_view 36 = .ok (.goto 44, 3) := by decide +kernel
theorem dX10_view_39 : decode cX10_view 39 = .ok (.aload_n 0, 1) := by decide +kernel
theorem dX10_view_40 : decode cX10_view 40 = .ok (.getfield 10, 3) := by decide +kernel
theorem dX10_view_43 : decode cX10_view 43 = .ok (.aload_n 2, 1) := by decide +kernel
theorem dX10_view_44 : decode cX10_view 44 = .ok (.iload 5, 2) := by decide +kernel
theorem dX10_view_46 : decode cX10_view 46 = .ok (.invokestatic 321, 3) := by decide +kernel
theorem dX10_view_49 : decode cX10_view 49 = .ok (.istore 6, 2) := by decide +kernel
theorem dX10_view_51 : decode cX10_view 51 = .ok (.iload_n 3, 1) := by decide +kernel
theorem dX10_view_52 : decode cX10_view 52 = .ok (.ifCond .le 13, 3) := by decide +kernel
theorem dX10_view_55 : decode cX10_view 55 = .ok (.iload 6, 2) := by decide +kernel
theorem dX10_view_57 : decode cX10_view 57 = .ok (.iload 4, 2) := by decide +kernel
theorem dX10_view_59 : decode cX10_view 59 = .ok (.if_icmp .ne 6, 3) := by decide +kernel
theorem dX10_view_62 : decode cX10_view 62 = .ok (.goto 18, 3) := by decide +kernel
theorem dX10_view_65 : decode cX10_view 65 = .ok (.iload_n 3, 1) := by decide +kernel
theorem dX10_view_66 : decode cX10_view 66 = .ok (.iload_n 1, 1) := by decide +kernel
theorem dX10_view_67 : decode cX10_view 67 = .ok (.if_icmp .ne 6, 3) := by decide +kernel
theorem dX10_view_70 : decode cX10_view 70 = .ok (.iload 6, 2) := by decide +kernel
theorem dX10_view_72 : decode cX10_view 72 = .ok (.ireturn, 1) := by decide +kernel
theorem dX10_view_73 : decode cX10_view 73 = .ok (.iload 6, 2) := by decide +kernel
theorem dX10_view_75 : decode cX10_view 75 = .ok (.istore 4, 2) := by decide +kernel
theorem dX10_view_77 : decode cX10_view 77 = .ok (.iinc 3 1, 3) := by decide +kernel
theorem dX10_view_80 : decode cX10_view 80 = .ok (.iinc 5 1, 3) := by decide +kernel
theorem dX10_view_83 : decode cX10_view 83 = .ok (.goto (-67), 3) := by decide +kernel
theorem dX10_view_86 : decode cX10_view 86 = .ok (.iload_n 1, 1) := by decide +kernel
theorem dX10_view_87 : decode cX10_view 87 = .ok (.iconst (-1), 1) := by decide +kernel
theorem dX10_view_88 : decode cX10_view 88 = .ok (.if_icmp .ne 7, 3) := by decide +kernel
theorem dX10_view_91 : decode cX10_view 91 = .ok (.iload_n 3, 1) := by decide +kernel
theorem dX10_view_92 : decode cX10_view 92 = .ok (.goto 4, 3) := by decide +kernel
theorem dX10_view_95 : decode cX10_view 95 = .ok (.iconst (-1), 1) := by decide +kernel
theorem dX10_view_96 : decode cX10_view 96 = .ok (.ireturn, 1) := by decide +kernel
theorem dX10_tied_0 : decode cX10_tied 0 = .ok (.aload_n 0, 1) := by decide +kernel
theorem dX10_tied_1 : decode cX10_tied 1 = .ok (.iload_n 1, 1) := by decide +kernel
theorem dX10_tied_2 : decode cX10_tied 2 = .ok (.invokevirtual 122, 3) := by decide +kernel
theorem dX10_tied_5 : decode cX10_tied 5 = .ok (.aload_n 0, 1) := by decide +kernel
theorem dX10_tied_6 : decode cX10_tied 6 = .ok (.invokevirtual 125, 3) := by decide +kernel
theorem dX10_tied_9 : decode cX10_tied 9 = .ok (.getfield 188, 3) := by decide +kernel
theorem dX10_tied_12 : decode cX10_tied 12 = .ok (.getfield 325, 3) := by decide +kernel
theorem dX10_tied_15 : decode cX10_tied 15 = .ok (.iload_n 1, 1) := by decide +kernel
theorem dX10_tied_16 : decode cX10_tied 16 = .ok (.iaload, 1) := by decide +kernel
theorem dX10_tied_17 : decode cX10_tied 17 = .ok (.ireturn, 1) := by decide +kernel
theorem dX10_steps_0 : decode cX10_steps 0 = .ok (.aload_n 0, 1) := by decide +kernel
theorem dX10_steps_1 : decode cX10_steps 1 = .ok (.iload_n 1, 1) := by decide +kernel
theorem dX10_steps_2 : decode cX10_steps 2 = .ok (.invokevirtual 122, 3) := by decide +kernel
theorem dX10_steps_5 : decode cX10_steps 5 = .ok (.aload_n 0, 1) := by decide +kernel
theorem dX10_steps_6 : decode cX10_steps 6 = .ok (.iload_n 2, 1) := by decide +kernel
theorem dX10_steps_7 : decode cX10_steps 7 = .ok (.invokevirtual 122, 3) := by decide +kernel
theorem dX10_steps_10 : decode cX10_steps 10 = .ok (.aload_n 0, 1) := by decide +kernel
theorem dX10_steps_11 : decode cX10_steps 11 = .ok (.invokevirtual 125, 3) := by decide +kernel
theorem dX10_steps_14 : decode cX10_steps 14 = .ok (.getfield 188, 3) := by decide +kernel
theorem dX10_steps_17 : decode cX10_steps 17 = .ok (.iload_n 1, 1) := by decide +kernel
theorem dX10_steps_18 : decode cX10_steps 18 = .ok (.iload_n 2, 1) := by decide +kernel
theorem dX10_steps_19 : decode cX10_steps 19 = .ok (.invokevirtual 328, 3) := by decide +kernel
theorem dX10_steps_22 : decode cX10_steps 22 = .ok (.ireturn, 1) := by decide +kernel
theorem dX10_hull_0 : decode cX10_hull 0 = .ok (.aload_n 0, 1) := by decide +kernel
theorem dX10_hull_1 : decode cX10_hull 1 = .ok (.getfield 46, 3) := by decide +kernel
theorem dX10_hull_4 : decode cX10_hull 4 = .ok (.aload_n 0, 1) := by decide +kernel
theorem dX10_hull_5 : decode cX10_hull 5 = .ok (.getfield 10, 3) := by decide +kernel
theorem dX10_hull_8 : decode cX10_hull 8 = .ok (.invokevirtual 331, 3) := by decide +kernel
theorem dX10_hull_11 : decode cX10_hull 11 = .ok (.iload_n 1, 1) := by decide +kernel
theorem dX10_hull_12 : decode cX10_hull 12 = .ok (.aload_n 0, 1) := by decide +kernel
theorem dX10_hull_13 : decode cX10_hull 13 = .ok (.getfield 46, 3) := by decide +kernel
theorem dX10_hull_16 : decode cX10_hull 16 = .ok (.getfield 334, 3) := by decide +kernel
theorem dX10_hull_19 : decode cX10_hull 19 = .ok (.invokestatic 254, 3) := by decide +kernel
theorem dX10_hull_22 : decode cX10_hull 22 = .ok (.iload_n 2, 1) := by decide +kernel
theorem dX10_hull_23 : decode cX10_hull 23 = .ok (.ifCond .eq 15, 3) := by decide +kernel
theorem dX10_hull_26 : decode cX10_hull 26 = .ok (.aload_n 0, 1) := by decide +kernel
theorem dX10_hull_27 : decode cX10_hull 27 = .ok (.getfield 46, 3) := by decide +kernel
theorem dX10_hull_30 : decode cX10_hull 30 = .ok (.getfield 335, 3) := by decide +kernel
theorem dX10_hull_33 : decode cX10_hull 33 = .ok (.iload_n 1, 1) := by decide +kernel
theorem dX10_hull_34 : decode cX10_hull 34 = .ok (.iaload, 1) := by decide +kernel
theorem dX10_hull_35 : decode cX10_hull 35 = .ok (.goto 12, 3) := by decide +kernel
theorem dX10_hull_38 : decode cX10_hull 38 = .ok (.aload_n 0, 1) := by decide +kernel
theorem dX10_hull_39 : decode cX10_hull 39 = .ok (.getfield 46, 3) := by decide +kernel
theorem dX10_hull_42 : decode cX10_hull 42 = .ok (.getfield 337, 3) := by decide +kernel
theorem dX10_hull_45 : decode cX10_hull 45 = .ok (.iload_n 1, 1) := by decide +kernel
theorem dX10_hull_46 : decode cX10_hull 46 = .ok (.iaload, 1) := by decide +kernel
theorem dX10_hull_47 : decode cX10_hull 47 = .ok (.ireturn, 1) := by decide +kernel
theorem dX10_on_0 : decode cX10_on 0 = .ok (.aload_n 0, 1) := by decide +kernel
theorem dX10_on_1 : decode cX10_on 1 = .ok (.iload_n 1, 1) := by decide +kernel
theorem dX10_on_2 : decode cX10_on 2 = .ok (.invokevirtual 122, 3) := by decide +kernel
theorem dX10_on_5 : decode cX10_on 5 = .ok (.aload_n 0, 1) := by decide +kernel
theorem dX10_on_6 : decode cX10_on 6 = .ok (.invokevirtual 125, 3) := by decide +kernel
theorem dX10_on_9 : decode cX10_on 9 = .ok (.getfield 129, 3) := by decide +kernel
theorem dX10_on_12 : decode cX10_on 12 = .ok (.astore_n 3, 1) := by decide +kernel
theorem dX10_on_13 : decode cX10_on 13 = .ok (.iconst 0, 1) := by decide +kernel
theorem dX10_on_14 : decode cX10_on 14 = .ok (.istore 4, 2) := by decide +kernel
theorem dX10_on_16 : decode cX10_on 16 = .ok (.iconst 0, 1) := by decide +kernel
theorem dX10_on_17 : decode cX10_on 17 = .ok (.istore 5, 2) := by decide +kernel
theorem dX10_on_19 : decode cX10_on 19 = .ok (.iload 5, 2) := by decide +kernel
theorem dX10_on_21 : decode cX10_on 21 = .ok (.aload_n 3, 1) := by decide +kernel
theorem dX10_on_22 : decode cX10_on 22 = .ok (.getfield 133, 3) := by decide +kernel
theorem dX10_on_25 : decode cX10_on 25 = .ok (.if_icmp .ge 40, 3) := by decide +kernel
theorem dX10_on_28 : decode cX10_on 28 = .ok (.aload_n 3, 1) := by decide +kernel
theorem dX10_on_29 : decode cX10_on 29 = .ok (.getfield 260, 3) := by decide +kernel
theorem dX10_on_32 : decode cX10_on 32 = .ok (.aload_n 3, 1) := by decide +kernel
theorem dX10_on_33 : decode cX10_on 33 = .ok (.getfield 257, 3) := by decide +kernel
theorem dX10_on_36 : decode cX10_on 36 = .ok (.iload 5, 2) := by decide +kernel
theorem dX10_on_38 : decode cX10_on 38 = .ok (.iaload, 1) := by decide +kernel
theorem dX10_on_39 : decode cX10_on 39 = .ok (.iaload, 1) := by decide +kernel
theorem dX10_on_40 : decode cX10_on 40 = .ok (.iload_n 1, 1) := by decide +kernel
theorem dX10_on_41 : decode cX10_on 41 = .ok (.invokestatic 305, 3) := by decide +kernel
theorem dX10_on_44 : decode cX10_on 44 = .ok (.ifCond .eq 15, 3) := by decide +kernel
theorem dX10_on_47 : decode cX10_on 47 = .ok (.iload 4, 2) := by decide +kernel
theorem dX10_on_49 : decode cX10_on 49 = .ok (.iload_n 2, 1) := by decide +kernel
theorem dX10_on_50 : decode cX10_on 50 = .ok (.if_icmp .ne 6, 3) := by decide +kernel
theorem dX10_on_53 : decode cX10_on 53 = .ok (.iload 5, 2) := by decide +kernel
theorem dX10_on_55 : decode cX10_on 55 = .ok (.ireturn, 1) := by decide +kernel
theorem dX10_on_56 : decode cX10_on 56 = .ok (.iinc 4 1, 3) := by decide +kernel
theorem dX10_on_59 : decode cX10_on 59 = .ok (.iinc 5 1, 3) := by decide +kernel
theorem dX10_on_62 : decode cX10_on 62 = .ok (.goto (-43), 3) := by decide +kernel
theorem dX10_on_65 : decode cX10_on 65 = .ok (.iconst (-1), 1) := by decide +kernel
theorem dX10_on_66 : decode cX10_on 66 = .ok (.ireturn, 1) := by decide +kernel
theorem dX10_at_0 : decode cX10_at 0 = .ok (.iload_n 1, 1) := by decide +kernel
theorem dX10_at_1 : decode cX10_at 1 = .ok (.iload_n 2, 1) := by decide +kernel
theorem dX10_at_2 : decode cX10_at 2 = .ok (.invokestatic 97, 3) := by decide +kernel
theorem dX10_at_5 : decode cX10_at 5 = .ok (.iconst 0, 1) := by decide +kernel
theorem dX10_at_6 : decode cX10_at 6 = .ok (.istore_n 3, 1) := by decide +kernel
theorem dX10_at_7 : decode cX10_at 7 = .ok (.iconst 0, 1) := by decide +kernel
theorem dX10_at_8 : decode cX10_at 8 = .ok (.istore 4, 2) := by decide +kernel
theorem dX10_at_10 : decode cX10_at 10 = .ok (.iload 4, 2) := by decide +kernel
theorem dX10_at_12 : decode cX10_at 12 = .ok (.aload_n 0, 1) := by decide +kernel
theorem dX10_at_13 : decode cX10_at 13 = .ok (.getfield 10, 3) := by decide +kernel
theorem dX10_at_16 : decode cX10_at 16 = .ok (.getfield 119, 3) := by decide +kernel
theorem dX10_at_19 : decode cX10_at 19 = .ok (.if_icmp .ge 30, 3) := by decide +kernel
theorem dX10_at_22 : decode cX10_at 22 = .ok (.aload_n 0, 1) := by decide +kernel
theorem dX10_at_23 : decode cX10_at 23 = .ok (.getfield 10, 3) := by decide +kernel
theorem dX10_at_26 : decode cX10_at 26 = .ok (.iload 4, 2) := by decide +kernel
theorem dX10_at_28 : decode cX10_at 28 = .ok (.iload_n 1, 1) := by decide +kernel
theorem dX10_at_29 : decode cX10_at 29 = .ok (.iload_n 2, 1) := by decide +kernel
theorem dX10_at_30 : decode cX10_at 30 = .ok (.invokevirtual 339, 3) := by decide +kernel
theorem dX10_at_33 : decode cX10_at 33 = .ok (.ifCond .eq 10, 3) := by decide +kernel
theorem dX10_at_36 : decode cX10_at 36 = .ok (.iload_n 3, 1) := by decide +kernel
theorem dX10_at_37 : decode cX10_at 37 = .ok (.iconst 1, 1) := by decide +kernel
theorem dX10_at_38 : decode cX10_at 38 = .ok (.iload 4, 2) := by decide +kernel
theorem dX10_at_40 : decode cX10_at 40 = .ok (.ishl, 1) := by decide +kernel
theorem dX10_at_41 : decode cX10_at 41 = .ok (.ior, 1) := by decide +kernel
theorem dX10_at_42 : decode cX10_at 42 = .ok (.istore_n 3, 1) := by decide +kernel
theorem dX10_at_43 : decode cX10_at 43 = .ok (.iinc 4 1, 3) := by decide +kernel
theorem dX10_at_46 : decode cX10_at 46 = .ok (.goto (-36), 3) := by decide +kernel
theorem dX10_at_49 : decode cX10_at 49 = .ok (.iload_n 3, 1) := by decide +kernel
theorem dX10_at_50 : decode cX10_at 50 = .ok (.ireturn, 1) := by decide +kernel
theorem dX10_next_0 : decode cX10_next 0 = .ok (.iload_n 1, 1) := by decide +kernel
theorem dX10_next_1 : decode cX10_next 1 = .ok (.iload_n 2, 1) := by decide +kernel
theorem dX10_next_2 : decode cX10_next 2 = .ok (.invokestatic 97, 3) := by decide +kernel
theorem dX10_next_5 : decode cX10_next 5 = .ok (.iconst (-1), 1) := by decide +kernel
theorem dX10_next_6 : decode cX10_next 6 = .ok (.istore 4, 2) := by decide +kernel
theorem dX10_next_8 : decode cX10_next 8 = .ok (.lconst 0, 1) := by decide +kernel
theorem dX10_next_9 : decode cX10_next 9 = .ok (.lstore 5, 2) := by decide +kernel
theorem dX10_next_11 : decode cX10_next 11 = .ok (.lconst 1, 1) := by decide +kernel
theorem dX10_next_12 : decode cX10_next 12 = .ok (.lstore 7, 2) := by decide +kernel
theorem dX10_next_14 : decode cX10_next 14 = .ok (.iconst 0, 1) := by decide +kernel
theorem dX10_next_15 : decode cX10_next 15 = .ok (.istore 9, 2) := by decide +kernel
theorem dX10_next_17 : decode cX10_next 17 = .ok (.iload 9, 2) := by decide +kernel
theorem dX10_next_19 : decode cX10_next 19 = .ok (.aload_n 0, 1) := by decide +kernel
theorem dX10_next_20 : decode cX10_next 20 = .ok (.getfield 10, 3) := by decide +kernel
theorem dX10_next_23 : decode cX10_next 23 = .ok (.getfield 119, 3) := by decide +kernel
theorem dX10_next_26 : decode cX10_next 26 = .ok (.if_icmp .ge 107, 3) := by decide +kernel
theorem dX10_next_29 : decode cX10_next 29 = .ok (.aload_n 0, 1) := by decide +kernel
theorem dX10_next_30 : decode cX10_next 30 = .ok (.getfield 10, 3) := by decide +kernel
theorem dX10_next_33 : decode cX10_next 33 = .ok (.iload 9, 2) := by decide +kernel
theorem dX10_next_35 : decode cX10_next 35 = .ok (.iload_n 1, 1) := by decide +kernel
theorem dX10_next_36 : decode cX10_next 36 = .ok (.invokevirtual 343, 3) := by decide +kernel
theorem dX10_next_39 : decode cX10_next 39 = .ok (.ifCond .ne 6, 3) := by decide +kernel
theorem dX10_next_42 : decode cX10_next 42 = .ok (.goto 85, 3) := by decide +kernel
theorem dX10_next_45 : decode cX10_next 45 = .ok (.iload_n 3, 1) := by decide +kernel
theorem dX10_next_46 : decode cX10_next 46 = .ok (.ifCond .eq 17, 3) := by decide +kernel
theorem dX10_next_49 : decode cX10_next 49 = .ok (.aload_n 0, 1) := by decide +kernel
theorem dX10_next_50 : decode cX10_next 50 = .ok (.getfield 10, 3) := by decide +kernel
theorem dX10_next_53 : decode cX10_next 53 = .ok (.iload 9, 2) := by decide +kernel
theorem dX10_next_55 : decode cX10_next 55 = .ok (.iload_n 1, 1) := by decide +kernel
theorem dX10_next_56 : decode cX10_next 56 = .ok (.iload_n 2, 1) := by decide +kernel
theorem dX10_next_57 : decode cX10_next 57 = .ok (.invokevirtual 346, 3) := by decide +kernel
theorem dX10_next_60 : decode cX10_next 60 = .ok (.goto 15, 3) := by decide +kernel
theorem dX10_next_63 : decode cX10_next 63 = .ok (.aload_n 0, 1) := by decide +kernel
theorem dX10_next_64 : decode cX10_next 64 = .ok (.getfield 10, 3) := by decide +kernel
theorem dX10_next_67 : decode cX10_next 67 = .ok (.iload 9, 2) := by decide +kernel
theorem dX10_next_69 : decode cX10_next 69 = .ok (.iload_n 1, 1) := by decide +kernel
theorem dX10_next_70 : decode cX10_next 70 = .ok (.iload_n 2, 1) := by decide +kernel
theorem dX10_next_71 : decode cX10_next 71 = .ok (.invokevirtual 346, 3) := by decide +kernel
theorem dX10_next_74 : decode cX10_next 74 = .ok (.lneg, 1) := by decide +kernel
theorem dX10_next_75 : decode cX10_next 75 = .ok (.lstore 10, 2) := by decide +kernel
theorem dX10_next_77 : decode cX10_next 77 = .ok (.aload_n 0, 1) := by decide +kernel
theorem dX10_next_78 : decode cX10_next 78 = .ok (.getfield 10, 3) := by decide +kernel
theorem dX10_next_81 : decode cX10_next 81 = .ok (.iload 9, 2) := by decide +kernel
theorem dX10_next_83 : decode cX10_next 83 = .ok (.invokevirtual 350, 3) := by decide +kernel
theorem dX10_next_86 : decode cX10_next 86 = .ok (.lstore 12, 2) := by decide +kernel
theorem dX10_next_88 : decode cX10_next 88 = .ok (.lload 10, 2) := by decide +kernel
theorem dX10_next_90 : decode cX10_next 90 = .ok (.lconst 0, 1) := by decide +kernel
theorem dX10_next_91 : decode cX10_next 91 = .ok (.lcmp, 1) := by decide +kernel
theorem dX10_next_92 : decode cX10_next 92 = .ok (.ifCond .le 35, 3) := by decide +kernel
theorem dX10_next_95 : decode cX10_next 95 = .ok (.iload 4, 2) := by decide +kernel
theorem dX10_next_97 : decode cX10_next 97 = .ok (.iconst (-1), 1) := by decide +kernel
theorem dX10_next_98 : decode cX10_next 98 = .ok (.if_icmp .eq 17, 3) := by decide +kernel
theorem dX10_next_101 : decode cX10_next 101 = .ok (.lload 10, 2) := by decide +kernel
theorem dX10_next_103 : decode cX10_next 103 = .ok (.lload 7, 2) := by decide +kernel
theorem dX10_next_105 : decode cX10_next 105 = .ok (.lmul, 1) := by decide +kernel
theorem dX10_next_106 : decode cX10_next 106 = .ok (.lload 5, 2) := by decide +kernel
theorem dX10_next_108 : decode cX10_next 108 = .ok (.lload 12, 2) := by decide +kernel
theorem dX10_next_110 : decode cX10_next 110 = .ok (.lmul, 1) := by decide +kernel
theorem dX10_next_111 : decode cX10_next 111 = .ok (.lcmp, 1) := by decide +kernel
theorem dX10_next_112 : decode cX10_next 112 = .ok (.ifCond .ge 15, 3) := by decide +kernel
theorem dX10_next_115 : decode cX10_next 115 = .ok (.iload 9, 2) := by decide +kernel
theorem dX10_next_117 : decode cX10_next 117 = .ok (.istore 4, 2) := by decide +kernel
theorem dX10_next_119 : decode cX10_next 119 = .ok (.lload 10, 2) := by decide +kernel
theorem dX10_next_121 : decode cX10_next 121 = .ok (.lstore 5, 2) := by decide +kernel
theorem dX10_next_123 : decode cX10_next 123 = .ok (.lload 12, 2) := by decide +kernel
theorem dX10_next_125 : decode cX10_next 125 = .ok (.lstore 7, 2) := by decide +kernel
theorem dX10_next_127 : decode cX10_next 127 = .ok (.iinc 9 1, 3) := by decide +kernel
theorem dX10_next_130 : decode cX10_next 130 = .ok (.goto (-113), 3) := by decide +kernel
theorem dX10_next_133 : decode cX10_next 133 = .ok (.iload 4, 2) := by decide +kernel
theorem dX10_next_135 : decode cX10_next 135 = .ok (.ireturn, 1) := by decide +kernel
theorem dX10_over_0 : decode cX10_over 0 = .ok (.iload_n 1, 1) := by decide +kernel
theorem dX10_over_1 : decode cX10_over 1 = .ok (.iload_n 2, 1) := by decide +kernel
theorem dX10_over_2 : decode cX10_over 2 = .ok (.invokestatic 97, 3) := by decide +kernel
theorem dX10_over_5 : decode cX10_over 5 = .ok (.iconst 0, 1) := by decide +kernel
theorem dX10_over_6 : decode cX10_over 6 = .ok (.istore_n 3, 1) := by decide +kernel
theorem dX10_over_7 : decode cX10_over 7 = .ok (.iconst 0, 1) := by decide +kernel
theorem dX10_over_8 : decode cX10_over 8 = .ok (.istore 4, 2) := by decide +kernel
theorem dX10_over_10 : decode cX10_over 10 = .ok (.iload 4, 2) := by decide +kernel
theorem dX10_over_12 : decode cX10_over 12 = .ok (.aload_n 0, 1) := by decide +kernel
theorem dX10_over_13 : decode cX10_over 13 = .ok (.getfield 10, 3) := by decide +kernel
theorem dX10_over_16 : decode cX10_over 16 = .ok (.getfield 119, 3) := by decide +kernel
theorem dX10_over_19 : decode cX10_over 19 = .ok (.if_icmp .ge 68, 3) := by decide +kernel
theorem dX10_over_22 : decode cX10_over 22 = .ok (.aload_n 0, 1) := by decide +kernel
theorem dX10_over_23 : decode cX10_over 23 = .ok (.getfield 10, 3) := by decide +kernel
theorem dX10_over_26 : decode cX10_over 26 = .ok (.getfield 166, 3) := by decide +kernel
theorem dX10_over_29 : decode cX10_over 29 = .ok (.iload 4, 2) := by decide +kernel
theorem dX10_over_31 : decode cX10_over 31 = .ok (.iaload, 1) := by decide +kernel
theorem dX10_over_32 : decode cX10_over 32 = .ok (.iload_n 1, 1) := by decide +kernel
theorem dX10_over_33 : decode cX10_over 33 = .ok (.if_icmp .gt 21, 3) := by decide +kernel
theorem dX10_over_36 : decode cX10_over 36 = .ok (.aload_n 0, 1) := by decide +kernel
theorem dX10_over_37 : decode cX10_over 37 = .ok (.getfield 10, 3) := by decide +kernel
theorem dX10_over_40 : decode cX10_over 40 = .ok (.getfield 172, 3) := by decide +kernel
theorem dX10_over_43 : decode cX10_over 43 = .ok (.iload 4, 2) := by decide +kernel
theorem dX10_over_45 : decode cX10_over 45 = .ok (.iaload, 1) := by decide +kernel
theorem dX10_over_46 : decode cX10_over 46 = .ok (.iload_n 1, 1) := by decide +kernel
theorem dX10_over_47 : decode cX10_over 47 = .ok (.if_icmp .le 7, 3) := by decide +kernel
theorem dX10_over_50 : decode cX10_over 50 = .ok (.iconst 1, 1) := by decide +kernel
theorem dX10_over_51 : decode cX10_over 51 = .ok (.goto 4, 3) := by decide +kernel
theorem dX10_over_54 : decode cX10_over 54 = .ok (.iconst 0, 1) := by decide +kernel
theorem dX10_over_55 : decode cX10_over 55 = .ok (.istore 5, 2) := by decide +kernel
theorem dX10_over_57 : decode cX10_over 57 = .ok (.iload 5, 2) := by decide +kernel
theorem dX10_over_59 : decode cX10_over 59 = .ok (.ifCond .eq 22, 3) := by decide +kernel
theorem dX10_over_62 : decode cX10_over 62 = .ok (.aload_n 0, 1) := by decide +kernel
theorem dX10_over_63 : decode cX10_over 63 = .ok (.getfield 10, 3) := by decide +kernel
theorem dX10_over_66 : decode cX10_over 66 = .ok (.iload 4, 2) := by decide +kernel
theorem dX10_over_68 : decode cX10_over 68 = .ok (.iload_n 1, 1) := by decide +kernel
theorem dX10_over_69 : decode cX10_over 69 = .ok (.iload_n 2, 1) := by decide +kernel
theorem dX10_over_70 : decode cX10_over 70 = .ok (.invokevirtual 346, 3) := by decide +kernel
theorem dX10_over_73 : decode cX10_over 73 = .ok (.lconst 0, 1) := by decide +kernel
theorem dX10_over_74 : decode cX10_over 74 = .ok (.lcmp, 1) := by decide +kernel
theorem dX10_over_75 : decode cX10_over 75 = .ok (.ifCond .le 6, 3) := by decide +kernel
theorem dX10_over_78 : decode cX10_over 78 = .ok (.iinc 3 1, 3) := by decide +kernel
theorem dX10_over_81 : decode cX10_over 81 = .ok (.iinc 4 1, 3) := by decide +kernel
theorem dX10_over_84 : decode cX10_over 84 = .ok (.goto (-74), 3) := by decide +kernel
theorem dX10_over_87 : decode cX10_over 87 = .ok (.iload_n 3, 1) := by decide +kernel
theorem dX10_over_88 : decode cX10_over 88 = .ok (.ireturn, 1) := by decide +kernel
theorem dX10_sight_0 : decode cX10_sight 0 = .ok (.iload_n 1, 1) := by decide +kernel
theorem dX10_sight_1 : decode cX10_sight 1 = .ok (.iload_n 2, 1) := by decide +kernel
theorem dX10_sight_2 : decode cX10_sight 2 = .ok (.invokestatic 97, 3) := by decide +kernel
theorem dX10_sight_5 : decode cX10_sight 5 = .ok (.iload_n 3, 1) := by decide +kernel
theorem dX10_sight_6 : decode cX10_sight 6 = .ok (.iload 4, 2) := by decide +kernel
theorem dX10_sight_8 : decode cX10_sight 8 = .ok (.invokestatic 97, 3) := by decide +kernel
theorem dX10_sight_11 : decode cX10_sight 11 = .ok (.aload_n 0, 1) := by decide +kernel
theorem dX10_sight_12 : decode cX10_sight 12 = .ok (.getfield 19, 3) := by decide +kernel
theorem dX10_sight_15 : decode cX10_sight 15 = .ok (.iconst 0, 1) := by decide +kernel
theorem dX10_sight_16 : decode cX10_sight 16 = .ok (.iload_n 1, 1) := by decide +kernel
theorem dX10_sight_17 : decode cX10_sight 17 = .ok (.iload_n 2, 1) := by decide +kernel
theorem dX10_sight_18 : decode cX10_sight 18 = .ok (.iload_n 3, 1) := by decide +kernel
theorem dX10_sight_19 : decode cX10_sight 19 = .ok (.iload 4, 2) := by decide +kernel
theorem dX10_sight_21 : decode cX10_sight 21 = .ok (.invokevirtual 354, 3) := by decide +kernel
theorem dX10_sight_24 : decode cX10_sight 24 = .ok (.aload_n 0, 1) := by decide +kernel
theorem dX10_sight_25 : decode cX10_sight 25 = .ok (.getfield 39, 3) := by decide +kernel
theorem dX10_sight_28 : decode cX10_sight 28 = .ok (.getfield 357, 3) := by decide +kernel
theorem dX10_sight_31 : decode cX10_sight 31 = .ok (.astore 5, 2) := by decide +kernel
theorem dX10_sight_33 : decode cX10_sight 33 = .ok (.iconst (-1), 1) := by decide +kernel
theorem dX10_sight_34 : decode cX10_sight 34 = .ok (.istore 6, 2) := by decide +kernel
theorem dX10_sight_36 : decode cX10_sight 36 = .ok (.lconst 0, 1) := by decide +kernel
theorem dX10_sight_37 : decode cX10_sight 37 = .ok (.lstore 7, 2) := by decide +kernel
theorem dX10_sight_39 : decode cX10_sight 39 = .ok (.lconst 1, 1) := by decide +kernel
theorem dX10_sight_40 : decode cX10_sight 40 = .ok (.lstore 9, 2) := by decide +kernel
theorem dX10_sight_42 : decode cX10_sight 42 = .ok (.iconst 0, 1) := by decide +kernel
theorem dX10_sight_43 : decode cX10_sight 43 = .ok (.istore 11, 2) := by decide +kernel
theorem dX10_sight_45 : decode cX10_sight 45 = .ok (.iload 11, 2) := by decide +kernel
theorem dX10_sight_47 : decode cX10_sight 47 = .ok (.aload_n 0, 1) := by decide +kernel
theorem dX10_sight_48 : decode cX10_sight 48 = .ok (.getfield 10, 3) := by decide +kernel
theorem dX10_sight_51 : decode cX10_sight 51 = .ok (.getfield 119, 3) := by decide +kernel
theorem dX10_sight_54 : decode cX10_sight 54 = .ok (.if_icmp .ge 83, 3) := by decide +kernel
theorem dX10_sight_57 : decode cX10_sight 57 = .ok (.aload 5, 2) := by decide +kernel
theorem dX10_sight_59 : decode cX10_sight 59 = .ok (.aload_n 0, 1) := by decide +kernel
theorem dX10_sight_60 : decode cX10_sight 60 = .ok (.getfield 10, 3) := by decide +kernel
theorem dX10_sight_63 : decode cX10_sight 63 = .ok (.iload 11, 2) := by decide +kernel
theorem dX10_sight_65 : decode cX10_sight 65 = .ok (.aload_n 0, 1) := by decide +kernel
theorem dX10_sight_66 : decode cX10_sight 66 = .ok (.getfield 19, 3) := by decide +kernel
theorem dX10_sight_69 : decode cX10_sight 69 = .ok (.iconst 0, 1) := by decide +kernel
theorem dX10_sight_70 : decode cX10_sight 70 = .ok (.invokevirtual 361, 3) := by decide +kernel
theorem dX10_sight_73 : decode cX10_sight 73 = .ok (.aload 5, 2) := by decide +kernel
theorem dX10_sight_75 : decode cX10_sight 75 = .ok (.getfield 213, 3) := by decide +kernel
theorem dX10_sight_78 : decode cX10_sight 78 = .ok (.ifCond .ne 6, 3) := by decide +kernel
theorem dX10_sight_81 : decode cX10_sight 81 = .ok (.goto 50, 3) := by decide +kernel
theorem dX10_sight_84 : decode cX10_sight 84 = .ok (.aload 5, 2) := by decide +kernel
theorem dX10_sight_86 : decode cX10_sight 86 = .ok (.iload_n 1, 1) := by decide +kernel
theorem dX10_sight_87 : decode cX10_sight 87 = .ok (.iload_n 2, 1) := by decide +kernel
theorem dX10_sight_88 : decode cX10_sight 88 = .ok (.invokevirtual 365, 3) := by decide +kernel
theorem dX10_sight_91 : decode cX10_sight 91 = .ok (.lstore 12, 2) := by decide +kernel
theorem dX10_sight_93 : decode cX10_sight 93 = .ok (.iload 6, 2) := by decide +kernel
theorem dX10_sight_95 : decode cX10_sight 95 = .ok (.iconst (-1), 1) := by decide +kernel
theorem dX10_sight_96 : decode cX10_sight 96 = .ok (.if_icmp .eq 20, 3) := by decide +kernel
theorem dX10_sight_99 : decode cX10_sight 99 = .ok (.lload 12, 2) := by decide +kernel
theorem dX10_sight_101 : decode cX10_sight 101 = .ok (.lload 9, 2) := by decide +kernel
theorem dX10_sight_103 : decode cX10_sight 103 = .ok (.lmul, 1) := by decide +kernel
theorem dX10_sight_104 : decode cX10_sight 104 = .ok (.lload 7, 2) := by decide +kernel
theorem dX10_sight_106 : decode cX10_sight 106 = .ok (.aload 5, 2) := by decide +kernel
theorem dX10_sight_108 : decode cX10_sight 108 = .ok (.getfield 233, 3) := by decide +kernel
theorem dX10_sight_111 : decode cX10_sight 111 = .ok (.lmul, 1) := by decide +kernel
theorem dX10_sight_112 : decode cX10_sight 112 = .ok (.lcmp, 1) := by decide +kernel
theorem dX10_sight_113 : decode cX10_sight 113 = .ok (.ifCond .ge 18, 3) := by decide +kernel
theorem dX10_sight_116 : decode cX10_sight 116 = .ok (.iload 11, 2) := by decide +kernel
theorem dX10_sight_118 : decode cX10_sight 118 = .ok (.istore 6, 2) := by decide +kernel
theorem dX10_sight_120 : decode cX10_sight 120 = .ok (.lload 12, 2) := by decide +kernel
theorem dX10_sight_122 : decode cX10_sight 122 = .ok (.lstore 7, 2) := by decide +kernel
theorem dX10_sight_124 : decode cX10_sight 124 = .ok (.aload 5, 2) := by decide +kernel
theorem dX10_sight_126 : decode cX10_sight 126 = .ok (.getfield 233, 3) := by decide +kernel
theorem dX10_sight_129 : decode cX10_sight 129 = .ok (.lstore 9, 2) := by decide +kernel
theorem dX10_sight_131 : decode cX10_sight 131 = .ok (.iinc 11 1, 3) := by decide +kernel
theorem dX10_sight_134 : decode cX10_sight 134 = .ok (.goto (-89), 3) := by decide +kernel
theorem dX10_sight_137 : decode cX10_sight 137 = .ok (.iload 6, 2) := by decide +kernel
theorem dX10_sight_139 : decode cX10_sight 139 = .ok (.ireturn, 1) := by decide +kernel
theorem dX10_box_0 : decode cX10_box 0 = .ok (.iload_n 1, 1) := by decide +kernel
theorem dX10_box_1 : decode cX10_box 1 = .ok (.iload_n 2, 1) := by decide +kernel
theorem dX10_box_2 : decode cX10_box 2 = .ok (.invokestatic 97, 3) := by decide +kernel
theorem dX10_box_5 : decode cX10_box 5 = .ok (.iload_n 3, 1) := by decide +kernel
theorem dX10_box_6 : decode cX10_box 6 = .ok (.iload 4, 2) := by decide +kernel
theorem dX10_box_8 : decode cX10_box 8 = .ok (.invokestatic 97, 3) := by decide +kernel
theorem dX10_box_11 : decode cX10_box 11 = .ok (.iload_n 1, 1) := by decide +kernel
theorem dX10_box_12 : decode cX10_box 12 = .ok (.iload_n 3, 1) := by decide +kernel
theorem dX10_box_13 : decode cX10_box 13 = .ok (.if_icmp .gt 9, 3) := by decide +kernel
theorem dX10_box_16 : decode cX10_box 16 = .ok (.iload_n 2, 1) := by decide +kernel
theorem dX10_box_17 : decode cX10_box 17 = .ok (.iload 4, 2) := by decide +kernel
theorem dX10_box_19 : decode cX10_box 19 = .ok (.if_icmp .le 14, 3) := by decide +kernel
theorem dX10_box_22 : decode cX10_box 22 = .ok (.new 80, 3) := by decide +kernel
theorem dX10_box_25 : decode cX10_box 25 = .ok (.dup, 1) := by decide +kernel
theorem dX10_box_26 : decode cX10_box 26 = .ok (.ldc_w 369, 3) := by decide +kernel
theorem dX10_box_29 : decode cX10_box 29 = .ok (.invokespecial 84, 3) := by decide +kernel
theorem dX10_box_32 : decode cX10_box 32 = .ok (.athrow, 1) := by decide +kernel
theorem dX10_box_33 : decode cX10_box 33 = .ok (.iconst 0, 1) := by decide +kernel
theorem dX10_box_34 : decode cX10_box 34 = .ok (.istore 5, 2) := by decide +kernel
theorem dX10_box_36 : decode cX10_box 36 = .ok (.iconst 0, 1) := by decide +kernel
theorem dX10_box_37 : decode cX10_box 37 = .ok (.istore 6, 2) := by decide +kernel
theorem dX10_box_39 : decode cX10_box 39 = .ok (.iload 6, 2) := by decide +kernel
theorem dX10_box_41 : decode cX10_box 41 = .ok (.aload_n 0, 1) := by decide +kernel
theorem dX10_box_42 : decode cX10_box 42 = .ok (.getfield 10, 3) := by decide +kernel
theorem dX10_box_45 : decode cX10_box 45 = .ok (.getfield 119, 3) := by decide +kernel
theorem dX10_box_48 : decode cX10_box 48 = .ok (.if_icmp .ge 35, 3) := by decide +kernel
theorem dX10_box_51 : decode cX10_box 51 = .ok (.aload_n 0, 1) := by decide +kernel
theorem dX10_box_52 : decode cX10_box 52 = .ok (.getfield 10, 3) := by decide +kernel
theorem dX10_box_55 : decode cX10_box 55 = .ok (.iload 6, 2) := by decide +kernel
theorem dX10_box_57 : decode cX10_box 57 = .ok (.iload_n 1, 1) := by decide +kernel
theorem dX10_box_58 : decode cX10_box 58 = .ok (.iload_n 2, 1) := by decide +kernel
theorem dX10_box_59 : decode cX10_box 59 = .ok (.iload_n 3, 1) := by decide +kernel
theorem dX10_box_60 : decode cX10_box 60 = .ok (.iload 4, 2) := by decide +kernel
theorem dX10_box_62 : decode cX10_box 62 = .ok (.invokevirtual 371, 3) := by decide +kernel
theorem dX10_box_65 : decode cX10_box 65 = .ok (.ifCond .eq 12, 3) := by decide +kernel
theorem dX10_box_68 : decode cX10_box 68 = .ok (.iload 5, 2) := by decide +kernel
theorem dX10_box_70 : decode cX10_box 70 = .ok (.iconst 1, 1) := by decide +kernel
theorem dX10_box_71 : decode cX10_box 71 = .ok (.iload 6, 2) := by decide +kernel
theorem dX10_box_73 : decode cX10_box 73 = .ok (.ishl, 1) := by decide +kernel
theorem dX10_box_74 : decode cX10_box 74 = .ok (.ior, 1) := by decide +kernel
theorem dX10_box_75 : decode cX10_box 75 = .ok (.istore 5, 2) := by decide +kernel
theorem dX10_box_77 : decode cX10_box 77 = .ok (.iinc 6 1, 3) := by decide +kernel
theorem dX10_box_80 : decode cX10_box 80 = .ok (.goto (-41), 3) := by decide +kernel
theorem dX10_box_83 : decode cX10_box 83 = .ok (.iload 5, 2) := by decide +kernel
theorem dX10_box_85 : decode cX10_box 85 = .ok (.ireturn, 1) := by decide +kernel
theorem dX10_tinted_0 : decode cX10_tinted 0 = .ok (.iload_n 1, 1) := by decide +kernel
theorem dX10_tinted_1 : decode cX10_tinted 1 = .ok (.invokestatic 101, 3) := by decide +kernel
theorem dX10_tinted_4 : decode cX10_tinted 4 = .ok (.iload_n 2, 1) := by decide +kernel
theorem dX10_tinted_5 : decode cX10_tinted 5 = .ok (.invokestatic 101, 3) := by decide +kernel
theorem dX10_tinted_8 : decode cX10_tinted 8 = .ok (.aload_n 0, 1) := by decide +kernel
theorem dX10_tinted_9 : decode cX10_tinted 9 = .ok (.invokevirtual 125, 3) := by decide +kernel
theorem dX10_tinted_12 : decode cX10_tinted 12 = .ok (.getfield 129, 3) := by decide +kernel
theorem dX10_tinted_15 : decode cX10_tinted 15 = .ok (.astore_n 3, 1) := by decide +kernel
theorem dX10_tinted_16 : decode cX10_tinted 16 = .ok (.iconst 0, 1) := by decide +kernel
theorem dX10_tinted_17 : decode cX10_tinted 17 = .ok (.istore 4, 2) := by decide +kernel
theorem dX10_tinted_19 : decode cX10_tinted 19 = .ok (.iconst 0, 1) := by decide +kernel
theorem dX10_tinted_20 : decode cX10_tinted 20 = .ok (.istore 5, 2) := by decide +kernel
theorem dX10_tinted_22 : decode cX10_tinted 22 = .ok (.iload 5, 2) := by decide +kernel
theorem dX10_tinted_24 : decode cX10_tinted 24 = .ok (.aload_n 3, 1) := by decide +kernel
theorem dX10_tinted_25 : decode cX10_tinted 25 = .ok (.getfield 133, 3) := by decide +kernel
theorem dX10_tinted_28 : decode cX10_tinted 28 = .ok (.if_icmp .ge 96, 3) := by decide +kernel
theorem dX10_tinted_31 : decode cX10_tinted 31 = .ok (.aload_n 3, 1) := by decide +kernel
theorem dX10_tinted_32 : decode cX10_tinted 32 = .ok (.getfield 260, 3) := by decide +kernel
theorem dX10_tinted_35 : decode cX10_tinted 35 = .ok (.aload_n 3, 1) := by decide +kernel
theorem dX10_tinted_36 : decode cX10_tinted 36 = .ok (.getfield 257, 3) := by decide +kernel
theorem dX10_tinted_39 : decode cX10_tinted 39 = .ok (.iload 5, 2) := by decide +kernel
theorem dX10_tinted_41 : decode cX10_tinted 41 = .ok (.iaload, 1) := by decide +kernel
theorem dX10_tinted_42 : decode cX10_tinted 42 = .ok (.iaload, 1) := by decide +kernel
theorem dX10_tinted_43 : decode cX10_tinted 43 = .ok (.istore 6, 2) := by decide +kernel
theorem dX10_tinted_45 : decode cX10_tinted 45 = .ok (.aload_n 0, 1) := by decide +kernel
theorem dX10_tinted_46 : decode cX10_tinted 46 = .ok (.getfield 10, 3) := by decide +kernel
theorem dX10_tinted_49 : decode cX10_tinted 49 = .ok (.iload_n 1, 1) := by decide +kernel
theorem dX10_tinted_50 : decode cX10_tinted 50 = .ok (.invokevirtual 375, 3) := by decide +kernel
theorem dX10_tinted_53 : decode cX10_tinted 53 = .ok (.iload 6, 2) := by decide +kernel
theorem dX10_tinted_55 : decode cX10_tinted 55 = .ok (.iand, 1) := by decide +kernel
theorem dX10_tinted_56 : decode cX10_tinted 56 = .ok (.istore 7, 2) := by decide +kernel
theorem dX10_tinted_58 : decode cX10_tinted 58 = .ok (.aload_n 0, 1) := by decide +kernel
theorem dX10_tinted_59 : decode cX10_tinted 59 = .ok (.getfield 10, 3) := by decide +kernel
theorem dX10_tinted_62 : decode cX10_tinted 62 = .ok (.iload_n 2, 1) := by decide +kernel
theorem dX10_tinted_63 : decode cX10_tinted 63 = .ok (.invokevirtual 375, 3) := by decide +kernel
theorem dX10_tinted_66 : decode cX10_tinted 66 = .ok (.iload 6, 2) := by decide +kernel
theorem dX10_tinted_68 : decode cX10_tinted 68 = .ok (.iand, 1) := by decide +kernel
theorem dX10_tinted_69 : decode cX10_tinted 69 = .ok (.istore 8, 2) := by decide +kernel
theorem dX10_tinted_71 : decode cX10_tinted 71 = .ok (.iload_n 1, 1) := by decide +kernel
theorem dX10_tinted_72 : decode cX10_tinted 72 = .ok (.iload_n 2, 1) := by decide +kernel
theorem dX10_tinted_73 : decode cX10_tinted 73 = .ok (.if_icmp .ne 20, 3) := by decide +kernel
theorem dX10_tinted_76 : decode cX10_tinted 76 = .ok (.iload 7, 2) := by decide +kernel
theorem dX10_tinted_78 : decode cX10_tinted 78 = .ok (.invokestatic 263, 3) := by decide +kernel
theorem dX10_tinted_81 : decode cX10_tinted 81 = .ok (.iconst 1, 1) := by decide +kernel
theorem dX10_tinted_82 : decode cX10_tinted 82 = .ok (.if_icmp .le 7, 3) := by decide +kernel
theorem dX10_tinted_85 : decode cX10_tinted 85 = .ok (.iconst 1, 1) := by decide +kernel
theorem dX10_tinted_86 : decode cX10_tinted 86 = .ok (.goto 22, 3) := by decide +kernel
theorem dX10_tinted_89 : decode cX10_tinted 89 = .ok (.iconst 0, 1) := by decide +kernel
theorem dX10_tinted_90 : decode cX10_tinted 90 = .ok (.goto 18, 3) := by decide +kernel
theorem dX10_tinted_93 : decode cX10_tinted 93 = .ok (.iload 7, 2) := by decide +kernel
theorem dX10_tinted_95 : decode cX10_tinted 95 = .ok (.ifCond .eq 12, 3) := by decide +kernel
theorem dX10_tinted_98 : decode cX10_tinted 98 = .ok (.iload 8, 2) := by decide +kernel
theorem dX10_tinted_100 : decode cX10_tinted 100 = .ok (.ifCond .eq 7, 3) := by decide +kernel
theorem dX10_tinted_103 : decode cX10_tinted 103 = .ok (.iconst 1, 1) := by decide +kernel
theorem dX10_tinted_104 : decode cX10_tinted 104 = .ok (.goto 4, 3) := by decide +kernel
theorem dX10_tinted_107 : decode cX10_tinted 107 = .ok (.iconst 0, 1) := by decide +kernel
theorem dX10_tinted_108 : decode cX10_tinted 108 = .ok (.istore 9, 2) := by decide +kernel
theorem dX10_tinted_110 : decode cX10_tinted 110 = .ok (.iload 9, 2) := by decide +kernel
theorem dX10_tinted_112 : decode cX10_tinted 112 = .ok (.ifCond .eq 6, 3) := by decide +kernel
theorem dX10_tinted_115 : decode cX10_tinted 115 = .ok (.iinc 4 1, 3) := by decide +kernel
theorem dX10_tinted_118 : decode cX10_tinted 118 = .ok (.iinc 5 1, 3) := by decide +kernel
theorem dX10_tinted_121 : decode cX10_tinted 121 = .ok (.goto (-99), 3) := by decide +kernel
theorem dX10_tinted_124 : decode cX10_tinted 124 = .ok (.iload 4, 2) := by decide +kernel
theorem dX10_tinted_126 : decode cX10_tinted 126 = .ok (.ireturn, 1) := by decide +kernel
theorem dX10_image_0 : decode cX10_image 0 = .ok (.aload_n 0, 1) := by decide +kernel
theorem dX10_image_1 : decode cX10_image 1 = .ok (.getfield 16, 3) := by decide +kernel
theorem dX10_image_4 : decode cX10_image 4 = .ok (.aload_n 0, 1) := by decide +kernel
theorem dX10_image_5 : decode cX10_image 5 = .ok (.getfield 10, 3) := by decide +kernel
theorem dX10_image_8 : decode cX10_image 8 = .ok (.invokevirtual 378, 3) := by decide +kernel
theorem dX10_image_11 : decode cX10_image 11 = .ok (.aload_n 0, 1) := by decide +kernel
theorem dX10_image_12 : decode cX10_image 12 = .ok (.iconst 1, 1) := by decide +kernel
theorem dX10_image_13 : decode cX10_image 13 = .ok (.putfield 50, 3) := by decide +kernel
theorem dX10_image_16 : decode cX10_image 16 = .ok (.return_, 1) := by decide +kernel
theorem dX10_back_0 : decode cX10_back 0 = .ok (.aload_n 0, 1) := by decide +kernel
theorem dX10_back_1 : decode cX10_back 1 = .ok (.getfield 50, 3) := by decide +kernel
theorem dX10_back_4 : decode cX10_back 4 = .ok (.ifCond .ne 5, 3) := by decide +kernel
theorem dX10_back_7 : decode cX10_back 7 = .ok (.iconst 0, 1) := by decide +kernel
theorem dX10_back_8 : decode cX10_back 8 = .ok (.ireturn, 1) := by decide +kernel
theorem dX10_back_9 : decode cX10_back 9 = .ok (.aload_n 0, 1) := by decide +kernel
theorem dX10_back_10 : decode cX10_back 10 = .ok (.getfield 25, 3) := by decide +kernel
theorem dX10_back_13 : decode cX10_back 13 = .ok (.invokevirtual 87, 3) := by decide +kernel
theorem dX10_back_16 : decode cX10_back 16 = .ok (.aload_n 0, 1) := by decide +kernel
theorem dX10_back_17 : decode cX10_back 17 = .ok (.aload_n 0, 1) := by decide +kernel
theorem dX10_back_18 : decode cX10_back 18 = .ok (.getfield 16, 3) := by decide +kernel
theorem dX10_back_21 : decode cX10_back 21 = .ok (.invokevirtual 93, 3) := by decide +kernel
theorem dX10_back_24 : decode cX10_back 24 = .ok (.iconst 1, 1) := by decide +kernel
theorem dX10_back_25 : decode cX10_back 25 = .ok (.ireturn, 1) := by decide +kernel
theorem dX10_count_0 : decode cX10_count 0 = .ok (.aload_n 0, 1) := by decide +kernel
theorem dX10_count_1 : decode cX10_count 1 = .ok (.invokevirtual 125, 3) := by decide +kernel
theorem dX10_count_4 : decode cX10_count 4 = .ok (.astore_n 2, 1) := by decide +kernel
theorem dX10_count_5 : decode cX10_count 5 = .ok (.iload_n 1, 1) := by decide +kernel
theorem dX10_count_6 : decode cX10_count 6 = .ok (.tableswitch 107 0 7 #[46, 54, 62, 70, 78, 86, 94, 99], 46) := by decide +kernel
theorem dX10_count_52 : decode cX10_count 52 = .ok (.aload_n 0, 1) := by decide +kernel
theorem dX10_count_53 : decode cX10_count 53 = .ok (.getfield 10, 3) := by decide +kernel
theorem dX10_count_56 : decode cX10_count 56 = .ok (.getfield 119, 3) := by decide +kernel
theorem dX10_count_59 : decode cX10_count 59 = .ok (.ireturn, 1) := by decide +kernel
theorem dX10_count_60 : decode cX10_count 60 = .ok (.aload_n 2, 1) := by decide +kernel
theorem dX10_count_61 : decode cX10_count 61 = .ok (.getfield 129, 3) := by decide +kernel
theorem dX10_count_64 : decode cX10_count 64 = .ok (.getfield 133, 3) := by decide +kernel
theorem dX10_count_67 : decode cX10_count 67 = .ok (.ireturn, 1) := by decide +kernel
theorem dX10_count_68 : decode cX10_count 68 = .ok (.aload_n 2, 1) := by decide +kernel
theorem dX10_count_69 : decode cX10_count 69 = .ok (.getfield 129, 3) := by decide +kernel
theorem dX10_count_72 : decode cX10_count 72 = .ok (.getfield 158, 3) := by decide +kernel
theorem dX10_count_75 : decode cX10_count 75 = .ok (.ireturn, 1) := by decide +kernel
theorem dX10_count_76 : decode cX10_count 76 = .ok (.aload_n 2, 1) := by decide +kernel
theorem dX10_count_77 : decode cX10_count 77 = .ok (.getfield 188, 3) := by decide +kernel
theorem dX10_count_80 : decode cX10_count 80 = .ok (.getfield 381, 3) := by decide +kernel
theorem dX10_count_83 : decode cX10_count 83 = .ok (.ireturn, 1) := by decide +kernel
theorem dX10_count_84 : decode cX10_count 84 = .ok (.aload_n 2, 1) := by decide +kernel
theorem dX10_count_85 : decode cX10_count 85 = .ok (.getfield 293, 3) := by decide +kernel
theorem dX10_count_88 : decode cX10_count 88 = .ok (.getfield 384, 3) := by decide +kernel
theorem dX10_count_91 : decode cX10_count 91 = .ok (.ireturn, 1) := by decide +kernel
theorem dX10_count_92 : decode cX10_count 92 = .ok (.aload_n 2, 1) := by decide +kernel
theorem dX10_count_93 : decode cX10_count 93 = .ok (.getfield 188, 3) := by decide +kernel
theorem dX10_count_96 : decode cX10_count 96 = .ok (.invokevirtual 387, 3) := by decide +kernel
theorem dX10_count_99 : decode cX10_count 99 = .ok (.ireturn, 1) := by decide +kernel
theorem dX10_count_100 : decode cX10_count 100 = .ok (.aload_n 2, 1) := by decide +kernel
theorem dX10_count_101 : decode cX10_count 101 = .ok (.invokevirtual 391, 3) := by decide +kernel
theorem dX10_count_104 : decode cX10_count 104 = .ok (.ireturn, 1) := by decide +kernel
theorem dX10_count_105 : decode cX10_count 105 = .ok (.aload_n 2, 1) := by decide +kernel
theorem dX10_count_106 : decode cX10_count 106 = .ok (.getfield 129, 3) := by decide +kernel
theorem dX10_count_109 : decode cX10_count 109 = .ok (.invokevirtual 394, 3) := by decide +kernel
theorem dX10_count_112 : decode cX10_count 112 = .ok (.ireturn, 1) := by decide +kernel
theorem dX10_count_113 : decode cX10_count 113 = .ok (.aload_n 0, 1) := by decide +kernel
theorem dX10_count_114 : decode cX10_count 114 = .ok (.aload_n 2, 1) := by decide +kernel
theorem dX10_count_115 : decode cX10_count 115 = .ok (.iload_n 1, 1) := by decide +kernel
theorem dX10_count_116 : decode cX10_count 116 = .ok (.invokevirtual 397, 3) := by decide +kernel
theorem dX10_count_119 : decode cX10_count 119 = .ok (.ireturn, 1) := by decide +kernel
theorem dX10_countFurther_0 : decode cX10_countFurther 0 = .ok (.iload_n 2, 1) := by decide +kernel
theorem dX10_countFurther_1 : decode cX10_countFurther 1 = .ok (.tableswitch 130 8 15 #[47, 55, 70, 75, 83, 98, 103, 122], 47) := by decide +kernel
theorem dX10_countFurther_48 : decode cX10_countFurther 48 = .ok (.aload_n 1, 1) := by decide +kernel
theorem dX10_countFurther_49 : decode cX10_countFurther 49 = .ok (.getfield 129, 3) := by decide +kernel
theorem dX10_countFurther_52 : decode cX10_countFurther 52 = .ok (.invokevirtual 401, 3) := by decide +kernel
theorem dX10_countFurther_55 : decode cX10_countFurther 55 = .ok (.ireturn, 1) := by decide +kernel
theorem dX10_countFurther_56 : decode cX10_countFurther 56 = .ok (.aload_n 1, 1) := by decide +kernel
theorem dX10_countFurther_57 : decode cX10_countFurther 57 = .ok (.getfield 129, 3) := by decide +kernel
theorem dX10_countFurther_60 : decode cX10_countFurther 60 = .ok (.aload_n 1, 1) := by decide +kernel
theorem dX10_countFurther_61 : decode cX10_countFurther 61 = .ok (.getfield 129, 3) := by decide +kernel
theorem dX10_countFurther_64 : decode cX10_countFurther 64 = .ok (.invokevirtual 401, 3) := by decide +kernel
theorem dX10_countFurther_67 : decode cX10_countFurther 67 = .ok (.invokevirtual 404, 3) := by decide +kernel
theorem dX10_countFurther_70 : decode cX10_countFurther 70 = .ok (.ireturn, 1) := by decide +kernel
theorem dX10_countFurther_71 : decode cX10_countFurther 71 = .ok (.aload_n 1, 1) := by decide +kernel
theorem dX10_countFurther_72 : decode cX10_countFurther 72 = .ok (.invokevirtual 407, 3) := by decide +kernel
theorem dX10_countFurther_75 : decode cX10_countFurther 75 = .ok (.ireturn, 1) := by decide +kernel
theorem dX10_countFurther_76 : decode cX10_countFurther 76 = .ok (.aload_n 0, 1) := by decide +kernel
theorem dX10_countFurther_77 : decode cX10_countFurther 77 = .ok (.getfield 25, 3) := by decide +kernel
theorem dX10_countFurther_80 : decode cX10_countFurther 80 = .ok (.getfield 159, 3) := by decide +kernel
theorem dX10_countFurther_83 : decode cX10_countFurther 83 = .ok (.ireturn, 1) := by decide +kernel
theorem dX10_countFurther_84 : decode cX10_countFurther 84 = .ok (.aload_n 1, 1) := by decide +kernel
theorem dX10_countFurther_85 : decode cX10_countFurther 85 = .ok (.getfield 293, 3) := by decide +kernel
theorem dX10_countFurther_88 : decode cX10_countFurther 88 = .ok (.aload_n 1, 1) := by decide +kernel
theorem dX10_countFurther_89 : decode cX10_countFurther 89 = .ok (.getfield 129, 3) := by decide +kernel
theorem dX10_countFurther_92 : decode cX10_countFurther 92 = .ok (.getfield 158, 3) := by decide +kernel
theorem dX10_countFurther_95 : decode cX10_countFurther 95 = .ok (.invokevirtual 410, 3) := by decide +kernel
theorem dX10_countFurther_98 : decode cX10_countFurther 98 = .ok (.ireturn, 1) := by decide +kernel
theorem dX10_countFurther_99 : decode cX10_countFurther 99 = .ok (.aload_n 1, 1) := by decide +kernel
theorem dX10_countFurther_100 : decode cX10_countFurther 100 = .ok (.invokevirtual 413, 3) := by decide +kernel
theorem dX10_countFurther_103 : decode cX10_countFurther 103 = .ok (.ireturn, 1) := by decide +kernel
theorem dX10_countFurther_104 : decode cX10_countFurther 104 = .ok (.aload_n 0, 1) := by decide +kernel
theorem dX10_countFurther_105 : decode cX10_countFurther 105 = .ok (.getfield 46, 3) := by decide +kernel
theorem dX10_countFurther_108 : decode cX10_countFurther 108 = .ok (.aload_n 0, 1) := by decide +kernel
theorem dX10_countFurther_109 : decode cX10_countFurther 109 = .ok (.getfield 10, 3) := by decide +kernel
theorem dX10_countFurther_112 : decode cX10_countFurther 112 = .ok (.invokevirtual 331, 3) := by decide +kernel
theorem dX10_countFurther_115 : decode cX10_countFurther 115 = .ok (.aload_n 0, 1) := by decide +kernel
theorem dX10_countFurther_116 : decode cX10_countFurther 116 = .ok (.getfield 46, 3) := by decide +kernel
theorem dX10_countFurther_119 : decode cX10_countFurther 119 = .ok (.getfield 334, 3) := by decide +kernel
theorem dX10_countFurther_122 : decode cX10_countFurther 122 = .ok (.ireturn, 1) := by decide +kernel
theorem dX10_countFurther_123 : decode cX10_countFurther 123 = .ok (.aload_n 1, 1) := by decide +kernel
theorem dX10_countFurther_124 : decode cX10_countFurther 124 = .ok (.getfield 188, 3) := by decide +kernel
theorem dX10_countFurther_127 : decode cX10_countFurther 127 = .ok (.getfield 416, 3) := by decide +kernel
theorem dX10_countFurther_130 : decode cX10_countFurther 130 = .ok (.ireturn, 1) := by decide +kernel
theorem dX10_countFurther_131 : decode cX10_countFurther 131 = .ok (.iconst (-1), 1) := by decide +kernel
theorem dX10_countFurther_132 : decode cX10_countFurther 132 = .ok (.ireturn, 1) := by decide +kernel
theorem dX10_checkSegment_0 : decode cX10_checkSegment 0 = .ok (.iload_n 1, 1) := by decide +kernel
theorem dX10_checkSegment_1 : decode cX10_checkSegment 1 = .ok (.aload_n 0, 1) := by decide +kernel
theorem dX10_checkSegment_2 : decode cX10_checkSegment 2 = .ok (.getfield 10, 3) := by decide +kernel
theorem dX10_checkSegment_5 : decode cX10_checkSegment 5 = .ok (.getfield 119, 3) := by decide +kernel
theorem dX10_checkSegment_8 : decode cX10_checkSegment 8 = .ok (.invokestatic 254, 3) := by decide +kernel
theorem dX10_checkSegment_11 : decode cX10_checkSegment 11 = .ok (.return_, 1) := by decide +kernel
theorem dX10_checkPlace_0 : decode cX10_checkPlace 0 = .ok (.iload_n 0, 1) := by decide +kernel
theorem dX10_checkPlace_1 : decode cX10_checkPlace 1 = .ok (.ifCond .lt 8, 3) := by decide +kernel
theorem dX10_checkPlace_4 : decode cX10_checkPlace 4 = .ok (.iload_n 0, 1) := by decide +kernel
theorem dX10_checkPlace_5 : decode cX10_checkPlace 5 = .ok (.iload_n 1, 1) := by decide +kernel
theorem dX10_checkPlace_6 : decode cX10_checkPlace 6 = .ok (.if_icmp .lt 14, 3) := by decide +kernel
theorem dX10_checkPlace_9 : decode cX10_checkPlace 9 = .ok (.new 419, 3) := by decide +kernel
theorem dX10_checkPlace_12 : decode cX10_checkPlace 12 = .ok (.dup, 1) := by decide +kernel
theorem dX10_checkPlace_13 : decode cX10_checkPlace 13 = .ok (.ldc_w 421, 3) := by decide +kernel
theorem dX10_checkPlace_16 : decode cX10_checkPlace 16 = .ok (.invokespecial 423, 3) := by decide +kernel
theorem dX10_checkPlace_19 : decode cX10_checkPlace 19 = .ok (.athrow, 1) := by decide +kernel
theorem dX10_checkPlace_20 : decode cX10_checkPlace 20 = .ok (.return_, 1) := by decide +kernel
theorem dX10_checkQuestion_0 : decode cX10_checkQuestion 0 = .ok (.iload_n 0, 1) := by decide +kernel
theorem dX10_checkQuestion_1 : decode cX10_checkQuestion 1 = .ok (.ifCond .lt 8, 3) := by decide +kernel
theorem dX10_checkQuestion_4 : decode cX10_checkQuestion 4 = .ok (.iload_n 0, 1) := by decide +kernel
theorem dX10_checkQuestion_5 : decode cX10_checkQuestion 5 = .ok (.iload_n 1, 1) := by decide +kernel
theorem dX10_checkQuestion_6 : decode cX10_checkQuestion 6 = .ok (.if_icmp .le 14, 3) := by decide +kernel
theorem dX10_checkQuestion_9 : decode cX10_checkQuestion 9 = .ok (.new 197, 3) := by decide +kernel
theorem dX10_checkQuestion_12 : decode cX10_checkQuestion 12 = .ok (.dup, 1) := by decide +kernel
theorem dX10_checkQuestion_13 : decode cX10_checkQuestion 13 = .ok (.ldc_w 424, 3) := by decide +kernel
theorem dX10_checkQuestion_16 : decode cX10_checkQuestion 16 = .ok (.invokespecial 201, 3) := by decide +kernel
theorem dX10_checkQuestion_19 : decode cX10_checkQuestion 19 = .ok (.athrow, 1) := by decide +kernel
theorem dX10_checkQuestion_20 : decode cX10_checkQuestion 20 = .ok (.return_, 1) := by decide +kernel
theorem dX10_checkTwo_0 : decode cX10_checkTwo 0 = .ok (.iload_n 0, 1) := by decide +kernel
theorem dX10_checkTwo_1 : decode cX10_checkTwo 1 = .ok (.iload_n 1, 1) := by decide +kernel
theorem dX10_checkTwo_2 : decode cX10_checkTwo 2 = .ok (.if_icmp .ne 14, 3) := by decide +kernel
theorem dX10_checkTwo_5 : decode cX10_checkTwo 5 = .ok (.new 80, 3) := by decide +kernel
theorem dX10_checkTwo_8 : decode cX10_checkTwo 8 = .ok (.dup, 1) := by decide +kernel
theorem dX10_checkTwo_9 : decode cX10_checkTwo 9 = .ok (.ldc_w 426, 3) := by decide +kernel
theorem dX10_checkTwo_12 : decode cX10_checkTwo 12 = .ok (.invokespecial 84, 3) := by decide +kernel
theorem dX10_checkTwo_15 : decode cX10_checkTwo 15 = .ok (.athrow, 1) := by decide +kernel
theorem dX10_checkTwo_16 : decode cX10_checkTwo 16 = .ok (.return_, 1) := by decide +kernel
theorem dX10_checkPoint_0 : decode cX10_checkPoint 0 = .ok (.iload_n 0, 1) := by decide +kernel
theorem dX10_checkPoint_1 : decode cX10_checkPoint 1 = .ok (.i2l, 1) := by decide +kernel
theorem dX10_checkPoint_2 : decode cX10_checkPoint 2 = .ok (.invokestatic 428, 3) := by decide +kernel
theorem dX10_checkPoint_5 : decode cX10_checkPoint 5 = .ok (.ifCond .eq 11, 3) := by decide +kernel
theorem dX10_checkPoint_8 : decode cX10_checkPoint 8 = .ok (.iload_n 1, 1) := by decide +kernel
theorem dX10_checkPoint_9 : decode cX10_checkPoint 9 = .ok (.i2l, 1) := by decide +kernel
theorem dX10_checkPoint_10 : decode cX10_checkPoint 10 = .ok (.invokestatic 428, 3) := by decide +kernel
theorem dX10_checkPoint_13 : decode cX10_checkPoint 13 = .ok (.ifCond .ne 14, 3) := by decide +kernel
theorem dX10_checkPoint_16 : decode cX10_checkPoint 16 = .ok (.new 80, 3) := by decide +kernel
theorem dX10_checkPoint_19 : decode cX10_checkPoint 19 = .ok (.dup, 1) := by decide +kernel
theorem dX10_checkPoint_20 : decode cX10_checkPoint 20 = .ok (.ldc_w 432, 3) := by decide +kernel
theorem dX10_checkPoint_23 : decode cX10_checkPoint 23 = .ok (.invokespecial 84, 3) := by decide +kernel
theorem dX10_checkPoint_26 : decode cX10_checkPoint 26 = .ok (.athrow, 1) := by decide +kernel
theorem dX10_checkPoint_27 : decode cX10_checkPoint 27 = .ok (.return_, 1) := by decide +kernel
theorem dX10_checkTint_0 : decode cX10_checkTint 0 = .ok (.iload_n 0, 1) := by decide +kernel
theorem dX10_checkTint_1 : decode cX10_checkTint 1 = .ok (.ifCond .lt 8, 3) := by decide +kernel
theorem dX10_checkTint_4 : decode cX10_checkTint 4 = .ok (.iload_n 0, 1) := by decide +kernel
theorem dX10_checkTint_5 : decode cX10_checkTint 5 = .ok (.iconst 3, 1) := by decide +kernel
theorem dX10_checkTint_6 : decode cX10_checkTint 6 = .ok (.if_icmp .le 14, 3) := by decide +kernel
theorem dX10_checkTint_9 : decode cX10_checkTint 9 = .ok (.new 80, 3) := by decide +kernel
theorem dX10_checkTint_12 : decode cX10_checkTint 12 = .ok (.dup, 1) := by decide +kernel
theorem dX10_checkTint_13 : decode cX10_checkTint 13 = .ok (.ldc_w 434, 3) := by decide +kernel
theorem dX10_checkTint_16 : decode cX10_checkTint 16 = .ok (.invokespecial 84, 3) := by decide +kernel
theorem dX10_checkTint_19 : decode cX10_checkTint 19 = .ok (.athrow, 1) := by decide +kernel
theorem dX10_checkTint_20 : decode cX10_checkTint 20 = .ok (.return_, 1) := by decide +kernel
theorem dX10_isCoordinate_0 : decode cX10_isCoordinate 0 = .ok (.lload_n 0, 1) := by decide +kernel
theorem dX10_isCoordinate_1 : decode cX10_isCoordinate 1 = .ok (.ldc2_w 436, 3) := by decide +kernel
theorem dX10_isCoordinate_4 : decode cX10_isCoordinate 4 = .ok (.lcmp, 1) := by decide +kernel
theorem dX10_isCoordinate_5 : decode cX10_isCoordinate 5 = .ok (.ifCond .lt 15, 3) := by decide +kernel
theorem dX10_isCoordinate_8 : decode cX10_isCoordinate 8 = .ok (.lload_n 0, 1) := by decide +kernel
theorem dX10_isCoordinate_9 : decode cX10_isCoordinate 9 = .ok (.ldc2_w 438, 3) := by decide +kernel
theorem dX10_isCoordinate_12 : decode cX10_isCoordinate 12 = .ok (.lcmp, 1) := by decide +kernel
theorem dX10_isCoordinate_13 : decode cX10_isCoordinate 13 = .ok (.ifCond .gt 7, 3) := by decide +kernel
theorem dX10_isCoordinate_16 : decode cX10_isCoordinate 16 = .ok (.iconst 1, 1) := by decide +kernel
theorem dX10_isCoordinate_17 : decode cX10_isCoordinate 17 = .ok (.goto 4, 3) := by decide +kernel
theorem dX10_isCoordinate_20 : decode cX10_isCoordinate 20 = .ok (.iconst 0, 1) := by decide +kernel
theorem dX10_isCoordinate_21 : decode cX10_isCoordinate 21 = .ok (.ireturn, 1) := by decide +kernel
theorem dX10_has_0 : decode cX10_has 0 = .ok (.iload_n 0, 1) := by decide +kernel
theorem dX10_has_1 : decode cX10_has 1 = .ok (.iload_n 1, 1) := by decide +kernel
theorem dX10_has_2 : decode cX10_has 2 = .ok (.ishr, 1) := by decide +kernel
theorem dX10_has_3 : decode cX10_has 3 = .ok (.iconst 1, 1) := by decide +kernel
theorem dX10_has_4 : decode cX10_has 4 = .ok (.iand, 1) := by decide +kernel
theorem dX10_has_5 : decode cX10_has 5 = .ok (.ifCond .eq 7, 3) := by decide +kernel
theorem dX10_has_8 : decode cX10_has 8 = .ok (.iconst 1, 1) := by decide +kernel
theorem dX10_has_9 : decode cX10_has 9 = .ok (.goto 4, 3) := by decide +kernel
theorem dX10_has_12 : decode cX10_has 12 = .ok (.iconst 0, 1) := by decide +kernel
theorem dX10_has_13 : decode cX10_has 13 = .ok (.ireturn, 1) := by decide +kernel
theorem dX10_remember_0 : decode cX10_remember 0 = .ok (.aload_n 0, 1) := by decide +kernel
theorem dX10_remember_1 : decode cX10_remember 1 = .ok (.getfield 25, 3) := by decide +kernel
theorem dX10_remember_4 : decode cX10_remember 4 = .ok (.aload_n 0, 1) := by decide +kernel
theorem dX10_remember_5 : decode cX10_remember 5 = .ok (.getfield 10, 3) := by decide +kernel
theorem dX10_remember_8 : decode cX10_remember 8 = .ok (.invokevirtual 440, 3) := by decide +kernel
theorem dX10_remember_11 : decode cX10_remember 11 = .ok (.aload_n 0, 1) := by decide +kernel
theorem dX10_remember_12 : decode cX10_remember 12 = .ok (.iconst 1, 1) := by decide +kernel
theorem dX10_remember_13 : decode cX10_remember 13 = .ok (.putfield 54, 3) := by decide +kernel
theorem dX10_remember_16 : decode cX10_remember 16 = .ok (.return_, 1) := by decide +kernel
theorem dX10_become_0 : decode cX10_become 0 = .ok (.aload_n 0, 1) := by decide +kernel
theorem dX10_become_1 : decode cX10_become 1 = .ok (.getfield 10, 3) := by decide +kernel
theorem dX10_become_4 : decode cX10_become 4 = .ok (.aload_n 1, 1) := by decide +kernel
theorem dX10_become_5 : decode cX10_become 5 = .ok (.invokevirtual 378, 3) := by decide +kernel
theorem dX10_become_8 : decode cX10_become 8 = .ok (.aload_n 0, 1) := by decide +kernel
theorem dX10_become_9 : decode cX10_become 9 = .ok (.iconst 1, 1) := by decide +kernel
theorem dX10_become_10 : decode cX10_become 10 = .ok (.putfield 54, 3) := by decide +kernel
theorem dX10_become_13 : decode cX10_become 13 = .ok (.return_, 1) := by decide +kernel
theorem dX10_encounterOf_0 : decode cX10_encounterOf 0 = .ok (.aload_n 0, 1) := by decide +kernel
theorem dX10_encounterOf_1 : decode cX10_encounterOf 1 = .ok (.getfield 39, 3) := by decide +kernel
theorem dX10_encounterOf_4 : decode cX10_encounterOf 4 = .ok (.getfield 357, 3) := by decide +kernel
theorem dX10_encounterOf_7 : decode cX10_encounterOf 7 = .ok (.aload_n 0, 1) := by decide +kernel
theorem dX10_encounterOf_8 : decode cX10_encounterOf 8 = .ok (.getfield 10, 3) := by decide +kernel
theorem dX10_encounterOf_11 : decode cX10_encounterOf 11 = .ok (.iload_n 1, 1) := by decide +kernel
theorem dX10_encounterOf_12 : decode cX10_encounterOf 12 = .ok (.aload_n 0, 1) := by decide +kernel
theorem dX10_encounterOf_13 : decode cX10_encounterOf 13 = .ok (.getfield 10, 3) := by decide +kernel
theorem dX10_encounterOf_16 : decode cX10_encounterOf 16 = .ok (.iload_n 2, 1) := by decide +kernel
theorem dX10_encounterOf_17 : decode cX10_encounterOf 17 = .ok (.invokevirtual 361, 3) := by decide +kernel
theorem dX10_encounterOf_20 : decode cX10_encounterOf 20 = .ok (.aload_n 0, 1) := by decide +kernel
theorem dX10_encounterOf_21 : decode cX10_encounterOf 21 = .ok (.getfield 39, 3) := by decide +kernel
theorem dX10_encounterOf_24 : decode cX10_encounterOf 24 = .ok (.getfield 357, 3) := by decide +kernel
theorem dX10_encounterOf_27 : decode cX10_encounterOf 27 = .ok (.areturn, 1) := by decide +kernel
theorem dX10_drawn_0 : decode cX10_drawn 0 = .ok (.aload_n 0, 1) := by decide +kernel
theorem dX10_drawn_1 : decode cX10_drawn 1 = .ok (.getfield 54, 3) := by decide +kernel
theorem dX10_drawn_4 : decode cX10_drawn 4 = .ok (.ifCond .eq 19, 3) := by decide +kernel
theorem dX10_drawn_7 : decode cX10_drawn 7 = .ok (.aload_n 0, 1) := by decide +kernel
theorem dX10_drawn_8 : decode cX10_drawn 8 = .ok (.getfield 39, 3) := by decide +kernel
theorem dX10_drawn_11 : decode cX10_drawn 11 = .ok (.aload_n 0, 1) := by decide +kernel
theorem dX10_drawn_12 : decode cX10_drawn 12 = .ok (.getfield 10, 3) := by decide +kernel
theorem dX10_drawn_15 : decode cX10_drawn 15 = .ok (.invokevirtual 442, 3) := by decide +kernel
theorem dX10_drawn_18 : decode cX10_drawn 18 = .ok (.aload_n 0, 1) := by decide +kernel
theorem dX10_drawn_19 : decode cX10_drawn 19 = .ok (.iconst 0, 1) := by decide +kernel
theorem dX10_drawn_20 : decode cX10_drawn 20 = .ok (.putfield 54, 3) := by decide +kernel
theorem dX10_drawn_23 : decode cX10_drawn 23 = .ok (.aload_n 0, 1) := by decide +kernel
theorem dX10_drawn_24 : decode cX10_drawn 24 = .ok (.getfield 39, 3) := by decide +kernel
theorem dX10_drawn_27 : decode cX10_drawn 27 = .ok (.areturn, 1) := by decide +kernel
theorem dX10_partOfPoint_0 : decode cX10_partOfPoint 0 = .ok (.iload 6, 2) := by decide +kernel
theorem dX10_partOfPoint_2 : decode cX10_partOfPoint 2 = .ok (.iconst 2, 1) := by decide +kernel
theorem dX10_partOfPoint_3 : decode cX10_partOfPoint 3 = .ok (.if_icmp .ge 7, 3) := by decide +kernel
theorem dX10_partOfPoint_6 : decode cX10_partOfPoint 6 = .ok (.lload_n 0, 1) := by decide +kernel
theorem dX10_partOfPoint_7 : decode cX10_partOfPoint 7 = .ok (.goto 4, 3) := by decide +kernel
theorem dX10_partOfPoint_10 : decode cX10_partOfPoint 10 = .ok (.lload_n 2, 1) := by decide +kernel
theorem dX10_partOfPoint_11 : decode cX10_partOfPoint 11 = .ok (.lstore 7, 2) := by decide +kernel
theorem dX10_partOfPoint_13 : decode cX10_partOfPoint 13 = .ok (.lload 7, 2) := by decide +kernel
theorem dX10_partOfPoint_15 : decode cX10_partOfPoint 15 = .ok (.lload 4, 2) := by decide +kernel
theorem dX10_partOfPoint_17 : decode cX10_partOfPoint 17 = .ok (.invokestatic 445, 3) := by decide +kernel
theorem dX10_partOfPoint_20 : decode cX10_partOfPoint 20 = .ok (.lstore 9, 2) := by decide +kernel
theorem dX10_partOfPoint_22 : decode cX10_partOfPoint 22 = .ok (.lload 9, 2) := by decide +kernel
theorem dX10_partOfPoint_24 : decode cX10_partOfPoint 24 = .ok (.lconst 0, 1) := by decide +kernel
theorem dX10_partOfPoint_25 : decode cX10_partOfPoint 25 = .ok (.lcmp, 1) := by decide +kernel
theorem dX10_partOfPoint_26 : decode cX10_partOfPoint 26 = .ok (.ifCond .ne 5, 3) := by decide +kernel
theorem dX10_partOfPoint_29 : decode cX10_partOfPoint 29 = .ok (.lconst 0, 1) := by decide +kernel
theorem dX10_partOfPoint_30 : decode cX10_partOfPoint 30 = .ok (.lreturn, 1) := by decide +kernel
theorem dX10_partOfPoint_31 : decode cX10_partOfPoint 31 = .ok (.iload 6, 2) := by decide +kernel
theorem dX10_partOfPoint_33 : decode cX10_partOfPoint 33 = .ok (.iconst 2, 1) := by decide +kernel
theorem dX10_partOfPoint_34 : decode cX10_partOfPoint 34 = .ok (.irem, 1) := by decide +kernel
theorem dX10_partOfPoint_35 : decode cX10_partOfPoint 35 = .ok (.ifCond .ne 11, 3) := by decide +kernel
theorem dX10_partOfPoint_38 : decode cX10_partOfPoint 38 = .ok (.lload 7, 2) := by decide +kernel
theorem dX10_partOfPoint_40 : decode cX10_partOfPoint 40 = .ok (.lload 9, 2) := by decide +kernel
theorem dX10_partOfPoint_42 : decode cX10_partOfPoint 42 = .ok (.ldiv, 1) := by decide +kernel
theorem dX10_partOfPoint_43 : decode cX10_partOfPoint 43 = .ok (.goto 8, 3) := by decide +kernel
theorem dX10_partOfPoint_46 : decode cX10_partOfPoint 46 = .ok (.lload 4, 2) := by decide +kernel
theorem dX10_partOfPoint_48 : decode cX10_partOfPoint 48 = .ok (.lload 9, 2) := by decide +kernel
theorem dX10_partOfPoint_50 : decode cX10_partOfPoint 50 = .ok (.ldiv, 1) := by decide +kernel
theorem dX10_partOfPoint_51 : decode cX10_partOfPoint 51 = .ok (.lreturn, 1) := by decide +kernel
theorem dX10_divisorOfBoth_0 : decode cX10_divisorOfBoth 0 = .ok (.lload_n 0, 1) := by decide +kernel
theorem dX10_divisorOfBoth_1 : decode cX10_divisorOfBoth 1 = .ok (.invokestatic 449, 3) := by decide +kernel
theorem dX10_divisorOfBoth_4 : decode cX10_divisorOfBoth 4 = .ok (.lstore 4, 2) := by decide +kernel
theorem dX10_divisorOfBoth_6 : decode cX10_divisorOfBoth 6 = .ok (.lload_n 2, 1) := by decide +kernel
theorem dX10_divisorOfBoth_7 : decode cX10_divisorOfBoth 7 = .ok (.invokestatic 449, 3) := by decide +kernel
theorem dX10_divisorOfBoth_10 : decode cX10_divisorOfBoth 10 = .ok (.lstore 6, 2) := by decide +kernel
theorem dX10_divisorOfBoth_12 : decode cX10_divisorOfBoth 12 = .ok (.iconst 0, 1) := by decide +kernel
theorem dX10_divisorOfBoth_13 : decode cX10_divisorOfBoth 13 = .ok (.istore 8, 2) := by decide +kernel
theorem dX10_divisorOfBoth_15 : decode cX10_divisorOfBoth 15 = .ok (.iload 8, 2) := by decide +kernel
theorem dX10_divisorOfBoth_17 : decode cX10_divisorOfBoth 17 = .ok (.sipush 128, 3) := by decide +kernel
theorem dX10_divisorOfBoth_20 : decode cX10_divisorOfBoth 20 = .ok (.if_icmp .ge 31, 3) := by decide +kernel
theorem dX10_divisorOfBoth_23 : decode cX10_divisorOfBoth 23 = .ok (.lload 6, 2) := by decide +kernel
theorem dX10_divisorOfBoth_25 : decode cX10_divisorOfBoth 25 = .ok (.lconst 0, 1) := by decide +kernel
theorem dX10_divisorOfBoth_26 : decode cX10_divisorOfBoth 26 = .ok (.lcmp, 1) := by decide +kernel
theorem dX10_divisorOfBoth_27 : decode cX10_divisorOfBoth 27 = .ok (.ifCond .eq 24, 3) := by decide +kernel
theorem dX10_divisorOfBoth_30 : decode cX10_divisorOfBoth 30 = .ok (.lload 4, 2) := by decide +kernel
theorem dX10_divisorOfBoth_32 : decode cX10_divisorOfBoth 32 = .ok (.lload 6, 2) := by decide +kernel
theorem dX10_divisorOfBoth_34 : decode cX10_divisorOfBoth 34 = .ok (.lrem, 1) := by decide +kernel
theorem dX10_divisorOfBoth_35 : decode cX10_divisorOfBoth 35 = .ok (.lstore 9, 2) := by decide +kernel
theorem dX10_divisorOfBoth_37 : decode cX10_divisorOfBoth 37 = .ok (.lload 6, 2) := by decide +kernel
theorem dX10_divisorOfBoth_39 : decode cX10_divisorOfBoth 39 = .ok (.lstore 4, 2) := by decide +kernel
theorem dX10_divisorOfBoth_41 : decode cX10_divisorOfBoth 41 = .ok (.lload 9, 2) := by decide +kernel
theorem dX10_divisorOfBoth_43 : decode cX10_divisorOfBoth 43 = .ok (.lstore 6, 2) := by decide +kernel
theorem dX10_divisorOfBoth_45 : decode cX10_divisorOfBoth 45 = .ok (.iinc 8 1, 3) := by decide +kernel
theorem dX10_divisorOfBoth_48 : decode cX10_divisorOfBoth 48 = .ok (.goto (-33), 3) := by decide +kernel
theorem dX10_divisorOfBoth_51 : decode cX10_divisorOfBoth 51 = .ok (.lload 4, 2) := by decide +kernel
theorem dX10_divisorOfBoth_53 : decode cX10_divisorOfBoth 53 = .ok (.lreturn, 1) := by decide +kernel
