theorem dX8_undo_11 : decode cX8_undo 11 = .ok (.aload_n 0, 1) := by decide +kernel
theorem dX8_undo_12 : decode cX8_undo 12 = .ok (.iload_n 1, 1) := by decide +kernel
theorem dX8_undo_13 : decode cX8_undo 13 = .ok (.invokevirtual 84, 3) := by decide +kernel
theorem dX8_undo_16 : decode cX8_undo 16 = .ok (.astore_n 2, 1) := by decide +kernel
theorem dX8_undo_17 : decode cX8_undo 17 = .ok (.aload_n 2, 1) := by decide +kernel
theorem dX8_undo_18 : decode cX8_undo 18 = .ok (.invokevirtual 95, 3) := by decide +kernel
theorem dX8_undo_21 : decode cX8_undo 21 = .ok (.ifCond .ne 6, 3) := by decide +kernel
theorem dX8_undo_24 : decode cX8_undo 24 = .ok (.bipush (-3), 2) := by decide +kernel
theorem dX8_undo_26 : decode cX8_undo 26 = .ok (.ireturn, 1) := by decide +kernel
theorem dX8_undo_27 : decode cX8_undo 27 = .ok (.aload_n 2, 1) := by decide +kernel
theorem dX8_undo_28 : decode cX8_undo 28 = .ok (.invokevirtual 102, 3) := by decide +kernel
theorem dX8_undo_31 : decode cX8_undo 31 = .ok (.aload_n 0, 1) := by decide +kernel
theorem dX8_undo_32 : decode cX8_undo 32 = .ok (.iconst 1, 1) := by decide +kernel
theorem dX8_undo_33 : decode cX8_undo 33 = .ok (.putfield 44, 3) := by decide +kernel
theorem dX8_undo_36 : decode cX8_undo 36 = .ok (.aload_n 2, 1) := by decide +kernel
theorem dX8_undo_37 : decode cX8_undo 37 = .ok (.invokevirtual 95, 3) := by decide +kernel
theorem dX8_undo_40 : decode cX8_undo 40 = .ok (.ireturn, 1) := by decide +kernel
theorem dX8_fault_0 : decode cX8_fault 0 = .ok (.iload_n 1, 1) := by decide +kernel
theorem dX8_fault_1 : decode cX8_fault 1 = .ok (.iconst 2, 1) := by decide +kernel
theorem dX8_fault_2 : decode cX8_fault 2 = .ok (.invokestatic 80, 3) := by decide +kernel
theorem dX8_fault_5 : decode cX8_fault 5 = .ok (.ifCond .ne 6, 3) := by decide +kernel
theorem dX8_fault_8 : decode cX8_fault 8 = .ok (.bipush (-2), 2) := by decide +kernel
theorem dX8_fault_10 : decode cX8_fault 10 = .ok (.ireturn, 1) := by decide +kernel
theorem dX8_fault_11 : decode cX8_fault 11 = .ok (.aload_n 0, 1) := by decide +kernel
theorem dX8_fault_12 : decode cX8_fault 12 = .ok (.invokevirtual 105, 3) := by decide +kernel
theorem dX8_fault_15 : decode cX8_fault 15 = .ok (.astore_n 2, 1) := by decide +kernel
theorem dX8_fault_16 : decode cX8_fault 16 = .ok (.iload_n 1, 1) := by decide +kernel
theorem dX8_fault_17 : decode cX8_fault 17 = .ok (.ifCond .ne 13, 3) := by decide +kernel
theorem dX8_fault_20 : decode cX8_fault 20 = .ok (.aload_n 2, 1) := by decide +kernel
theorem dX8_fault_21 : decode cX8_fault 21 = .ok (.getfield 109, 3) := by decide +kernel
theorem dX8_fault_24 : decode cX8_fault 24 = .ok (.getfield 113, 3) := by decide +kernel
theorem dX8_fault_27 : decode cX8_fault 27 = .ok (.goto 10, 3) := by decide +kernel
theorem dX8_fault_30 : decode cX8_fault 30 = .ok (.aload_n 2, 1) := by decide +kernel
theorem dX8_fault_31 : decode cX8_fault 31 = .ok (.getfield 118, 3) := by decide +kernel
theorem dX8_fault_34 : decode cX8_fault 34 = .ok (.getfield 122, 3) := by decide +kernel
theorem dX8_fault_37 : decode cX8_fault 37 = .ok (.ireturn, 1) := by decide +kernel
theorem dX8_line_0 : decode cX8_line 0 = .ok (.iload_n 1, 1) := by decide +kernel
theorem dX8_line_1 : decode cX8_line 1 = .ok (.bipush 24, 2) := by decide +kernel
theorem dX8_line_3 : decode cX8_line 3 = .ok (.invokestatic 80, 3) := by decide +kernel
theorem dX8_line_6 : decode cX8_line 6 = .ok (.ifCond .eq 17, 3) := by decide +kernel
theorem dX8_line_9 : decode cX8_line 9 = .ok (.aload_n 0, 1) := by decide +kernel
theorem dX8_line_10 : decode cX8_line 10 = .ok (.invokevirtual 105, 3) := by decide +kernel
theorem dX8_line_13 : decode cX8_line 13 = .ok (.getfield 109, 3) := by decide +kernel
theorem dX8_line_16 : decode cX8_line 16 = .ok (.iload_n 1, 1) := by decide +kernel
theorem dX8_line_17 : decode cX8_line 17 = .ok (.invokevirtual 125, 3) := by decide +kernel
theorem dX8_line_20 : decode cX8_line 20 = .ok (.goto 5, 3) := by decide +kernel
theorem dX8_line_23 : decode cX8_line 23 = .ok (.bipush (-2), 2) := by decide +kernel
theorem dX8_line_25 : decode cX8_line 25 = .ok (.ireturn, 1) := by decide +kernel
theorem dX8_hole_0 : decode cX8_hole 0 = .ok (.aload_n 0, 1) := by decide +kernel
theorem dX8_hole_1 : decode cX8_hole 1 = .ok (.invokevirtual 105, 3) := by decide +kernel
theorem dX8_hole_4 : decode cX8_hole 4 = .ok (.getfield 118, 3) := by decide +kernel
theorem dX8_hole_7 : decode cX8_hole 7 = .ok (.astore_n 3, 1) := by decide +kernel
theorem dX8_hole_8 : decode cX8_hole 8 = .ok (.iload_n 1, 1) := by decide +kernel
theorem dX8_hole_9 : decode cX8_hole 9 = .ok (.aload_n 3, 1) := by decide +kernel
theorem dX8_hole_10 : decode cX8_hole 10 = .ok (.getfield 129, 3) := by decide +kernel
theorem dX8_hole_13 : decode cX8_hole 13 = .ok (.invokestatic 80, 3) := by decide +kernel
theorem dX8_hole_16 : decode cX8_hole 16 = .ok (.ifCond .eq 11, 3) := by decide +kernel
theorem dX8_hole_19 : decode cX8_hole 19 = .ok (.iload_n 2, 1) := by decide +kernel
theorem dX8_hole_20 : decode cX8_hole 20 = .ok (.iconst 4, 1) := by decide +kernel
theorem dX8_hole_21 : decode cX8_hole 21 = .ok (.invokestatic 80, 3) := by decide +kernel
theorem dX8_hole_24 : decode cX8_hole 24 = .ok (.ifCond .ne 6, 3) := by decide +kernel
theorem dX8_hole_27 : decode cX8_hole 27 = .ok (.bipush (-2), 2) := by decide +kernel
theorem dX8_hole_29 : decode cX8_hole 29 = .ok (.ireturn, 1) := by decide +kernel
theorem dX8_hole_30 : decode cX8_hole 30 = .ok (.iload_n 2, 1) := by decide +kernel
theorem dX8_hole_31 : decode cX8_hole 31 = .ok (.tableswitch 43 0 2 #[25, 31, 37], 25) := by decide +kernel
theorem dX8_hole_56 : decode cX8_hole 56 = .ok (.aload_n 3, 1) := by decide +kernel
theorem dX8_hole_57 : decode cX8_hole 57 = .ok (.iload_n 1, 1) := by decide +kernel
theorem dX8_hole_58 : decode cX8_hole 58 = .ok (.invokevirtual 131, 3) := by decide +kernel
theorem dX8_hole_61 : decode cX8_hole 61 = .ok (.ireturn, 1) := by decide +kernel
theorem dX8_hole_62 : decode cX8_hole 62 = .ok (.aload_n 3, 1) := by decide +kernel
theorem dX8_hole_63 : decode cX8_hole 63 = .ok (.iload_n 1, 1) := by decide +kernel
theorem dX8_hole_64 : decode cX8_hole 64 = .ok (.invokevirtual 134, 3) := by decide +kernel
theorem dX8_hole_67 : decode cX8_hole 67 = .ok (.ireturn, 1) := by decide +kernel
theorem dX8_hole_68 : decode cX8_hole 68 = .ok (.aload_n 3, 1) := by decide +kernel
theorem dX8_hole_69 : decode cX8_hole 69 = .ok (.iload_n 1, 1) := by decide +kernel
theorem dX8_hole_70 : decode cX8_hole 70 = .ok (.invokevirtual 137, 3) := by decide +kernel
theorem dX8_hole_73 : decode cX8_hole 73 = .ok (.ireturn, 1) := by decide +kernel
theorem dX8_hole_74 : decode cX8_hole 74 = .ok (.aload_n 3, 1) := by decide +kernel
theorem dX8_hole_75 : decode cX8_hole 75 = .ok (.iload_n 1, 1) := by decide +kernel
theorem dX8_hole_76 : decode cX8_hole 76 = .ok (.invokevirtual 140, 3) := by decide +kernel
theorem dX8_hole_79 : decode cX8_hole 79 = .ok (.ireturn, 1) := by decide +kernel
theorem dX8_printed_0 : decode cX8_printed 0 = .ok (.iload_n 1, 1) := by decide +kernel
theorem dX8_printed_1 : decode cX8_printed 1 = .ok (.bipush 8, 2) := by decide +kernel
theorem dX8_printed_3 : decode cX8_printed 3 = .ok (.invokestatic 80, 3) := by decide +kernel
theorem dX8_printed_6 : decode cX8_printed 6 = .ok (.ifCond .eq 11, 3) := by decide +kernel
theorem dX8_printed_9 : decode cX8_printed 9 = .ok (.iload_n 2, 1) := by decide +kernel
theorem dX8_printed_10 : decode cX8_printed 10 = .ok (.iconst 2, 1) := by decide +kernel
theorem dX8_printed_11 : decode cX8_printed 11 = .ok (.invokestatic 80, 3) := by decide +kernel
theorem dX8_printed_14 : decode cX8_printed 14 = .ok (.ifCond .ne 6, 3) := by decide +kernel
theorem dX8_printed_17 : decode cX8_printed 17 = .ok (.bipush (-2), 2) := by decide +kernel
theorem dX8_printed_19 : decode cX8_printed 19 = .ok (.ireturn, 1) := by decide +kernel
theorem dX8_printed_20 : decode cX8_printed 20 = .ok (.aload_n 0, 1) := by decide +kernel
theorem dX8_printed_21 : decode cX8_printed 21 = .ok (.invokevirtual 105, 3) := by decide +kernel
theorem dX8_printed_24 : decode cX8_printed 24 = .ok (.getfield 109, 3) := by decide +kernel
theorem dX8_printed_27 : decode cX8_printed 27 = .ok (.astore_n 3, 1) := by decide +kernel
theorem dX8_printed_28 : decode cX8_printed 28 = .ok (.iload_n 2, 1) := by decide +kernel
theorem dX8_printed_29 : decode cX8_printed 29 = .ok (.ifCond .ne 11, 3) := by decide +kernel
theorem dX8_printed_32 : decode cX8_printed 32 = .ok (.aload_n 3, 1) := by decide +kernel
theorem dX8_printed_33 : decode cX8_printed 33 = .ok (.iload_n 1, 1) := by decide +kernel
theorem dX8_printed_34 : decode cX8_printed 34 = .ok (.invokevirtual 143, 3) := by decide +kernel
theorem dX8_printed_37 : decode cX8_printed 37 = .ok (.goto 8, 3) := by decide +kernel
theorem dX8_printed_40 : decode cX8_printed 40 = .ok (.aload_n 3, 1) := by decide +kernel
theorem dX8_printed_41 : decode cX8_printed 41 = .ok (.iload_n 1, 1) := by decide +kernel
theorem dX8_printed_42 : decode cX8_printed 42 = .ok (.invokevirtual 146, 3) := by decide +kernel
theorem dX8_printed_45 : decode cX8_printed 45 = .ok (.ireturn, 1) := by decide +kernel
theorem dX8_move_0 : decode cX8_move 0 = .ok (.iload_n 1, 1) := by decide +kernel
theorem dX8_move_1 : decode cX8_move 1 = .ok (.bipush 40, 2) := by decide +kernel
theorem dX8_move_3 : decode cX8_move 3 = .ok (.invokestatic 80, 3) := by decide +kernel
theorem dX8_move_6 : decode cX8_move 6 = .ok (.ifCond .eq 12, 3) := by decide +kernel
theorem dX8_move_9 : decode cX8_move 9 = .ok (.iload_n 2, 1) := by decide +kernel
theorem dX8_move_10 : decode cX8_move 10 = .ok (.bipush 10, 2) := by decide +kernel
theorem dX8_move_12 : decode cX8_move 12 = .ok (.invokestatic 80, 3) := by decide +kernel
theorem dX8_move_15 : decode cX8_move 15 = .ok (.ifCond .ne 6, 3) := by decide +kernel
theorem dX8_move_18 : decode cX8_move 18 = .ok (.bipush (-2), 2) := by decide +kernel
theorem dX8_move_20 : decode cX8_move 20 = .ok (.ireturn, 1) := by decide +kernel
theorem dX8_move_21 : decode cX8_move 21 = .ok (.aload_n 0, 1) := by decide +kernel
theorem dX8_move_22 : decode cX8_move 22 = .ok (.iconst 1, 1) := by decide +kernel
theorem dX8_move_23 : decode cX8_move 23 = .ok (.putfield 44, 3) := by decide +kernel
theorem dX8_move_26 : decode cX8_move 26 = .ok (.aload_n 0, 1) := by decide +kernel
theorem dX8_move_27 : decode cX8_move 27 = .ok (.getfield 24, 3) := by decide +kernel
theorem dX8_move_30 : decode cX8_move 30 = .ok (.iload_n 1, 1) := by decide +kernel
theorem dX8_move_31 : decode cX8_move 31 = .ok (.iload_n 2, 1) := by decide +kernel
theorem dX8_move_32 : decode cX8_move 32 = .ok (.invokestatic 149, 3) := by decide +kernel
theorem dX8_move_35 : decode cX8_move 35 = .ok (.ireturn, 1) := by decide +kernel
theorem dX8_cough_0 : decode cX8_cough 0 = .ok (.iload_n 1, 1) := by decide +kernel
theorem dX8_cough_1 : decode cX8_cough 1 = .ok (.bipush 40, 2) := by decide +kernel
theorem dX8_cough_3 : decode cX8_cough 3 = .ok (.invokestatic 80, 3) := by decide +kernel
theorem dX8_cough_6 : decode cX8_cough 6 = .ok (.ifCond .eq 12, 3) := by decide +kernel
theorem dX8_cough_9 : decode cX8_cough 9 = .ok (.iload_n 2, 1) := by decide +kernel
theorem dX8_cough_10 : decode cX8_cough 10 = .ok (.bipush 9, 2) := by decide +kernel
theorem dX8_cough_12 : decode cX8_cough 12 = .ok (.invokestatic 80, 3) := by decide +kernel
theorem dX8_cough_15 : decode cX8_cough 15 = .ok (.ifCond .ne 6, 3) := by decide +kernel
theorem dX8_cough_18 : decode cX8_cough 18 = .ok (.bipush (-2), 2) := by decide +kernel
theorem dX8_cough_20 : decode cX8_cough 20 = .ok (.ireturn, 1) := by decide +kernel
theorem dX8_cough_21 : decode cX8_cough 21 = .ok (.aload_n 0, 1) := by decide +kernel
theorem dX8_cough_22 : decode cX8_cough 22 = .ok (.iconst 1, 1) := by decide +kernel
theorem dX8_cough_23 : decode cX8_cough 23 = .ok (.putfield 44, 3) := by decide +kernel
theorem dX8_cough_26 : decode cX8_cough 26 = .ok (.aload_n 0, 1) := by decide +kernel
theorem dX8_cough_27 : decode cX8_cough 27 = .ok (.getfield 28, 3) := by decide +kernel
theorem dX8_cough_30 : decode cX8_cough 30 = .ok (.iload_n 1, 1) := by decide +kernel
theorem dX8_cough_31 : decode cX8_cough 31 = .ok (.iload_n 2, 1) := by decide +kernel
theorem dX8_cough_32 : decode cX8_cough 32 = .ok (.invokestatic 149, 3) := by decide +kernel
theorem dX8_cough_35 : decode cX8_cough 35 = .ok (.ireturn, 1) := by decide +kernel
theorem dX8_dark_0 : decode cX8_dark 0 = .ok (.iload_n 1, 1) := by decide +kernel
theorem dX8_dark_1 : decode cX8_dark 1 = .ok (.bipush 40, 2) := by decide +kernel
theorem dX8_dark_3 : decode cX8_dark 3 = .ok (.invokestatic 80, 3) := by decide +kernel
theorem dX8_dark_6 : decode cX8_dark 6 = .ok (.ifCond .ne 6, 3) := by decide +kernel
theorem dX8_dark_9 : decode cX8_dark 9 = .ok (.bipush (-2), 2) := by decide +kernel
theorem dX8_dark_11 : decode cX8_dark 11 = .ok (.ireturn, 1) := by decide +kernel
theorem dX8_dark_12 : decode cX8_dark 12 = .ok (.aload_n 0, 1) := by decide +kernel
theorem dX8_dark_13 : decode cX8_dark 13 = .ok (.iconst 1, 1) := by decide +kernel
theorem dX8_dark_14 : decode cX8_dark 14 = .ok (.putfield 44, 3) := by decide +kernel
theorem dX8_dark_17 : decode cX8_dark 17 = .ok (.aload_n 0, 1) := by decide +kernel
theorem dX8_dark_18 : decode cX8_dark 18 = .ok (.getfield 31, 3) := by decide +kernel
theorem dX8_dark_21 : decode cX8_dark 21 = .ok (.iload_n 1, 1) := by decide +kernel
theorem dX8_dark_22 : decode cX8_dark 22 = .ok (.iconst 0, 1) := by decide +kernel
theorem dX8_dark_23 : decode cX8_dark 23 = .ok (.invokestatic 149, 3) := by decide +kernel
theorem dX8_dark_26 : decode cX8_dark 26 = .ok (.ireturn, 1) := by decide +kernel
theorem dX8_back_0 : decode cX8_back 0 = .ok (.iload_n 1, 1) := by decide +kernel
theorem dX8_back_1 : decode cX8_back 1 = .ok (.iconst 3, 1) := by decide +kernel
theorem dX8_back_2 : decode cX8_back 2 = .ok (.invokestatic 80, 3) := by decide +kernel
theorem dX8_back_5 : decode cX8_back 5 = .ok (.ifCond .ne 6, 3) := by decide +kernel
theorem dX8_back_8 : decode cX8_back 8 = .ok (.bipush (-2), 2) := by decide +kernel
theorem dX8_back_10 : decode cX8_back 10 = .ok (.ireturn, 1) := by decide +kernel
theorem dX8_back_11 : decode cX8_back 11 = .ok (.iload_n 1, 1) := by decide +kernel
theorem dX8_back_12 : decode cX8_back 12 = .ok (.ifCond .ne 10, 3) := by decide +kernel
theorem dX8_back_15 : decode cX8_back 15 = .ok (.aload_n 0, 1) := by decide +kernel
theorem dX8_back_16 : decode cX8_back 16 = .ok (.getfield 24, 3) := by decide +kernel
theorem dX8_back_19 : decode cX8_back 19 = .ok (.goto 19, 3) := by decide +kernel
theorem dX8_back_22 : decode cX8_back 22 = .ok (.iload_n 1, 1) := by decide +kernel
theorem dX8_back_23 : decode cX8_back 23 = .ok (.iconst 1, 1) := by decide +kernel
theorem dX8_back_24 : decode cX8_back 24 = .ok (.if_icmp .ne 10, 3) := by decide +kernel
theorem dX8_back_27 : decode cX8_back 27 = .ok (.aload_n 0, 1) := by decide +kernel
theorem dX8_back_28 : decode cX8_back 28 = .ok (.getfield 28, 3) := by decide +kernel
theorem dX8_back_31 : decode cX8_back 31 = .ok (.goto 7, 3) := by decide +kernel
theorem dX8_back_34 : decode cX8_back 34 = .ok (.aload_n 0, 1) := by decide +kernel
theorem dX8_back_35 : decode cX8_back 35 = .ok (.getfield 31, 3) := by decide +kernel
theorem dX8_back_38 : decode cX8_back 38 = .ok (.astore_n 2, 1) := by decide +kernel
theorem dX8_back_39 : decode cX8_back 39 = .ok (.aload_n 2, 1) := by decide +kernel
theorem dX8_back_40 : decode cX8_back 40 = .ok (.invokevirtual 153, 3) := by decide +kernel
theorem dX8_back_43 : decode cX8_back 43 = .ok (.ifCond .ne 6, 3) := by decide +kernel
theorem dX8_back_46 : decode cX8_back 46 = .ok (.bipush (-3), 2) := by decide +kernel
theorem dX8_back_48 : decode cX8_back 48 = .ok (.ireturn, 1) := by decide +kernel
theorem dX8_back_49 : decode cX8_back 49 = .ok (.aload_n 2, 1) := by decide +kernel
theorem dX8_back_50 : decode cX8_back 50 = .ok (.invokevirtual 154, 3) := by decide +kernel
theorem dX8_back_53 : decode cX8_back 53 = .ok (.aload_n 0, 1) := by decide +kernel
theorem dX8_back_54 : decode cX8_back 54 = .ok (.iconst 1, 1) := by decide +kernel
theorem dX8_back_55 : decode cX8_back 55 = .ok (.putfield 44, 3) := by decide +kernel
theorem dX8_back_58 : decode cX8_back 58 = .ok (.aload_n 2, 1) := by decide +kernel
theorem dX8_back_59 : decode cX8_back 59 = .ok (.invokevirtual 153, 3) := by decide +kernel
theorem dX8_back_62 : decode cX8_back 62 = .ok (.ireturn, 1) := by decide +kernel
theorem dX8_read_0 : decode cX8_read 0 = .ok (.iload_n 1, 1) := by decide +kernel
theorem dX8_read_1 : decode cX8_read 1 = .ok (.iconst 4, 1) := by decide +kernel
theorem dX8_read_2 : decode cX8_read 2 = .ok (.invokestatic 80, 3) := by decide +kernel
theorem dX8_read_5 : decode cX8_read 5 = .ok (.ifCond .ne 6, 3) := by decide +kernel
theorem dX8_read_8 : decode cX8_read 8 = .ok (.bipush (-2), 2) := by decide +kernel
theorem dX8_read_10 : decode cX8_read 10 = .ok (.ireturn, 1) := by decide +kernel
theorem dX8_read_11 : decode cX8_read 11 = .ok (.aload_n 0, 1) := by decide +kernel
theorem dX8_read_12 : decode cX8_read 12 = .ok (.getfield 72, 3) := by decide +kernel
theorem dX8_read_15 : decode cX8_read 15 = .ok (.iload_n 1, 1) := by decide +kernel
theorem dX8_read_16 : decode cX8_read 16 = .ok (.invokevirtual 155, 3) := by decide +kernel
theorem dX8_read_19 : decode cX8_read 19 = .ok (.ifCond .eq 9, 3) := by decide +kernel
theorem dX8_read_22 : decode cX8_read 22 = .ok (.aload_n 0, 1) := by decide +kernel
theorem dX8_read_23 : decode cX8_read 23 = .ok (.iconst 1, 1) := by decide +kernel
theorem dX8_read_24 : decode cX8_read 24 = .ok (.invokevirtual 159, 3) := by decide +kernel
theorem dX8_read_27 : decode cX8_read 27 = .ok (.ireturn, 1) := by decide +kernel
theorem dX8_read_28 : decode cX8_read 28 = .ok (.iconst 0, 1) := by decide +kernel
theorem dX8_read_29 : decode cX8_read 29 = .ok (.istore_n 2, 1) := by decide +kernel
theorem dX8_read_30 : decode cX8_read 30 = .ok (.iconst 0, 1) := by decide +kernel
theorem dX8_read_31 : decode cX8_read 31 = .ok (.istore_n 3, 1) := by decide +kernel
theorem dX8_read_32 : decode cX8_read 32 = .ok (.iload_n 3, 1) := by decide +kernel
theorem dX8_read_33 : decode cX8_read 33 = .ok (.iconst 1, 1) := by decide +kernel
theorem dX8_read_34 : decode cX8_read 34 = .ok (.iadd, 1) := by decide +kernel
theorem dX8_read_35 : decode cX8_read 35 = .ok (.aload_n 0, 1) := by decide +kernel
theorem dX8_read_36 : decode cX8_read 36 = .ok (.getfield 72, 3) := by decide +kernel
theorem dX8_read_39 : decode cX8_read 39 = .ok (.iload_n 1, 1) := by decide +kernel
theorem dX8_read_40 : decode cX8_read 40 = .ok (.invokevirtual 162, 3) := by decide +kernel
theorem dX8_read_43 : decode cX8_read 43 = .ok (.if_icmp .ge 42, 3) := by decide +kernel
theorem dX8_read_46 : decode cX8_read 46 = .ok (.aload_n 0, 1) := by decide +kernel
theorem dX8_read_47 : decode cX8_read 47 = .ok (.aload_n 0, 1) := by decide +kernel
theorem dX8_read_48 : decode cX8_read 48 = .ok (.getfield 72, 3) := by decide +kernel
theorem dX8_read_51 : decode cX8_read 51 = .ok (.iload_n 1, 1) := by decide +kernel
theorem dX8_read_52 : decode cX8_read 52 = .ok (.iload_n 3, 1) := by decide +kernel
theorem dX8_read_53 : decode cX8_read 53 = .ok (.invokevirtual 165, 3) := by decide +kernel
theorem dX8_read_56 : decode cX8_read 56 = .ok (.aload_n 0, 1) := by decide +kernel
theorem dX8_read_57 : decode cX8_read 57 = .ok (.getfield 72, 3) := by decide +kernel
theorem dX8_read_60 : decode cX8_read 60 = .ok (.iload_n 1, 1) := by decide +kernel
theorem dX8_read_61 : decode cX8_read 61 = .ok (.iload_n 3, 1) := by decide +kernel
theorem dX8_read_62 : decode cX8_read 62 = .ok (.iconst 1, 1) := by decide +kernel
theorem dX8_read_63 : decode cX8_read 63 = .ok (.iadd, 1) := by decide +kernel
theorem dX8_read_64 : decode cX8_read 64 = .ok (.invokevirtual 165, 3) := by decide +kernel
theorem dX8_read_67 : decode cX8_read 67 = .ok (.invokevirtual 169, 3) := by decide +kernel
theorem dX8_read_70 : decode cX8_read 70 = .ok (.ifCond .ge 6, 3) := by decide +kernel
theorem dX8_read_73 : decode cX8_read 73 = .ok (.goto 12, 3) := by decide +kernel
theorem dX8_read_76 : decode cX8_read 76 = .ok (.iinc 2 1, 3) := by decide +kernel
theorem dX8_read_79 : decode cX8_read 79 = .ok (.iinc 3 2, 3) := by decide +kernel
theorem dX8_read_82 : decode cX8_read 82 = .ok (.goto (-50), 3) := by decide +kernel
theorem dX8_read_85 : decode cX8_read 85 = .ok (.iload_n 2, 1) := by decide +kernel
theorem dX8_read_86 : decode cX8_read 86 = .ok (.ireturn, 1) := by decide +kernel
theorem dX8_step_0 : decode cX8_step 0 = .ok (.iload_n 1, 1) := by decide +kernel
theorem dX8_step_1 : decode cX8_step 1 = .ok (.bipush 40, 2) := by decide +kernel
theorem dX8_step_3 : decode cX8_step 3 = .ok (.invokestatic 80, 3) := by decide +kernel
theorem dX8_step_6 : decode cX8_step 6 = .ok (.ifCond .eq 11, 3) := by decide +kernel
theorem dX8_step_9 : decode cX8_step 9 = .ok (.iload_n 2, 1) := by decide +kernel
theorem dX8_step_10 : decode cX8_step 10 = .ok (.iconst 4, 1) := by decide +kernel
theorem dX8_step_11 : decode cX8_step 11 = .ok (.invokestatic 80, 3) := by decide +kernel
theorem dX8_step_14 : decode cX8_step 14 = .ok (.ifCond .ne 6, 3) := by decide +kernel
theorem dX8_step_17 : decode cX8_step 17 = .ok (.bipush (-2), 2) := by decide +kernel
theorem dX8_step_19 : decode cX8_step 19 = .ok (.ireturn, 1) := by decide +kernel
theorem dX8_step_20 : decode cX8_step 20 = .ok (.aload_n 0, 1) := by decide +kernel
theorem dX8_step_21 : decode cX8_step 21 = .ok (.invokevirtual 105, 3) := by decide +kernel
theorem dX8_step_24 : decode cX8_step 24 = .ok (.astore_n 3, 1) := by decide +kernel
theorem dX8_step_25 : decode cX8_step 25 = .ok (.iload_n 2, 1) := by decide +kernel
theorem dX8_step_26 : decode cX8_step 26 = .ok (.tableswitch 44 0 2 #[26, 32, 38], 26) := by decide +kernel
theorem dX8_step_52 : decode cX8_step 52 = .ok (.aload_n 3, 1) := by decide +kernel
theorem dX8_step_53 : decode cX8_step 53 = .ok (.iload_n 1, 1) := by decide +kernel
theorem dX8_step_54 : decode cX8_step 54 = .ok (.invokevirtual 172, 3) := by decide +kernel
theorem dX8_step_57 : decode cX8_step 57 = .ok (.ireturn, 1) := by decide +kernel
theorem dX8_step_58 : decode cX8_step 58 = .ok (.aload_n 3, 1) := by decide +kernel
theorem dX8_step_59 : decode cX8_step 59 = .ok (.iload_n 1, 1) := by decide +kernel
theorem dX8_step_60 : decode cX8_step 60 = .ok (.invokevirtual 175, 3) := by decide +kernel
theorem dX8_step_63 : decode cX8_step 63 = .ok (.ireturn, 1) := by decide +kernel
theorem dX8_step_64 : decode cX8_step 64 = .ok (.aload_n 3, 1) := by decide +kernel
theorem dX8_step_65 : decode cX8_step 65 = .ok (.iload_n 1, 1) := by decide +kernel
theorem dX8_step_66 : decode cX8_step 66 = .ok (.invokevirtual 178, 3) := by decide +kernel
theorem dX8_step_69 : decode cX8_step 69 = .ok (.ireturn, 1) := by decide +kernel
theorem dX8_step_70 : decode cX8_step 70 = .ok (.aload_n 3, 1) := by decide +kernel
theorem dX8_step_71 : decode cX8_step 71 = .ok (.getfield 109, 3) := by decide +kernel
theorem dX8_step_74 : decode cX8_step 74 = .ok (.iload_n 1, 1) := by decide +kernel
theorem dX8_step_75 : decode cX8_step 75 = .ok (.invokevirtual 181, 3) := by decide +kernel
theorem dX8_step_78 : decode cX8_step 78 = .ok (.ireturn, 1) := by decide +kernel
theorem dX8_whispers_0 : decode cX8_whispers 0 = .ok (.aload_n 0, 1) := by decide +kernel
theorem dX8_whispers_1 : decode cX8_whispers 1 = .ok (.invokevirtual 105, 3) := by decide +kernel
theorem dX8_whispers_4 : decode cX8_whispers 4 = .ok (.astore_n 3, 1) := by decide +kernel
theorem dX8_whispers_5 : decode cX8_whispers 5 = .ok (.iload_n 1, 1) := by decide +kernel
theorem dX8_whispers_6 : decode cX8_whispers 6 = .ok (.bipush 40, 2) := by decide +kernel
theorem dX8_whispers_8 : decode cX8_whispers 8 = .ok (.invokestatic 80, 3) := by decide +kernel
theorem dX8_whispers_11 : decode cX8_whispers 11 = .ok (.ifCond .eq 17, 3) := by decide +kernel
theorem dX8_whispers_14 : decode cX8_whispers 14 = .ok (.iload_n 2, 1) := by decide +kernel
theorem dX8_whispers_15 : decode cX8_whispers 15 = .ok (.aload_n 3, 1) := by decide +kernel
theorem dX8_whispers_16 : decode cX8_whispers 16 = .ok (.getfield 118, 3) := by decide +kernel
theorem dX8_whispers_19 : decode cX8_whispers 19 = .ok (.getfield 129, 3) := by decide +kernel
theorem dX8_whispers_22 : decode cX8_whispers 22 = .ok (.invokestatic 80, 3) := by decide +kernel
theorem dX8_whispers_25 : decode cX8_whispers 25 = .ok (.ifCond .ne 6, 3) := by decide +kernel
theorem dX8_whispers_28 : decode cX8_whispers 28 = .ok (.bipush (-2), 2) := by decide +kernel
theorem dX8_whispers_30 : decode cX8_whispers 30 = .ok (.ireturn, 1) := by decide +kernel
theorem dX8_whispers_31 : decode cX8_whispers 31 = .ok (.aload_n 3, 1) := by decide +kernel
theorem dX8_whispers_32 : decode cX8_whispers 32 = .ok (.iload_n 2, 1) := by decide +kernel
theorem dX8_whispers_33 : decode cX8_whispers 33 = .ok (.iload_n 1, 1) := by decide +kernel
theorem dX8_whispers_34 : decode cX8_whispers 34 = .ok (.iconst 0, 1) := by decide +kernel
theorem dX8_whispers_35 : decode cX8_whispers 35 = .ok (.invokevirtual 184, 3) := by decide +kernel
theorem dX8_whispers_38 : decode cX8_whispers 38 = .ok (.ifCond .ne 5, 3) := by decide +kernel
theorem dX8_whispers_41 : decode cX8_whispers 41 = .ok (.iconst (-1), 1) := by decide +kernel
theorem dX8_whispers_42 : decode cX8_whispers 42 = .ok (.ireturn, 1) := by decide +kernel
theorem dX8_whispers_43 : decode cX8_whispers 43 = .ok (.aload_n 3, 1) := by decide +kernel
theorem dX8_whispers_44 : decode cX8_whispers 44 = .ok (.iload_n 2, 1) := by decide +kernel
theorem dX8_whispers_45 : decode cX8_whispers 45 = .ok (.aload_n 3, 1) := by decide +kernel
theorem dX8_whispers_46 : decode cX8_whispers 46 = .ok (.iload_n 1, 1) := by decide +kernel
theorem dX8_whispers_47 : decode cX8_whispers 47 = .ok (.iconst 1, 1) := by decide +kernel
theorem dX8_whispers_48 : decode cX8_whispers 48 = .ok (.isub, 1) := by decide +kernel
theorem dX8_whispers_49 : decode cX8_whispers 49 = .ok (.invokevirtual 172, 3) := by decide +kernel
theorem dX8_whispers_52 : decode cX8_whispers 52 = .ok (.aload_n 3, 1) := by decide +kernel
theorem dX8_whispers_53 : decode cX8_whispers 53 = .ok (.iload_n 1, 1) := by decide +kernel
theorem dX8_whispers_54 : decode cX8_whispers 54 = .ok (.invokevirtual 188, 3) := by decide +kernel
theorem dX8_whispers_57 : decode cX8_whispers 57 = .ok (.invokevirtual 191, 3) := by decide +kernel
theorem dX8_whispers_60 : decode cX8_whispers 60 = .ok (.ireturn, 1) := by decide +kernel
theorem dX8_drift_0 : decode cX8_drift 0 = .ok (.iload_n 1, 1) := by decide +kernel
theorem dX8_drift_1 : decode cX8_drift 1 = .ok (.iconst 2, 1) := by decide +kernel
theorem dX8_drift_2 : decode cX8_drift 2 = .ok (.invokestatic 80, 3) := by decide +kernel
theorem dX8_drift_5 : decode cX8_drift 5 = .ok (.ifCond .ne 6, 3) := by decide +kernel
theorem dX8_drift_8 : decode cX8_drift 8 = .ok (.bipush (-2), 2) := by decide +kernel
theorem dX8_drift_10 : decode cX8_drift 10 = .ok (.ireturn, 1) := by decide +kernel
theorem dX8_drift_11 : decode cX8_drift 11 = .ok (.aload_n 0, 1) := by decide +kernel
theorem dX8_drift_12 : decode cX8_drift 12 = .ok (.invokevirtual 105, 3) := by decide +kernel
theorem dX8_drift_15 : decode cX8_drift 15 = .ok (.astore_n 2, 1) := by decide +kernel
theorem dX8_drift_16 : decode cX8_drift 16 = .ok (.iconst (-1), 1) := by decide +kernel
theorem dX8_drift_17 : decode cX8_drift 17 = .ok (.istore_n 3, 1) := by decide +kernel
theorem dX8_drift_18 : decode cX8_drift 18 = .ok (.iconst 0, 1) := by decide +kernel
theorem dX8_drift_19 : decode cX8_drift 19 = .ok (.istore 4, 2) := by decide +kernel
theorem dX8_drift_21 : decode cX8_drift 21 = .ok (.bipush 39, 2) := by decide +kernel
theorem dX8_drift_23 : decode cX8_drift 23 = .ok (.istore 5, 2) := by decide +kernel
theorem dX8_drift_25 : decode cX8_drift 25 = .ok (.iload 5, 2) := by decide +kernel
theorem dX8_drift_27 : decode cX8_drift 27 = .ok (.ifCond .lt 33, 3) := by decide +kernel
theorem dX8_drift_30 : decode cX8_drift 30 = .ok (.aload_n 2, 1) := by decide +kernel
theorem dX8_drift_31 : decode cX8_drift 31 = .ok (.iload 5, 2) := by decide +kernel
theorem dX8_drift_33 : decode cX8_drift 33 = .ok (.invokevirtual 172, 3) := by decide +kernel
theorem dX8_drift_36 : decode cX8_drift 36 = .ok (.aload_n 2, 1) := by decide +kernel
theorem dX8_drift_37 : decode cX8_drift 37 = .ok (.getfield 109, 3) := by decide +kernel
theorem dX8_drift_40 : decode cX8_drift 40 = .ok (.iload 5, 2) := by decide +kernel
theorem dX8_drift_42 : decode cX8_drift 42 = .ok (.invokevirtual 181, 3) := by decide +kernel
theorem dX8_drift_45 : decode cX8_drift 45 = .ok (.if_icmp .eq 9, 3) := by decide +kernel
theorem dX8_drift_48 : decode cX8_drift 48 = .ok (.iload 5, 2) := by decide +kernel
theorem dX8_drift_50 : decode cX8_drift 50 = .ok (.istore_n 3, 1) := by decide +kernel
theorem dX8_drift_51 : decode cX8_drift 51 = .ok (.iinc 4 1, 3) := by decide +kernel
theorem dX8_drift_54 : decode cX8_drift 54 = .ok (.iinc 5 (-1), 3) := by decide +kernel
theorem dX8_drift_57 : decode cX8_drift 57 = .ok (.goto (-32), 3) := by decide +kernel
theorem dX8_drift_60 : decode cX8_drift 60 = .ok (.iload 4, 2) := by decide +kernel
theorem dX8_drift_62 : decode cX8_drift 62 = .ok (.ifCond .ne 7, 3) := by decide +kernel
theorem dX8_drift_65 : decode cX8_drift 65 = .ok (.iconst (-1), 1) := by decide +kernel
theorem dX8_drift_66 : decode cX8_drift 66 = .ok (.goto 13, 3) := by decide +kernel
theorem dX8_drift_69 : decode cX8_drift 69 = .ok (.iload_n 1, 1) := by decide +kernel
theorem dX8_drift_70 : decode cX8_drift 70 = .ok (.ifCond .ne 7, 3) := by decide +kernel
theorem dX8_drift_73 : decode cX8_drift 73 = .ok (.iload_n 3, 1) := by decide +kernel
theorem dX8_drift_74 : decode cX8_drift 74 = .ok (.goto 5, 3) := by decide +kernel
theorem dX8_drift_77 : decode cX8_drift 77 = .ok (.iload 4, 2) := by decide +kernel
theorem dX8_drift_79 : decode cX8_drift 79 = .ok (.ireturn, 1) := by decide +kernel
theorem dX8_round_0 : decode cX8_round 0 = .ok (.aload_n 0, 1) := by decide +kernel
theorem dX8_round_1 : decode cX8_round 1 = .ok (.invokevirtual 105, 3) := by decide +kernel
theorem dX8_round_4 : decode cX8_round 4 = .ok (.astore_n 1, 1) := by decide +kernel
theorem dX8_round_5 : decode cX8_round 5 = .ok (.iconst 1, 1) := by decide +kernel
theorem dX8_round_6 : decode cX8_round 6 = .ok (.istore_n 2, 1) := by decide +kernel
theorem dX8_round_7 : decode cX8_round 7 = .ok (.iload_n 2, 1) := by decide +kernel
theorem dX8_round_8 : decode cX8_round 8 = .ok (.bipush 12, 2) := by decide +kernel
theorem dX8_round_10 : decode cX8_round 10 = .ok (.if_icmp .gt 19, 3) := by decide +kernel
theorem dX8_round_13 : decode cX8_round 13 = .ok (.aload_n 1, 1) := by decide +kernel
theorem dX8_round_14 : decode cX8_round 14 = .ok (.iload_n 2, 1) := by decide +kernel
theorem dX8_round_15 : decode cX8_round 15 = .ok (.invokestatic 195, 3) := by decide +kernel
theorem dX8_round_18 : decode cX8_round 18 = .ok (.ifCond .eq 5, 3) := by decide +kernel
theorem dX8_round_21 : decode cX8_round 21 = .ok (.iload_n 2, 1) := by decide +kernel
theorem dX8_round_22 : decode cX8_round 22 = .ok (.ireturn, 1) := by decide +kernel
theorem dX8_round_23 : decode cX8_round 23 = .ok (.iinc 2 1, 3) := by decide +kernel
theorem dX8_round_26 : decode cX8_round 26 = .ok (.goto (-19), 3) := by decide +kernel
theorem dX8_round_29 : decode cX8_round 29 = .ok (.iconst (-1), 1) := by decide +kernel
theorem dX8_round_30 : decode cX8_round 30 = .ok (.ireturn, 1) := by decide +kernel
theorem dX8_often_0 : decode cX8_often 0 = .ok (.iload_n 1, 1) := by decide +kernel
theorem dX8_often_1 : decode cX8_often 1 = .ok (.bipush 8, 2) := by decide +kernel
theorem dX8_often_3 : decode cX8_often 3 = .ok (.invokestatic 80, 3) := by decide +kernel
theorem dX8_often_6 : decode cX8_often 6 = .ok (.ifCond .eq 11, 3) := by decide +kernel
theorem dX8_often_9 : decode cX8_often 9 = .ok (.iload_n 2, 1) := by decide +kernel
theorem dX8_often_10 : decode cX8_often 10 = .ok (.iconst 2, 1) := by decide +kernel
theorem dX8_often_11 : decode cX8_often 11 = .ok (.invokestatic 80, 3) := by decide +kernel
theorem dX8_often_14 : decode cX8_often 14 = .ok (.ifCond .ne 6, 3) := by decide +kernel
theorem dX8_often_17 : decode cX8_often 17 = .ok (.bipush (-2), 2) := by decide +kernel
theorem dX8_often_19 : decode cX8_often 19 = .ok (.ireturn, 1) := by decide +kernel
theorem dX8_often_20 : decode cX8_often 20 = .ok (.aload_n 0, 1) := by decide +kernel
theorem dX8_often_21 : decode cX8_often 21 = .ok (.invokevirtual 105, 3) := by decide +kernel
theorem dX8_often_24 : decode cX8_often 24 = .ok (.astore_n 3, 1) := by decide +kernel
theorem dX8_often_25 : decode cX8_often 25 = .ok (.iconst 0, 1) := by decide +kernel
theorem dX8_often_26 : decode cX8_often 26 = .ok (.istore 4, 2) := by decide +kernel
theorem dX8_often_28 : decode cX8_often 28 = .ok (.iconst (-1), 1) := by decide +kernel
theorem dX8_often_29 : decode cX8_often 29 = .ok (.istore 5, 2) := by decide +kernel
theorem dX8_often_31 : decode cX8_often 31 = .ok (.iconst 0, 1) := by decide +kernel
theorem dX8_often_32 : decode cX8_often 32 = .ok (.istore 6, 2) := by decide +kernel
theorem dX8_often_34 : decode cX8_often 34 = .ok (.iload 6, 2) := by decide +kernel
theorem dX8_often_36 : decode cX8_often 36 = .ok (.bipush 40, 2) := by decide +kernel
theorem dX8_often_38 : decode cX8_often 38 = .ok (.if_icmp .ge 26, 3) := by decide +kernel
theorem dX8_often_41 : decode cX8_often 41 = .ok (.aload_n 3, 1) := by decide +kernel
theorem dX8_often_42 : decode cX8_often 42 = .ok (.iload 6, 2) := by decide +kernel
theorem dX8_often_44 : decode cX8_often 44 = .ok (.invokevirtual 172, 3) := by decide +kernel
theorem dX8_often_47 : decode cX8_often 47 = .ok (.iload_n 1, 1) := by decide +kernel
theorem dX8_often_48 : decode cX8_often 48 = .ok (.if_icmp .ne 10, 3) := by decide +kernel
theorem dX8_often_51 : decode cX8_often 51 = .ok (.iinc 4 1, 3) := by decide +kernel
theorem dX8_often_54 : decode cX8_often 54 = .ok (.iload 6, 2) := by decide +kernel
theorem dX8_often_56 : decode cX8_often 56 = .ok (.istore 5, 2) := by decide +kernel
theorem dX8_often_58 : decode cX8_often 58 = .ok (.iinc 6 1, 3) := by decide +kernel
theorem dX8_often_61 : decode cX8_often 61 = .ok (.goto (-27), 3) := by decide +kernel
theorem dX8_often_64 : decode cX8_often 64 = .ok (.iload_n 2, 1) := by decide +kernel
theorem dX8_often_65 : decode cX8_often 65 = .ok (.ifCond .ne 8, 3) := by decide +kernel
theorem dX8_often_68 : decode cX8_often 68 = .ok (.iload 4, 2) := by decide +kernel
theorem dX8_often_70 : decode cX8_often 70 = .ok (.goto 5, 3) := by decide +kernel
theorem dX8_often_73 : decode cX8_often 73 = .ok (.iload 5, 2) := by decide +kernel
theorem dX8_often_75 : decode cX8_often 75 = .ok (.ireturn, 1) := by decide +kernel
theorem dX8_may_0 : decode cX8_may 0 = .ok (.iload_n 1, 1) := by decide +kernel
theorem dX8_may_1 : decode cX8_may 1 = .ok (.bipush 40, 2) := by decide +kernel
theorem dX8_may_3 : decode cX8_may 3 = .ok (.invokestatic 80, 3) := by decide +kernel
theorem dX8_may_6 : decode cX8_may 6 = .ok (.ifCond .eq 12, 3) := by decide +kernel
theorem dX8_may_9 : decode cX8_may 9 = .ok (.iload_n 2, 1) := by decide +kernel
theorem dX8_may_10 : decode cX8_may 10 = .ok (.bipush 40, 2) := by decide +kernel
theorem dX8_may_12 : decode cX8_may 12 = .ok (.invokestatic 80, 3) := by decide +kernel
theorem dX8_may_15 : decode cX8_may 15 = .ok (.ifCond .ne 6, 3) := by decide +kernel
theorem dX8_may_18 : decode cX8_may 18 = .ok (.bipush (-2), 2) := by decide +kernel
theorem dX8_may_20 : decode cX8_may 20 = .ok (.ireturn, 1) := by decide +kernel
theorem dX8_may_21 : decode cX8_may 21 = .ok (.aload_n 0, 1) := by decide +kernel
theorem dX8_may_22 : decode cX8_may 22 = .ok (.invokevirtual 105, 3) := by decide +kernel
theorem dX8_may_25 : decode cX8_may 25 = .ok (.astore_n 3, 1) := by decide +kernel
theorem dX8_may_26 : decode cX8_may 26 = .ok (.aload_n 3, 1) := by decide +kernel
theorem dX8_may_27 : decode cX8_may 27 = .ok (.iload_n 1, 1) := by decide +kernel
theorem dX8_may_28 : decode cX8_may 28 = .ok (.sipush 511, 3) := by decide +kernel
theorem dX8_may_31 : decode cX8_may 31 = .ok (.aload_n 0, 1) := by decide +kernel
theorem dX8_may_32 : decode cX8_may 32 = .ok (.getfield 62, 3) := by decide +kernel
theorem dX8_may_35 : decode cX8_may 35 = .ok (.invokevirtual 199, 3) := by decide +kernel
theorem dX8_may_38 : decode cX8_may 38 = .ok (.aload_n 3, 1) := by decide +kernel
theorem dX8_may_39 : decode cX8_may 39 = .ok (.iload_n 2, 1) := by decide +kernel
theorem dX8_may_40 : decode cX8_may 40 = .ok (.invokevirtual 172, 3) := by decide +kernel
theorem dX8_may_43 : decode cX8_may 43 = .ok (.invokestatic 203, 3) := by decide +kernel
theorem dX8_may_46 : decode cX8_may 46 = .ok (.aload_n 0, 1) := by decide +kernel
theorem dX8_may_47 : decode cX8_may 47 = .ok (.getfield 62, 3) := by decide +kernel
theorem dX8_may_50 : decode cX8_may 50 = .ok (.iload_n 2, 1) := by decide +kernel
theorem dX8_may_51 : decode cX8_may 51 = .ok (.iaload, 1) := by decide +kernel
theorem dX8_may_52 : decode cX8_may 52 = .ok (.invokestatic 203, 3) := by decide +kernel
theorem dX8_may_55 : decode cX8_may 55 = .ok (.ior, 1) := by decide +kernel
theorem dX8_may_56 : decode cX8_may 56 = .ok (.ireturn, 1) := by decide +kernel
theorem dX8_prompt_0 : decode cX8_prompt 0 = .ok (.iload_n 1, 1) := by decide +kernel
theorem dX8_prompt_1 : decode cX8_prompt 1 = .ok (.iconst 1, 1) := by decide +kernel
theorem dX8_prompt_2 : decode cX8_prompt 2 = .ok (.if_icmp .lt 17, 3) := by decide +kernel
theorem dX8_prompt_5 : decode cX8_prompt 5 = .ok (.iload_n 2, 1) := by decide +kernel
theorem dX8_prompt_6 : decode cX8_prompt 6 = .ok (.bipush 40, 2) := by decide +kernel
theorem dX8_prompt_8 : decode cX8_prompt 8 = .ok (.invokestatic 80, 3) := by decide +kernel
theorem dX8_prompt_11 : decode cX8_prompt 11 = .ok (.ifCond .eq 8, 3) := by decide +kernel
theorem dX8_prompt_14 : decode cX8_prompt 14 = .ok (.iload_n 1, 1) := by decide +kernel
theorem dX8_prompt_15 : decode cX8_prompt 15 = .ok (.iload_n 2, 1) := by decide +kernel
theorem dX8_prompt_16 : decode cX8_prompt 16 = .ok (.if_icmp .lt 6, 3) := by decide +kernel
theorem dX8_prompt_19 : decode cX8_prompt 19 = .ok (.bipush (-2), 2) := by decide +kernel
theorem dX8_prompt_21 : decode cX8_prompt 21 = .ok (.ireturn, 1) := by decide +kernel
theorem dX8_prompt_22 : decode cX8_prompt 22 = .ok (.iload_n 3, 1) := by decide +kernel
theorem dX8_prompt_23 : decode cX8_prompt 23 = .ok (.bipush 8, 2) := by decide +kernel
theorem dX8_prompt_25 : decode cX8_prompt 25 = .ok (.invokestatic 80, 3) := by decide +kernel
theorem dX8_prompt_28 : decode cX8_prompt 28 = .ok (.ifCond .eq 12, 3) := by decide +kernel
theorem dX8_prompt_31 : decode cX8_prompt 31 = .ok (.iload 4, 2) := by decide +kernel
theorem dX8_prompt_33 : decode cX8_prompt 33 = .ok (.iconst 3, 1) := by decide +kernel
theorem dX8_prompt_34 : decode cX8_prompt 34 = .ok (.invokestatic 80, 3) := by decide +kernel
theorem dX8_prompt_37 : decode cX8_prompt 37 = .ok (.ifCond .ne 6, 3) := by decide +kernel
theorem dX8_prompt_40 : decode cX8_prompt 40 = .ok (.bipush (-2), 2) := by decide +kernel
theorem dX8_prompt_42 : decode cX8_prompt 42 = .ok (.ireturn, 1) := by decide +kernel
theorem dX8_prompt_43 : decode cX8_prompt 43 = .ok (.aload_n 0, 1) := by decide +kernel
theorem dX8_prompt_44 : decode cX8_prompt 44 = .ok (.invokevirtual 105, 3) := by decide +kernel
theorem dX8_prompt_47 : decode cX8_prompt 47 = .ok (.astore 5, 2) := by decide +kernel
theorem dX8_prompt_49 : decode cX8_prompt 49 = .ok (.iconst (-1), 1) := by decide +kernel
theorem dX8_prompt_50 : decode cX8_prompt 50 = .ok (.istore 6, 2) := by decide +kernel
theorem dX8_prompt_52 : decode cX8_prompt 52 = .ok (.iconst (-1), 1) := by decide +kernel
theorem dX8_prompt_53 : decode cX8_prompt 53 = .ok (.istore 7, 2) := by decide +kernel
theorem dX8_prompt_55 : decode cX8_prompt 55 = .ok (.iconst 0, 1) := by decide +kernel
theorem dX8_prompt_56 : decode cX8_prompt 56 = .ok (.istore 8, 2) := by decide +kernel
theorem dX8_prompt_58 : decode cX8_prompt 58 = .ok (.iload_n 3, 1) := by decide +kernel
theorem dX8_prompt_59 : decode cX8_prompt 59 = .ok (.invokestatic 203, 3) := by decide +kernel
theorem dX8_prompt_62 : decode cX8_prompt 62 = .ok (.istore 9, 2) := by decide +kernel
theorem dX8_prompt_64 : decode cX8_prompt 64 = .ok (.iload_n 2, 1) := by decide +kernel
theorem dX8_prompt_65 : decode cX8_prompt 65 = .ok (.iconst 1, 1) := by decide +kernel
theorem dX8_prompt_66 : decode cX8_prompt 66 = .ok (.isub, 1) := by decide +kernel
theorem dX8_prompt_67 : decode cX8_prompt 67 = .ok (.istore 10, 2) := by decide +kernel
theorem dX8_prompt_69 : decode cX8_prompt 69 = .ok (.iload 10, 2) := by decide +kernel
theorem dX8_prompt_71 : decode cX8_prompt 71 = .ok (.iload_n 1, 1) := by decide +kernel
theorem dX8_prompt_72 : decode cX8_prompt 72 = .ok (.if_icmp .lt 59, 3) := by decide +kernel
theorem dX8_prompt_75 : decode cX8_prompt 75 = .ok (.aload 5, 2) := by decide +kernel
theorem dX8_prompt_77 : decode cX8_prompt 77 = .ok (.iload 10, 2) := by decide +kernel
theorem dX8_prompt_79 : decode cX8_prompt 79 = .ok (.iconst 1, 1) := by decide +kernel
theorem dX8_prompt_80 : decode cX8_prompt 80 = .ok (.iadd, 1) := by decide +kernel
theorem dX8_prompt_81 : decode cX8_prompt 81 = .ok (.iload 9, 2) := by decide +kernel
theorem dX8_prompt_83 : decode cX8_prompt 83 = .ok (.invokevirtual 206, 3) := by decide +kernel
theorem dX8_prompt_86 : decode cX8_prompt 86 = .ok (.istore 9, 2) := by decide +kernel
theorem dX8_prompt_88 : decode cX8_prompt 88 = .ok (.iload 9, 2) := by decide +kernel
theorem dX8_prompt_90 : decode cX8_prompt 90 = .ok (.ifCond .eq 35, 3) := by decide +kernel
theorem dX8_prompt_93 : decode cX8_prompt 93 = .ok (.bipush 8, 2) := by decide +kernel
theorem dX8_prompt_95 : decode cX8_prompt 95 = .ok (.iload 10, 2) := by decide +kernel
theorem dX8_prompt_97 : decode cX8_prompt 97 = .ok (.imul, 1) := by decide +kernel
theorem dX8_prompt_98 : decode cX8_prompt 98 = .ok (.iload 9, 2) := by decide +kernel
theorem dX8_prompt_100 : decode cX8_prompt 100 = .ok (.invokestatic 209, 3) := by decide +kernel
theorem dX8_prompt_103 : decode cX8_prompt 103 = .ok (.iadd, 1) := by decide +kernel
theorem dX8_prompt_104 : decode cX8_prompt 104 = .ok (.istore 6, 2) := by decide +kernel
theorem dX8_prompt_106 : decode cX8_prompt 106 = .ok (.iload 7, 2) := by decide +kernel
theorem dX8_prompt_108 : decode cX8_prompt 108 = .ok (.iload 10, 2) := by decide +kernel
theorem dX8_prompt_110 : decode cX8_prompt 110 = .ok (.invokestatic 212, 3) := by decide +kernel
theorem dX8_prompt_113 : decode cX8_prompt 113 = .ok (.istore 7, 2) := by decide +kernel
theorem dX8_prompt_115 : decode cX8_prompt 115 = .ok (.iload 8, 2) := by decide +kernel
theorem dX8_prompt_117 : decode cX8_prompt 117 = .ok (.iload 9, 2) := by decide +kernel
theorem dX8_prompt_119 : decode cX8_prompt 119 = .ok (.invokestatic 217, 3) := by decide +kernel
theorem dX8_prompt_122 : decode cX8_prompt 122 = .ok (.iadd, 1) := by decide +kernel
theorem dX8_prompt_123 : decode cX8_prompt 123 = .ok (.istore 8, 2) := by decide +kernel
theorem dX8_prompt_125 : decode cX8_prompt 125 = .ok (.iinc 10 (-1), 3) := by decide +kernel
theorem dX8_prompt_128 : decode cX8_prompt 128 = .ok (.goto (-59), 3) := by decide +kernel
theorem dX8_prompt_131 : decode cX8_prompt 131 = .ok (.iload 4, 2) := by decide +kernel
theorem dX8_prompt_133 : decode cX8_prompt 133 = .ok (.ifCond .ne 8, 3) := by decide +kernel
theorem dX8_prompt_136 : decode cX8_prompt 136 = .ok (.iload 6, 2) := by decide +kernel
theorem dX8_prompt_138 : decode cX8_prompt 138 = .ok (.goto 16, 3) := by decide +kernel
theorem dX8_prompt_141 : decode cX8_prompt 141 = .ok (.iload 4, 2) := by decide +kernel
theorem dX8_prompt_143 : decode cX8_prompt 143 = .ok (.iconst 1, 1) := by decide +kernel
theorem dX8_prompt_144 : decode cX8_prompt 144 = .ok (.if_icmp .ne 8, 3) := by decide +kernel
theorem dX8_prompt_147 : decode cX8_prompt 147 = .ok (.iload 7, 2) := by decide +kernel
theorem dX8_prompt_149 : decode cX8_prompt 149 = .ok (.goto 5, 3) := by decide +kernel
theorem dX8_prompt_152 : decode cX8_prompt 152 = .ok (.iload 8, 2) := by decide +kernel
theorem dX8_prompt_154 : decode cX8_prompt 154 = .ok (.ireturn, 1) := by decide +kernel
theorem dX8_seen_0 : decode cX8_seen 0 = .ok (.iload_n 1, 1) := by decide +kernel
theorem dX8_seen_1 : decode cX8_seen 1 = .ok (.bipush 40, 2) := by decide +kernel
theorem dX8_seen_3 : decode cX8_seen 3 = .ok (.invokestatic 80, 3) := by decide +kernel
theorem dX8_seen_6 : decode cX8_seen 6 = .ok (.ifCond .eq 12, 3) := by decide +kernel
theorem dX8_seen_9 : decode cX8_seen 9 = .ok (.iload_n 2, 1) := by decide +kernel
theorem dX8_seen_10 : decode cX8_seen 10 = .ok (.bipush 8, 2) := by decide +kernel
theorem dX8_seen_12 : decode cX8_seen 12 = .ok (.invokestatic 80, 3) := by decide +kernel
theorem dX8_seen_15 : decode cX8_seen 15 = .ok (.ifCond .ne 6, 3) := by decide +kernel
theorem dX8_seen_18 : decode cX8_seen 18 = .ok (.bipush (-2), 2) := by decide +kernel
theorem dX8_seen_20 : decode cX8_seen 20 = .ok (.ireturn, 1) := by decide +kernel
theorem dX8_seen_21 : decode cX8_seen 21 = .ok (.aload_n 0, 1) := by decide +kernel
theorem dX8_seen_22 : decode cX8_seen 22 = .ok (.getfield 34, 3) := by decide +kernel
theorem dX8_seen_25 : decode cX8_seen 25 = .ok (.iload_n 1, 1) := by decide +kernel
theorem dX8_seen_26 : decode cX8_seen 26 = .ok (.iload_n 2, 1) := by decide +kernel
theorem dX8_seen_27 : decode cX8_seen 27 = .ok (.invokestatic 149, 3) := by decide +kernel
theorem dX8_seen_30 : decode cX8_seen 30 = .ok (.ireturn, 1) := by decide +kernel
theorem dX8_forget_0 : decode cX8_forget 0 = .ok (.aload_n 0, 1) := by decide +kernel
theorem dX8_forget_1 : decode cX8_forget 1 = .ok (.getfield 34, 3) := by decide +kernel
theorem dX8_forget_4 : decode cX8_forget 4 = .ok (.invokevirtual 153, 3) := by decide +kernel
theorem dX8_forget_7 : decode cX8_forget 7 = .ok (.istore_n 1, 1) := by decide +kernel
theorem dX8_forget_8 : decode cX8_forget 8 = .ok (.aload_n 0, 1) := by decide +kernel
theorem dX8_forget_9 : decode cX8_forget 9 = .ok (.getfield 34, 3) := by decide +kernel
theorem dX8_forget_12 : decode cX8_forget 12 = .ok (.invokevirtual 222, 3) := by decide +kernel
theorem dX8_forget_15 : decode cX8_forget 15 = .ok (.iload_n 1, 1) := by decide +kernel
theorem dX8_forget_16 : decode cX8_forget 16 = .ok (.ireturn, 1) := by decide +kernel
theorem dX8_filed_0 : decode cX8_filed 0 = .ok (.aload_n 0, 1) := by decide +kernel
theorem dX8_filed_1 : decode cX8_filed 1 = .ok (.invokevirtual 105, 3) := by decide +kernel
theorem dX8_filed_4 : decode cX8_filed 4 = .ok (.astore_n 1, 1) := by decide +kernel
theorem dX8_filed_5 : decode cX8_filed 5 = .ok (.iconst 0, 1) := by decide +kernel
theorem dX8_filed_6 : decode cX8_filed 6 = .ok (.istore_n 2, 1) := by decide +kernel
theorem dX8_filed_7 : decode cX8_filed 7 = .ok (.iconst 0, 1) := by decide +kernel
theorem dX8_filed_8 : decode cX8_filed 8 = .ok (.istore_n 3, 1) := by decide +kernel
theorem dX8_filed_9 : decode cX8_filed 9 = .ok (.iload_n 3, 1) := by decide +kernel
theorem dX8_filed_10 : decode cX8_filed 10 = .ok (.aload_n 1, 1) := by decide +kernel
theorem dX8_filed_11 : decode cX8_filed 11 = .ok (.getfield 118, 3) := by decide +kernel
theorem dX8_filed_14 : decode cX8_filed 14 = .ok (.getfield 129, 3) := by decide +kernel
theorem dX8_filed_17 : decode cX8_filed 17 = .ok (.if_icmp .ge 35, 3) := by decide +kernel
theorem dX8_filed_20 : decode cX8_filed 20 = .ok (.aload_n 1, 1) := by decide +kernel
theorem dX8_filed_21 : decode cX8_filed 21 = .ok (.iload_n 3, 1) := by decide +kernel
theorem dX8_filed_22 : decode cX8_filed 22 = .ok (.aload_n 0, 1) := by decide +kernel
theorem dX8_filed_23 : decode cX8_filed 23 = .ok (.getfield 62, 3) := by decide +kernel
theorem dX8_filed_26 : decode cX8_filed 26 = .ok (.invokevirtual 223, 3) := by decide +kernel
theorem dX8_filed_29 : decode cX8_filed 29 = .ok (.aload_n 0, 1) := by decide +kernel
theorem dX8_filed_30 : decode cX8_filed 30 = .ok (.aload_n 0, 1) := by decide +kernel
theorem dX8_filed_31 : decode cX8_filed 31 = .ok (.getfield 62, 3) := by decide +kernel
theorem dX8_filed_34 : decode cX8_filed 34 = .ok (.invokevirtual 227, 3) := by decide +kernel
theorem dX8_filed_37 : decode cX8_filed 37 = .ok (.ifCond .eq 9, 3) := by decide +kernel
theorem dX8_filed_40 : decode cX8_filed 40 = .ok (.iload_n 2, 1) := by decide +kernel
theorem dX8_filed_41 : decode cX8_filed 41 = .ok (.iconst 1, 1) := by decide +kernel
theorem dX8_filed_42 : decode cX8_filed 42 = .ok (.iload_n 3, 1) := by decide +kernel
theorem dX8_filed_43 : decode cX8_filed 43 = .ok (.ishl, 1) := by decide +kernel
theorem dX8_filed_44 : decode cX8_filed 44 = .ok (.ior, 1) := by decide +kernel
theorem dX8_filed_45 : decode cX8_filed 45 = .ok (.istore_n 2, 1) := by decide +kernel
theorem dX8_filed_46 : decode cX8_filed 46 = .ok (.iinc 3 1, 3) := by decide +kernel
theorem dX8_filed_49 : decode cX8_filed 49 = .ok (.goto (-40), 3) := by decide +kernel
theorem dX8_filed_52 : decode cX8_filed 52 = .ok (.iload_n 2, 1) := by decide +kernel
theorem dX8_filed_53 : decode cX8_filed 53 = .ok (.ireturn, 1) := by decide +kernel
theorem dX8_coughed_0 : decode cX8_coughed 0 = .ok (.aload_n 0, 1) := by decide +kernel
theorem dX8_coughed_1 : decode cX8_coughed 1 = .ok (.invokevirtual 105, 3) := by decide +kernel
theorem dX8_coughed_4 : decode cX8_coughed 4 = .ok (.astore_n 2, 1) := by decide +kernel
theorem dX8_coughed_5 : decode cX8_coughed 5 = .ok (.iload_n 1, 1) := by decide +kernel
theorem dX8_coughed_6 : decode cX8_coughed 6 = .ok (.aload_n 2, 1) := by decide +kernel
theorem dX8_coughed_7 : decode cX8_coughed 7 = .ok (.getfield 118, 3) := by decide +kernel
theorem dX8_coughed_10 : decode cX8_coughed 10 = .ok (.getfield 129, 3) := by decide +kernel
theorem dX8_coughed_13 : decode cX8_coughed 13 = .ok (.invokestatic 80, 3) := by decide +kernel
theorem dX8_coughed_16 : decode cX8_coughed 16 = .ok (.ifCond .ne 6, 3) := by decide +kernel
theorem dX8_coughed_19 : decode cX8_coughed 19 = .ok (.bipush (-2), 2) := by decide +kernel
theorem dX8_coughed_21 : decode cX8_coughed 21 = .ok (.ireturn, 1) := by decide +kernel
theorem dX8_coughed_22 : decode cX8_coughed 22 = .ok (.iconst 0, 1) := by decide +kernel
theorem dX8_coughed_23 : decode cX8_coughed 23 = .ok (.istore_n 3, 1) := by decide +kernel
theorem dX8_coughed_24 : decode cX8_coughed 24 = .ok (.iconst 0, 1) := by decide +kernel
theorem dX8_coughed_25 : decode cX8_coughed 25 = .ok (.istore 4, 2) := by decide +kernel
theorem dX8_coughed_27 : decode cX8_coughed 27 = .ok (.iload 4, 2) := by decide +kernel
theorem dX8_coughed_29 : decode cX8_coughed 29 = .ok (.bipush 31, 2) := by decide +kernel
theorem dX8_coughed_31 : decode cX8_coughed 31 = .ok (.if_icmp .ge 40, 3) := by decide +kernel
theorem dX8_coughed_34 : decode cX8_coughed 34 = .ok (.aload_n 2, 1) := by decide +kernel
theorem dX8_coughed_35 : decode cX8_coughed 35 = .ok (.iload 4, 2) := by decide +kernel
theorem dX8_coughed_37 : decode cX8_coughed 37 = .ok (.iconst 1, 1) := by decide +kernel
theorem dX8_coughed_38 : decode cX8_coughed 38 = .ok (.iload_n 1, 1) := by decide +kernel
theorem dX8_coughed_39 : decode cX8_coughed 39 = .ok (.ishl, 1) := by decide +kernel
theorem dX8_coughed_40 : decode cX8_coughed 40 = .ok (.aload_n 0, 1) := by decide +kernel
theorem dX8_coughed_41 : decode cX8_coughed 41 = .ok (.getfield 62, 3) := by decide +kernel
theorem dX8_coughed_44 : decode cX8_coughed 44 = .ok (.invokevirtual 199, 3) := by decide +kernel
theorem dX8_coughed_47 : decode cX8_coughed 47 = .ok (.aload_n 0, 1) := by decide +kernel
theorem dX8_coughed_48 : decode cX8_coughed 48 = .ok (.aload_n 0, 1) := by decide +kernel
theorem dX8_coughed_49 : decode cX8_coughed 49 = .ok (.getfield 62, 3) := by decide +kernel
theorem dX8_coughed_52 : decode cX8_coughed 52 = .ok (.invokevirtual 227, 3) := by decide +kernel
theorem dX8_coughed_55 : decode cX8_coughed 55 = .ok (.ifCond .eq 10, 3) := by decide +kernel
theorem dX8_coughed_58 : decode cX8_coughed 58 = .ok (.iload_n 3, 1) := by decide +kernel
theorem dX8_coughed_59 : decode cX8_coughed 59 = .ok (.iconst 1, 1) := by decide +kernel
theorem dX8_coughed_60 : decode cX8_coughed 60 = .ok (.iload 4, 2) := by decide +kernel
theorem dX8_coughed_62 : decode cX8_coughed 62 = .ok (.ishl, 1) := by decide +kernel
theorem dX8_coughed_63 : decode cX8_coughed 63 = .ok (.ior, 1) := by decide +kernel
theorem dX8_coughed_64 : decode cX8_coughed 64 = .ok (.istore_n 3, 1) := by decide +kernel
theorem dX8_coughed_65 : decode cX8_coughed 65 = .ok (.iinc 4 1, 3) := by decide +kernel
theorem dX8_coughed_68 : decode cX8_coughed 68 = .ok (.goto (-41), 3) := by decide +kernel
theorem dX8_coughed_71 : decode cX8_coughed 71 = .ok (.iload_n 3, 1) := by decide +kernel
theorem dX8_coughed_72 : decode cX8_coughed 72 = .ok (.ireturn, 1) := by decide +kernel
theorem dX8_ask_0 : decode cX8_ask 0 = .ok (.aload_n 0, 1) := by decide +kernel
theorem dX8_ask_1 : decode cX8_ask 1 = .ok (.invokevirtual 105, 3) := by decide +kernel
theorem dX8_ask_4 : decode cX8_ask 4 = .ok (.astore_n 2, 1) := by decide +kernel
theorem dX8_ask_5 : decode cX8_ask 5 = .ok (.iload_n 1, 1) := by decide +kernel
theorem dX8_ask_6 : decode cX8_ask 6 = .ok (.aload_n 2, 1) := by decide +kernel
theorem dX8_ask_7 : decode cX8_ask 7 = .ok (.getfield 118, 3) := by decide +kernel
theorem dX8_ask_10 : decode cX8_ask 10 = .ok (.getfield 129, 3) := by decide +kernel
theorem dX8_ask_13 : decode cX8_ask 13 = .ok (.invokestatic 80, 3) := by decide +kernel
theorem dX8_ask_16 : decode cX8_ask 16 = .ok (.ifCond .ne 6, 3) := by decide +kernel
theorem dX8_ask_19 : decode cX8_ask 19 = .ok (.bipush (-2), 2) := by decide +kernel
theorem dX8_ask_21 : decode cX8_ask 21 = .ok (.ireturn, 1) := by decide +kernel
theorem dX8_ask_22 : decode cX8_ask 22 = .ok (.iconst 0, 1) := by decide +kernel
theorem dX8_ask_23 : decode cX8_ask 23 = .ok (.istore_n 3, 1) := by decide +kernel
theorem dX8_ask_24 : decode cX8_ask 24 = .ok (.iload_n 3, 1) := by decide +kernel
theorem dX8_ask_25 : decode cX8_ask 25 = .ok (.aload_n 0, 1) := by decide +kernel
theorem dX8_ask_26 : decode cX8_ask 26 = .ok (.getfield 66, 3) := by decide +kernel
theorem dX8_ask_29 : decode cX8_ask 29 = .ok (.arraylength, 1) := by decide +kernel
theorem dX8_ask_30 : decode cX8_ask 30 = .ok (.if_icmp .ge 16, 3) := by decide +kernel
theorem dX8_ask_33 : decode cX8_ask 33 = .ok (.aload_n 0, 1) := by decide +kernel
theorem dX8_ask_34 : decode cX8_ask 34 = .ok (.getfield 66, 3) := by decide +kernel
theorem dX8_ask_37 : decode cX8_ask 37 = .ok (.iload_n 3, 1) := by decide +kernel
theorem dX8_ask_38 : decode cX8_ask 38 = .ok (.iconst 0, 1) := by decide +kernel
theorem dX8_ask_39 : decode cX8_ask 39 = .ok (.iastore, 1) := by decide +kernel
theorem dX8_ask_40 : decode cX8_ask 40 = .ok (.iinc 3 1, 3) := by decide +kernel
theorem dX8_ask_43 : decode cX8_ask 43 = .ok (.goto (-19), 3) := by decide +kernel
theorem dX8_ask_46 : decode cX8_ask 46 = .ok (.iconst 0, 1) := by decide +kernel
theorem dX8_ask_47 : decode cX8_ask 47 = .ok (.istore_n 3, 1) := by decide +kernel
theorem dX8_ask_48 : decode cX8_ask 48 = .ok (.iload_n 3, 1) := by decide +kernel
theorem dX8_ask_49 : decode cX8_ask 49 = .ok (.bipush 31, 2) := by decide +kernel
theorem dX8_ask_51 : decode cX8_ask 51 = .ok (.if_icmp .ge 36, 3) := by decide +kernel
theorem dX8_ask_54 : decode cX8_ask 54 = .ok (.aload_n 2, 1) := by decide +kernel
theorem dX8_ask_55 : decode cX8_ask 55 = .ok (.iload_n 3, 1) := by decide +kernel
theorem dX8_ask_56 : decode cX8_ask 56 = .ok (.iconst 1, 1) := by decide +kernel
theorem dX8_ask_57 : decode cX8_ask 57 = .ok (.iload_n 1, 1) := by decide +kernel
theorem dX8_ask_58 : decode cX8_ask 58 = .ok (.ishl, 1) := by decide +kernel
theorem dX8_ask_59 : decode cX8_ask 59 = .ok (.aload_n 0, 1) := by decide +kernel
theorem dX8_ask_60 : decode cX8_ask 60 = .ok (.getfield 62, 3) := by decide +kernel
theorem dX8_ask_63 : decode cX8_ask 63 = .ok (.invokevirtual 199, 3) := by decide +kernel
theorem dX8_ask_66 : decode cX8_ask 66 = .ok (.aload_n 0, 1) := by decide +kernel
theorem dX8_ask_67 : decode cX8_ask 67 = .ok (.aload_n 0, 1) := by decide +kernel
theorem dX8_ask_68 : decode cX8_ask 68 = .ok (.getfield 62, 3) := by decide +kernel
theorem dX8_ask_71 : decode cX8_ask 71 = .ok (.invokevirtual 227, 3) := by decide +kernel
theorem dX8_ask_74 : decode cX8_ask 74 = .ok (.ifCond .eq 7, 3) := by decide +kernel
theorem dX8_ask_77 : decode cX8_ask 77 = .ok (.aload_n 0, 1) := by decide +kernel
theorem dX8_ask_78 : decode cX8_ask 78 = .ok (.invokevirtual 231, 3) := by decide +kernel
theorem dX8_ask_81 : decode cX8_ask 81 = .ok (.iinc 3 1, 3) := by decide +kernel
theorem dX8_ask_84 : decode cX8_ask 84 = .ok (.goto (-36), 3) := by decide +kernel
theorem dX8_ask_87 : decode cX8_ask 87 = .ok (.iconst 0, 1) := by decide +kernel
theorem dX8_ask_88 : decode cX8_ask 88 = .ok (.istore_n 3, 1) := by decide +kernel
theorem dX8_ask_89 : decode cX8_ask 89 = .ok (.iconst 1, 1) := by decide +kernel
theorem dX8_ask_90 : decode cX8_ask 90 = .ok (.istore 4, 2) := by decide +kernel
theorem dX8_ask_92 : decode cX8_ask 92 = .ok (.iload 4, 2) := by decide +kernel
theorem dX8_ask_94 : decode cX8_ask 94 = .ok (.bipush 40, 2) := by decide +kernel
theorem dX8_ask_96 : decode cX8_ask 96 = .ok (.if_icmp .ge 26, 3) := by decide +kernel
theorem dX8_ask_99 : decode cX8_ask 99 = .ok (.aload_n 0, 1) := by decide +kernel
theorem dX8_ask_100 : decode cX8_ask 100 = .ok (.iload 4, 2) := by decide +kernel
theorem dX8_ask_102 : decode cX8_ask 102 = .ok (.invokevirtual 234, 3) := by decide +kernel
theorem dX8_ask_105 : decode cX8_ask 105 = .ok (.aload_n 0, 1) := by decide +kernel
theorem dX8_ask_106 : decode cX8_ask 106 = .ok (.iload_n 3, 1) := by decide +kernel
theorem dX8_ask_107 : decode cX8_ask 107 = .ok (.invokevirtual 234, 3) := by decide +kernel
theorem dX8_ask_110 : decode cX8_ask 110 = .ok (.if_icmp .ge 6, 3) := by decide +kernel
theorem dX8_ask_113 : decode cX8_ask 113 = .ok (.iload 4, 2) := by decide +kernel
theorem dX8_ask_115 : decode cX8_ask 115 = .ok (.istore_n 3, 1) := by decide +kernel
theorem dX8_ask_116 : decode cX8_ask 116 = .ok (.iinc 4 1, 3) := by decide +kernel
theorem dX8_ask_119 : decode cX8_ask 119 = .ok (.goto (-27), 3) := by decide +kernel
theorem dX8_ask_122 : decode cX8_ask 122 = .ok (.iload_n 3, 1) := by decide +kernel
theorem dX8_ask_123 : decode cX8_ask 123 = .ok (.ireturn, 1) := by decide +kernel
theorem dX8_slips_0 : decode cX8_slips 0 = .ok (.aload_n 0, 1) := by decide +kernel
theorem dX8_slips_1 : decode cX8_slips 1 = .ok (.invokevirtual 105, 3) := by decide +kernel
theorem dX8_slips_4 : decode cX8_slips 4 = .ok (.astore 6, 2) := by decide +kernel
theorem dX8_slips_6 : decode cX8_slips 6 = .ok (.iload_n 1, 1) := by decide +kernel
theorem dX8_slips_7 : decode cX8_slips 7 = .ok (.bipush 17, 2) := by decide +kernel
theorem dX8_slips_9 : decode cX8_slips 9 = .ok (.invokestatic 80, 3) := by decide +kernel
theorem dX8_slips_12 : decode cX8_slips 12 = .ok (.ifCond .eq 27, 3) := by decide +kernel
theorem dX8_slips_15 : decode cX8_slips 15 = .ok (.iload_n 2, 1) := by decide +kernel
theorem dX8_slips_16 : decode cX8_slips 16 = .ok (.aload 6, 2) := by decide +kernel
theorem dX8_slips_18 : decode cX8_slips 18 = .ok (.getfield 118, 3) := by decide +kernel
theorem dX8_slips_21 : decode cX8_slips 21 = .ok (.getfield 129, 3) := by decide +kernel
theorem dX8_slips_24 : decode cX8_slips 24 = .ok (.invokestatic 80, 3) := by decide +kernel
theorem dX8_slips_27 : decode cX8_slips 27 = .ok (.ifCond .eq 12, 3) := by decide +kernel
theorem dX8_slips_30 : decode cX8_slips 30 = .ok (.iload_n 3, 1) := by decide +kernel
theorem dX8_slips_31 : decode cX8_slips 31 = .ok (.bipush 8, 2) := by decide +kernel
theorem dX8_slips_33 : decode cX8_slips 33 = .ok (.invokestatic 80, 3) := by decide +kernel
theorem dX8_slips_36 : decode cX8_slips 36 = .ok (.ifCond .ne 7, 3) := by decide +kernel
theorem dX8_slips_39 : decode cX8_slips 39 = .ok (.ldc2_w 239, 3) := by decide +kernel
theorem dX8_slips_42 : decode cX8_slips 42 = .ok (.lreturn, 1) := by decide +kernel
theorem dX8_slips_43 : decode cX8_slips 43 = .ok (.iload 4, 2) := by decide +kernel
theorem dX8_slips_45 : decode cX8_slips 45 = .ok (.iconst 1, 1) := by decide +kernel
theorem dX8_slips_46 : decode cX8_slips 46 = .ok (.if_icmp .lt 19, 3) := by decide +kernel
theorem dX8_slips_49 : decode cX8_slips 49 = .ok (.iload 4, 2) := by decide +kernel
theorem dX8_slips_51 : decode cX8_slips 51 = .ok (.bipush 9, 2) := by decide +kernel
theorem dX8_slips_53 : decode cX8_slips 53 = .ok (.if_icmp .gt 12, 3) := by decide +kernel
theorem dX8_slips_56 : decode cX8_slips 56 = .ok (.iload 5, 2) := by decide +kernel
theorem dX8_slips_58 : decode cX8_slips 58 = .ok (.iconst 2, 1) := by decide +kernel
theorem dX8_slips_59 : decode cX8_slips 59 = .ok (.invokestatic 80, 3) := by decide +kernel
theorem dX8_slips_62 : decode cX8_slips 62 = .ok (.ifCond .ne 7, 3) := by decide +kernel
theorem dX8_slips_65 : decode cX8_slips 65 = .ok (.ldc2_w 239, 3) := by decide +kernel
theorem dX8_slips_68 : decode cX8_slips 68 = .ok (.lreturn, 1) := by decide +kernel
theorem dX8_slips_69 : decode cX8_slips 69 = .ok (.aload_n 0, 1) := by decide +kernel
theorem dX8_slips_70 : decode cX8_slips 70 = .ok (.getfield 58, 3) := by decide +kernel
theorem dX8_slips_73 : decode cX8_slips 73 = .ok (.aload 6, 2) := by decide +kernel
theorem dX8_slips_75 : decode cX8_slips 75 = .ok (.iconst 0, 1) := by decide +kernel
theorem dX8_slips_76 : decode cX8_slips 76 = .ok (.invokevirtual 172, 3) := by decide +kernel
theorem dX8_slips_79 : decode cX8_slips 79 = .ok (.invokevirtual 241, 3) := by decide +kernel
theorem dX8_slips_82 : decode cX8_slips 82 = .ok (.iconst 1, 1) := by decide +kernel
theorem dX8_slips_83 : decode cX8_slips 83 = .ok (.istore 7, 2) := by decide +kernel
theorem dX8_slips_85 : decode cX8_slips 85 = .ok (.iload 7, 2) := by decide +kernel
theorem dX8_slips_87 : decode cX8_slips 87 = .ok (.iload 4, 2) := by decide +kernel
theorem dX8_slips_89 : decode cX8_slips 89 = .ok (.if_icmp .gt 22, 3) := by decide +kernel
theorem dX8_slips_92 : decode cX8_slips 92 = .ok (.aload_n 0, 1) := by decide +kernel
theorem dX8_slips_93 : decode cX8_slips 93 = .ok (.getfield 58, 3) := by decide +kernel
theorem dX8_slips_96 : decode cX8_slips 96 = .ok (.aload 6, 2) := by decide +kernel
theorem dX8_slips_98 : decode cX8_slips 98 = .ok (.iload 7, 2) := by decide +kernel
theorem dX8_slips_100 : decode cX8_slips 100 = .ok (.iload_n 2, 1) := by decide +kernel
theorem dX8_slips_101 : decode cX8_slips 101 = .ok (.iload_n 1, 1) := by decide +kernel
theorem dX8_slips_102 : decode cX8_slips 102 = .ok (.invokevirtual 244, 3) := by decide +kernel
theorem dX8_slips_105 : decode cX8_slips 105 = .ok (.iinc 7 1, 3) := by decide +kernel
theorem dX8_slips_108 : decode cX8_slips 108 = .ok (.goto (-23), 3) := by decide +kernel
theorem dX8_slips_111 : decode cX8_slips 111 = .ok (.aload_n 0, 1) := by decide +kernel
theorem dX8_slips_112 : decode cX8_slips 112 = .ok (.getfield 58, 3) := by decide +kernel
theorem dX8_slips_115 : decode cX8_slips 115 = .ok (.iload_n 3, 1) := by decide +kernel
theorem dX8_slips_116 : decode cX8_slips 116 = .ok (.invokevirtual 248, 3) := by decide +kernel
theorem dX8_slips_119 : decode cX8_slips 119 = .ok (.iload 5, 2) := by decide +kernel
theorem dX8_slips_121 : decode cX8_slips 121 = .ok (.ifCond .ne 13, 3) := by decide +kernel
theorem dX8_slips_124 : decode cX8_slips 124 = .ok (.aload_n 0, 1) := by decide +kernel
theorem dX8_slips_125 : decode cX8_slips 125 = .ok (.getfield 58, 3) := by decide +kernel
theorem dX8_slips_128 : decode cX8_slips 128 = .ok (.getfield 251, 3) := by decide +kernel
theorem dX8_slips_131 : decode cX8_slips 131 = .ok (.goto 10, 3) := by decide +kernel
theorem dX8_slips_134 : decode cX8_slips 134 = .ok (.aload_n 0, 1) := by decide +kernel
theorem dX8_slips_135 : decode cX8_slips 135 = .ok (.getfield 58, 3) := by decide +kernel
theorem dX8_slips_138 : decode cX8_slips 138 = .ok (.getfield 255, 3) := by decide +kernel
theorem dX8_slips_141 : decode cX8_slips 141 = .ok (.lreturn, 1) := by decide +kernel
theorem dX8_evening_0 : decode cX8_evening 0 = .ok (.iload_n 2, 1) := by decide +kernel
theorem dX8_evening_1 : decode cX8_evening 1 = .ok (.bipush 40, 2) := by decide +kernel
theorem dX8_evening_3 : decode cX8_evening 3 = .ok (.invokestatic 80, 3) := by decide +kernel
theorem dX8_evening_6 : decode cX8_evening 6 = .ok (.ifCond .eq 11, 3) := by decide +kernel
theorem dX8_evening_9 : decode cX8_evening 9 = .ok (.iload_n 3, 1) := by decide +kernel
theorem dX8_evening_10 : decode cX8_evening 10 = .ok (.iconst 2, 1) := by decide +kernel
theorem dX8_evening_11 : decode cX8_evening 11 = .ok (.invokestatic 80, 3) := by decide +kernel
theorem dX8_evening_14 : decode cX8_evening 14 = .ok (.ifCond .ne 6, 3) := by decide +kernel
theorem dX8_evening_17 : decode cX8_evening 17 = .ok (.bipush (-2), 2) := by decide +kernel
theorem dX8_evening_19 : decode cX8_evening 19 = .ok (.ireturn, 1) := by decide +kernel
theorem dX8_evening_20 : decode cX8_evening 20 = .ok (.aload_n 0, 1) := by decide +kernel
theorem dX8_evening_21 : decode cX8_evening 21 = .ok (.invokevirtual 105, 3) := by decide +kernel
theorem dX8_evening_24 : decode cX8_evening 24 = .ok (.astore 4, 2) := by decide +kernel
theorem dX8_evening_26 : decode cX8_evening 26 = .ok (.aload_n 0, 1) := by decide +kernel
theorem dX8_evening_27 : decode cX8_evening 27 = .ok (.getfield 51, 3) := by decide +kernel
theorem dX8_evening_30 : decode cX8_evening 30 = .ok (.iload_n 1, 1) := by decide +kernel
theorem dX8_evening_31 : decode cX8_evening 31 = .ok (.invokevirtual 258, 3) := by decide +kernel
theorem dX8_evening_34 : decode cX8_evening 34 = .ok (.aload 4, 2) := by decide +kernel
theorem dX8_evening_36 : decode cX8_evening 36 = .ok (.iconst 0, 1) := by decide +kernel
theorem dX8_evening_37 : decode cX8_evening 37 = .ok (.invokevirtual 172, 3) := by decide +kernel
theorem dX8_evening_40 : decode cX8_evening 40 = .ok (.istore 5, 2) := by decide +kernel
theorem dX8_evening_42 : decode cX8_evening 42 = .ok (.iconst 0, 1) := by decide +kernel
theorem dX8_evening_43 : decode cX8_evening 43 = .ok (.istore 6, 2) := by decide +kernel
theorem dX8_evening_45 : decode cX8_evening 45 = .ok (.iconst 1, 1) := by decide +kernel
theorem dX8_evening_46 : decode cX8_evening 46 = .ok (.istore 7, 2) := by decide +kernel
theorem dX8_evening_48 : decode cX8_evening 48 = .ok (.iload 7, 2) := by decide +kernel
theorem dX8_evening_50 : decode cX8_evening 50 = .ok (.iload_n 2, 1) := by decide +kernel
theorem dX8_evening_51 : decode cX8_evening 51 = .ok (.if_icmp .gt 72, 3) := by decide +kernel
theorem dX8_evening_54 : decode cX8_evening 54 = .ok (.aload 4, 2) := by decide +kernel
theorem dX8_evening_56 : decode cX8_evening 56 = .ok (.iload 7, 2) := by decide +kernel
theorem dX8_evening_58 : decode cX8_evening 58 = .ok (.invokevirtual 188, 3) := by decide +kernel
theorem dX8_evening_61 : decode cX8_evening 61 = .ok (.aload_n 0, 1) := by decide +kernel
theorem dX8_evening_62 : decode cX8_evening 62 = .ok (.getfield 51, 3) := by decide +kernel
theorem dX8_evening_65 : decode cX8_evening 65 = .ok (.aload 4, 2) := by decide +kernel
theorem dX8_evening_67 : decode cX8_evening 67 = .ok (.getfield 118, 3) := by decide +kernel
theorem dX8_evening_70 : decode cX8_evening 70 = .ok (.getfield 129, 3) := by decide +kernel
theorem dX8_evening_73 : decode cX8_evening 73 = .ok (.invokevirtual 259, 3) := by decide +kernel
theorem dX8_evening_76 : decode cX8_evening 76 = .ok (.ior, 1) := by decide +kernel
theorem dX8_evening_77 : decode cX8_evening 77 = .ok (.istore 8, 2) := by decide +kernel
theorem dX8_evening_79 : decode cX8_evening 79 = .ok (.aload 4, 2) := by decide +kernel
theorem dX8_evening_81 : decode cX8_evening 81 = .ok (.iload 7, 2) := by decide +kernel
theorem dX8_evening_83 : decode cX8_evening 83 = .ok (.aload 4, 2) := by decide +kernel
theorem dX8_evening_85 : decode cX8_evening 85 = .ok (.iload 7, 2) := by decide +kernel
theorem dX8_evening_87 : decode cX8_evening 87 = .ok (.invokevirtual 175, 3) := by decide +kernel
theorem dX8_evening_90 : decode cX8_evening 90 = .ok (.iload 5, 2) := by decide +kernel
theorem dX8_evening_92 : decode cX8_evening 92 = .ok (.iload 8, 2) := by decide +kernel
theorem dX8_evening_94 : decode cX8_evening 94 = .ok (.invokevirtual 262, 3) := by decide +kernel
theorem dX8_evening_97 : decode cX8_evening 97 = .ok (.istore 5, 2) := by decide +kernel
theorem dX8_evening_99 : decode cX8_evening 99 = .ok (.iload 5, 2) := by decide +kernel
theorem dX8_evening_101 : decode cX8_evening 101 = .ok (.aload 4, 2) := by decide +kernel
theorem dX8_evening_103 : decode cX8_evening 103 = .ok (.getfield 109, 3) := by decide +kernel
theorem dX8_evening_106 : decode cX8_evening 106 = .ok (.iload 7, 2) := by decide +kernel
theorem dX8_evening_108 : decode cX8_evening 108 = .ok (.invokevirtual 181, 3) := by decide +kernel
theorem dX8_evening_111 : decode cX8_evening 111 = .ok (.if_icmp .eq 6, 3) := by decide +kernel
theorem dX8_evening_114 : decode cX8_evening 114 = .ok (.iinc 6 1, 3) := by decide +kernel
theorem dX8_evening_117 : decode cX8_evening 117 = .ok (.iinc 7 1, 3) := by decide +kernel
theorem dX8_evening_120 : decode cX8_evening 120 = .ok (.goto (-72), 3) := by decide +kernel
theorem dX8_evening_123 : decode cX8_evening 123 = .ok (.iload_n 3, 1) := by decide +kernel
theorem dX8_evening_124 : decode cX8_evening 124 = .ok (.ifCond .ne 8, 3) := by decide +kernel
theorem dX8_evening_127 : decode cX8_evening 127 = .ok (.iload 5, 2) := by decide +kernel
theorem dX8_evening_129 : decode cX8_evening 129 = .ok (.goto 5, 3) := by decide +kernel
theorem dX8_evening_132 : decode cX8_evening 132 = .ok (.iload 6, 2) := by decide +kernel
theorem dX8_evening_134 : decode cX8_evening 134 = .ok (.ireturn, 1) := by decide +kernel
theorem dX8_sheet_0 : decode cX8_sheet 0 = .ok (.iload_n 1, 1) := by decide +kernel
theorem dX8_sheet_1 : decode cX8_sheet 1 = .ok (.iconst 4, 1) := by decide +kernel
theorem dX8_sheet_2 : decode cX8_sheet 2 = .ok (.invokestatic 80, 3) := by decide +kernel
theorem dX8_sheet_5 : decode cX8_sheet 5 = .ok (.ifCond .eq 17, 3) := by decide +kernel
theorem dX8_sheet_8 : decode cX8_sheet 8 = .ok (.iload_n 2, 1) := by decide +kernel
theorem dX8_sheet_9 : decode cX8_sheet 9 = .ok (.iconst 3, 1) := by decide +kernel
theorem dX8_sheet_10 : decode cX8_sheet 10 = .ok (.invokestatic 80, 3) := by decide +kernel
theorem dX8_sheet_13 : decode cX8_sheet 13 = .ok (.ifCond .eq 9, 3) := by decide +kernel
theorem dX8_sheet_16 : decode cX8_sheet 16 = .ok (.iload_n 3, 1) := by decide +kernel
theorem dX8_sheet_17 : decode cX8_sheet 17 = .ok (.bipush 60, 2) := by decide +kernel
theorem dX8_sheet_19 : decode cX8_sheet 19 = .ok (.if_icmp .le 6, 3) := by decide +kernel
theorem dX8_sheet_22 : decode cX8_sheet 22 = .ok (.bipush (-2), 2) := by decide +kernel
theorem dX8_sheet_24 : decode cX8_sheet 24 = .ok (.ireturn, 1) := by decide +kernel
theorem dX8_sheet_25 : decode cX8_sheet 25 = .ok (.iload_n 3, 1) := by decide +kernel
theorem dX8_sheet_26 : decode cX8_sheet 26 = .ok (.ifCond .ge 9, 3) := by decide +kernel
theorem dX8_sheet_29 : decode cX8_sheet 29 = .ok (.aload_n 0, 1) := by decide +kernel
theorem dX8_sheet_30 : decode cX8_sheet 30 = .ok (.iconst 5, 1) := by decide +kernel
theorem dX8_sheet_31 : decode cX8_sheet 31 = .ok (.invokevirtual 159, 3) := by decide +kernel
theorem dX8_sheet_34 : decode cX8_sheet 34 = .ok (.ireturn, 1) := by decide +kernel
theorem dX8_sheet_35 : decode cX8_sheet 35 = .ok (.aload_n 0, 1) := by decide +kernel
theorem dX8_sheet_36 : decode cX8_sheet 36 = .ok (.getfield 72, 3) := by decide +kernel
theorem dX8_sheet_39 : decode cX8_sheet 39 = .ok (.iload_n 1, 1) := by decide +kernel
theorem dX8_sheet_40 : decode cX8_sheet 40 = .ok (.iload_n 2, 1) := by decide +kernel
theorem dX8_sheet_41 : decode cX8_sheet 41 = .ok (.iload_n 3, 1) := by decide +kernel
theorem dX8_sheet_42 : decode cX8_sheet 42 = .ok (.invokevirtual 266, 3) := by decide +kernel
theorem dX8_sheet_45 : decode cX8_sheet 45 = .ok (.iload_n 3, 1) := by decide +kernel
theorem dX8_sheet_46 : decode cX8_sheet 46 = .ok (.ireturn, 1) := by decide +kernel
theorem dX8_lose_0 : decode cX8_lose 0 = .ok (.iload_n 1, 1) := by decide +kernel
theorem dX8_lose_1 : decode cX8_lose 1 = .ok (.iconst 4, 1) := by decide +kernel
theorem dX8_lose_2 : decode cX8_lose 2 = .ok (.invokestatic 80, 3) := by decide +kernel
theorem dX8_lose_5 : decode cX8_lose 5 = .ok (.ifCond .ne 6, 3) := by decide +kernel
theorem dX8_lose_8 : decode cX8_lose 8 = .ok (.bipush (-2), 2) := by decide +kernel
theorem dX8_lose_10 : decode cX8_lose 10 = .ok (.ireturn, 1) := by decide +kernel
theorem dX8_lose_11 : decode cX8_lose 11 = .ok (.aload_n 0, 1) := by decide +kernel
theorem dX8_lose_12 : decode cX8_lose 12 = .ok (.getfield 72, 3) := by decide +kernel
theorem dX8_lose_15 : decode cX8_lose 15 = .ok (.iload_n 1, 1) := by decide +kernel
theorem dX8_lose_16 : decode cX8_lose 16 = .ok (.invokevirtual 155, 3) := by decide +kernel
theorem dX8_lose_19 : decode cX8_lose 19 = .ok (.ifCond .eq 9, 3) := by decide +kernel
theorem dX8_lose_22 : decode cX8_lose 22 = .ok (.aload_n 0, 1) := by decide +kernel
theorem dX8_lose_23 : decode cX8_lose 23 = .ok (.iconst 1, 1) := by decide +kernel
theorem dX8_lose_24 : decode cX8_lose 24 = .ok (.invokevirtual 159, 3) := by decide +kernel
theorem dX8_lose_27 : decode cX8_lose 27 = .ok (.ireturn, 1) := by decide +kernel
theorem dX8_lose_28 : decode cX8_lose 28 = .ok (.aload_n 0, 1) := by decide +kernel
theorem dX8_lose_29 : decode cX8_lose 29 = .ok (.getfield 72, 3) := by decide +kernel
theorem dX8_lose_32 : decode cX8_lose 32 = .ok (.iload_n 1, 1) := by decide +kernel
theorem dX8_lose_33 : decode cX8_lose 33 = .ok (.invokevirtual 162, 3) := by decide +kernel
theorem dX8_lose_36 : decode cX8_lose 36 = .ok (.istore_n 2, 1) := by decide +kernel
theorem dX8_lose_37 : decode cX8_lose 37 = .ok (.aload_n 0, 1) := by decide +kernel
theorem dX8_lose_38 : decode cX8_lose 38 = .ok (.getfield 72, 3) := by decide +kernel
theorem dX8_lose_41 : decode cX8_lose 41 = .ok (.iload_n 1, 1) := by decide +kernel
theorem dX8_lose_42 : decode cX8_lose 42 = .ok (.invokevirtual 270, 3) := by decide +kernel
theorem dX8_lose_45 : decode cX8_lose 45 = .ok (.iload_n 2, 1) := by decide +kernel
theorem dX8_lose_46 : decode cX8_lose 46 = .ok (.ireturn, 1) := by decide +kernel
theorem dX8_lay_0 : decode cX8_lay 0 = .ok (.iload_n 1, 1) := by decide +kernel
theorem dX8_lay_1 : decode cX8_lay 1 = .ok (.iconst 4, 1) := by decide +kernel
theorem dX8_lay_2 : decode cX8_lay 2 = .ok (.invokestatic 80, 3) := by decide +kernel
theorem dX8_lay_5 : decode cX8_lay 5 = .ok (.ifCond .eq 11, 3) := by decide +kernel
theorem dX8_lay_8 : decode cX8_lay 8 = .ok (.iload_n 2, 1) := by decide +kernel
theorem dX8_lay_9 : decode cX8_lay 9 = .ok (.iconst 3, 1) := by decide +kernel
theorem dX8_lay_10 : decode cX8_lay 10 = .ok (.invokestatic 80, 3) := by decide +kernel
theorem dX8_lay_13 : decode cX8_lay 13 = .ok (.ifCond .ne 6, 3) := by decide +kernel
theorem dX8_lay_16 : decode cX8_lay 16 = .ok (.bipush (-2), 2) := by decide +kernel
theorem dX8_lay_18 : decode cX8_lay 18 = .ok (.ireturn, 1) := by decide +kernel
theorem dX8_lay_19 : decode cX8_lay 19 = .ok (.aload_n 0, 1) := by decide +kernel
theorem dX8_lay_20 : decode cX8_lay 20 = .ok (.getfield 72, 3) := by decide +kernel
theorem dX8_lay_23 : decode cX8_lay 23 = .ok (.iload_n 1, 1) := by decide +kernel
theorem dX8_lay_24 : decode cX8_lay 24 = .ok (.iload_n 2, 1) := by decide +kernel
theorem dX8_lay_25 : decode cX8_lay 25 = .ok (.iload_n 3, 1) := by decide +kernel
theorem dX8_lay_26 : decode cX8_lay 26 = .ok (.invokevirtual 273, 3) := by decide +kernel
theorem dX8_lay_29 : decode cX8_lay 29 = .ok (.istore 5, 2) := by decide +kernel
theorem dX8_lay_31 : decode cX8_lay 31 = .ok (.iload 5, 2) := by decide +kernel
theorem dX8_lay_33 : decode cX8_lay 33 = .ok (.ifCond .eq 10, 3) := by decide +kernel
theorem dX8_lay_36 : decode cX8_lay 36 = .ok (.aload_n 0, 1) := by decide +kernel
theorem dX8_lay_37 : decode cX8_lay 37 = .ok (.iload 5, 2) := by decide +kernel
theorem dX8_lay_39 : decode cX8_lay 39 = .ok (.invokevirtual 159, 3) := by decide +kernel
theorem dX8_lay_42 : decode cX8_lay 42 = .ok (.ireturn, 1) := by decide +kernel
theorem dX8_lay_43 : decode cX8_lay 43 = .ok (.aload_n 0, 1) := by decide +kernel
theorem dX8_lay_44 : decode cX8_lay 44 = .ok (.getfield 72, 3) := by decide +kernel
theorem dX8_lay_47 : decode cX8_lay 47 = .ok (.iload_n 1, 1) := by decide +kernel
theorem dX8_lay_48 : decode cX8_lay 48 = .ok (.iload_n 3, 1) := by decide +kernel
theorem dX8_lay_49 : decode cX8_lay 49 = .ok (.iload 4, 2) := by decide +kernel
theorem dX8_lay_51 : decode cX8_lay 51 = .ok (.invokevirtual 276, 3) := by decide +kernel
theorem dX8_lay_54 : decode cX8_lay 54 = .ok (.iconst 1, 1) := by decide +kernel
theorem dX8_lay_55 : decode cX8_lay 55 = .ok (.ireturn, 1) := by decide +kernel
theorem dX8_get_0 : decode cX8_get 0 = .ok (.iload_n 1, 1) := by decide +kernel
theorem dX8_get_1 : decode cX8_get 1 = .ok (.iconst 4, 1) := by decide +kernel
theorem dX8_get_2 : decode cX8_get 2 = .ok (.invokestatic 80, 3) := by decide +kernel
theorem dX8_get_5 : decode cX8_get 5 = .ok (.ifCond .eq 11, 3) := by decide +kernel
theorem dX8_get_8 : decode cX8_get 8 = .ok (.iload_n 2, 1) := by decide +kernel
theorem dX8_get_9 : decode cX8_get 9 = .ok (.iconst 3, 1) := by decide +kernel
theorem dX8_get_10 : decode cX8_get 10 = .ok (.invokestatic 80, 3) := by decide +kernel
theorem dX8_get_13 : decode cX8_get 13 = .ok (.ifCond .ne 7, 3) := by decide +kernel
theorem dX8_get_16 : decode cX8_get 16 = .ok (.ldc_w 279, 3) := by decide +kernel
theorem dX8_get_19 : decode cX8_get 19 = .ok (.ireturn, 1) := by decide +kernel
theorem dX8_get_20 : decode cX8_get 20 = .ok (.aload_n 0, 1) := by decide +kernel
theorem dX8_get_21 : decode cX8_get 21 = .ok (.getfield 72, 3) := by decide +kernel
theorem dX8_get_24 : decode cX8_get 24 = .ok (.iload_n 1, 1) := by decide +kernel
theorem dX8_get_25 : decode cX8_get 25 = .ok (.iload_n 2, 1) := by decide +kernel
theorem dX8_get_26 : decode cX8_get 26 = .ok (.iload_n 3, 1) := by decide +kernel
theorem dX8_get_27 : decode cX8_get 27 = .ok (.invokevirtual 273, 3) := by decide +kernel
theorem dX8_get_30 : decode cX8_get 30 = .ok (.istore 4, 2) := by decide +kernel
theorem dX8_get_32 : decode cX8_get 32 = .ok (.iload 4, 2) := by decide +kernel
theorem dX8_get_34 : decode cX8_get 34 = .ok (.ifCond .eq 13, 3) := by decide +kernel
theorem dX8_get_37 : decode cX8_get 37 = .ok (.aload_n 0, 1) := by decide +kernel
theorem dX8_get_38 : decode cX8_get 38 = .ok (.iload 4, 2) := by decide +kernel
theorem dX8_get_40 : decode cX8_get 40 = .ok (.putfield 76, 3) := by decide +kernel
theorem dX8_get_43 : decode cX8_get 43 = .ok (.ldc_w 279, 3) := by decide +kernel
theorem dX8_get_46 : decode cX8_get 46 = .ok (.ireturn, 1) := by decide +kernel
theorem dX8_get_47 : decode cX8_get 47 = .ok (.aload_n 0, 1) := by decide +kernel
theorem dX8_get_48 : decode cX8_get 48 = .ok (.getfield 72, 3) := by decide +kernel
theorem dX8_get_51 : decode cX8_get 51 = .ok (.iload_n 1, 1) := by decide +kernel
theorem dX8_get_52 : decode cX8_get 52 = .ok (.iload_n 3, 1) := by decide +kernel
theorem dX8_get_53 : decode cX8_get 53 = .ok (.invokevirtual 165, 3) := by decide +kernel
theorem dX8_get_56 : decode cX8_get 56 = .ok (.ireturn, 1) := by decide +kernel
theorem dX8_copy_0 : decode cX8_copy 0 = .ok (.iload_n 1, 1) := by decide +kernel
theorem dX8_copy_1 : decode cX8_copy 1 = .ok (.iconst 4, 1) := by decide +kernel
theorem dX8_copy_2 : decode cX8_copy 2 = .ok (.invokestatic 80, 3) := by decide +kernel
theorem dX8_copy_5 : decode cX8_copy 5 = .ok (.ifCond .eq 11, 3) := by decide +kernel
theorem dX8_copy_8 : decode cX8_copy 8 = .ok (.iload_n 3, 1) := by decide +kernel
theorem dX8_copy_9 : decode cX8_copy 9 = .ok (.iconst 4, 1) := by decide +kernel
theorem dX8_copy_10 : decode cX8_copy 10 = .ok (.invokestatic 80, 3) := by decide +kernel
theorem dX8_copy_13 : decode cX8_copy 13 = .ok (.ifCond .ne 6, 3) := by decide +kernel
theorem dX8_copy_16 : decode cX8_copy 16 = .ok (.bipush (-2), 2) := by decide +kernel
theorem dX8_copy_18 : decode cX8_copy 18 = .ok (.ireturn, 1) := by decide +kernel
theorem dX8_copy_19 : decode cX8_copy 19 = .ok (.aload_n 0, 1) := by decide +kernel
theorem dX8_copy_20 : decode cX8_copy 20 = .ok (.getfield 72, 3) := by decide +kernel
theorem dX8_copy_23 : decode cX8_copy 23 = .ok (.iload_n 1, 1) := by decide +kernel
theorem dX8_copy_24 : decode cX8_copy 24 = .ok (.invokevirtual 155, 3) := by decide +kernel
theorem dX8_copy_27 : decode cX8_copy 27 = .ok (.ifCond .ne 14, 3) := by decide +kernel
theorem dX8_copy_30 : decode cX8_copy 30 = .ok (.aload_n 0, 1) := by decide +kernel
theorem dX8_copy_31 : decode cX8_copy 31 = .ok (.getfield 72, 3) := by decide +kernel
theorem dX8_copy_34 : decode cX8_copy 34 = .ok (.iload_n 3, 1) := by decide +kernel
theorem dX8_copy_35 : decode cX8_copy 35 = .ok (.invokevirtual 155, 3) := by decide +kernel
theorem dX8_copy_38 : decode cX8_copy 38 = .ok (.ifCond .eq 9, 3) := by decide +kernel
theorem dX8_copy_41 : decode cX8_copy 41 = .ok (.aload_n 0, 1) := by decide +kernel
theorem dX8_copy_42 : decode cX8_copy 42 = .ok (.iconst 1, 1) := by decide +kernel
theorem dX8_copy_43 : decode cX8_copy 43 = .ok (.invokevirtual 159, 3) := by decide +kernel
theorem dX8_copy_46 : decode cX8_copy 46 = .ok (.ireturn, 1) := by decide +kernel
theorem dX8_copy_47 : decode cX8_copy 47 = .ok (.aload_n 0, 1) := by decide +kernel
theorem dX8_copy_48 : decode cX8_copy 48 = .ok (.getfield 72, 3) := by decide +kernel
theorem dX8_copy_51 : decode cX8_copy 51 = .ok (.iload_n 1, 1) := by decide +kernel
theorem dX8_copy_52 : decode cX8_copy 52 = .ok (.invokevirtual 280, 3) := by decide +kernel
theorem dX8_copy_55 : decode cX8_copy 55 = .ok (.aload_n 0, 1) := by decide +kernel
theorem dX8_copy_56 : decode cX8_copy 56 = .ok (.getfield 72, 3) := by decide +kernel
theorem dX8_copy_59 : decode cX8_copy 59 = .ok (.iload_n 3, 1) := by decide +kernel
theorem dX8_copy_60 : decode cX8_copy 60 = .ok (.invokevirtual 280, 3) := by decide +kernel
theorem dX8_copy_63 : decode cX8_copy 63 = .ok (.if_icmp .eq 9, 3) := by decide +kernel
theorem dX8_copy_66 : decode cX8_copy 66 = .ok (.aload_n 0, 1) := by decide +kernel
theorem dX8_copy_67 : decode cX8_copy 67 = .ok (.iconst 4, 1) := by decide +kernel
theorem dX8_copy_68 : decode cX8_copy 68 = .ok (.invokevirtual 159, 3) := by decide +kernel
theorem dX8_copy_71 : decode cX8_copy 71 = .ok (.ireturn, 1) := by decide +kernel
theorem dX8_copy_72 : decode cX8_copy 72 = .ok (.aload_n 0, 1) := by decide +kernel
theorem dX8_copy_73 : decode cX8_copy 73 = .ok (.getfield 72, 3) := by decide +kernel
theorem dX8_copy_76 : decode cX8_copy 76 = .ok (.iload_n 1, 1) := by decide +kernel
theorem dX8_copy_77 : decode cX8_copy 77 = .ok (.iload_n 2, 1) := by decide +kernel
theorem dX8_copy_78 : decode cX8_copy 78 = .ok (.iload 5, 2) := by decide +kernel
theorem dX8_copy_80 : decode cX8_copy 80 = .ok (.invokevirtual 283, 3) := by decide +kernel
theorem dX8_copy_83 : decode cX8_copy 83 = .ok (.ifCond .eq 18, 3) := by decide +kernel
theorem dX8_copy_86 : decode cX8_copy 86 = .ok (.aload_n 0, 1) := by decide +kernel
theorem dX8_copy_87 : decode cX8_copy 87 = .ok (.getfield 72, 3) := by decide +kernel
theorem dX8_copy_90 : decode cX8_copy 90 = .ok (.iload_n 3, 1) := by decide +kernel
theorem dX8_copy_91 : decode cX8_copy 91 = .ok (.iload 4, 2) := by decide +kernel
theorem dX8_copy_93 : decode cX8_copy 93 = .ok (.iload 5, 2) := by decide +kernel
theorem dX8_copy_95 : decode cX8_copy 95 = .ok (.invokevirtual 283, 3) := by decide +kernel
theorem dX8_copy_98 : decode cX8_copy 98 = .ok (.ifCond .ne 9, 3) := by decide +kernel
theorem dX8_copy_101 : decode cX8_copy 101 = .ok (.aload_n 0, 1) := by decide +kernel
theorem dX8_copy_102 : decode cX8_copy 102 = .ok (.iconst 2, 1) := by decide +kernel
theorem dX8_copy_103 : decode cX8_copy 103 = .ok (.invokevirtual 159, 3) := by decide +kernel
theorem dX8_copy_106 : decode cX8_copy 106 = .ok (.ireturn, 1) := by decide +kernel
theorem dX8_copy_107 : decode cX8_copy 107 = .ok (.aload_n 0, 1) := by decide +kernel
theorem dX8_copy_108 : decode cX8_copy 108 = .ok (.getfield 72, 3) := by decide +kernel
theorem dX8_copy_111 : decode cX8_copy 111 = .ok (.iload_n 1, 1) := by decide +kernel
theorem dX8_copy_112 : decode cX8_copy 112 = .ok (.iload_n 2, 1) := by decide +kernel
theorem dX8_copy_113 : decode cX8_copy 113 = .ok (.iload_n 3, 1) := by decide +kernel
theorem dX8_copy_114 : decode cX8_copy 114 = .ok (.iload 4, 2) := by decide +kernel
theorem dX8_copy_116 : decode cX8_copy 116 = .ok (.iload 5, 2) := by decide +kernel
theorem dX8_copy_118 : decode cX8_copy 118 = .ok (.invokevirtual 286, 3) := by decide +kernel
theorem dX8_copy_121 : decode cX8_copy 121 = .ok (.iconst 1, 1) := by decide +kernel
theorem dX8_copy_122 : decode cX8_copy 122 = .ok (.ireturn, 1) := by decide +kernel
theorem dX8_write_0 : decode cX8_write 0 = .ok (.iload_n 1, 1) := by decide +kernel
theorem dX8_write_1 : decode cX8_write 1 = .ok (.iconst 2, 1) := by decide +kernel
theorem dX8_write_2 : decode cX8_write 2 = .ok (.invokestatic 80, 3) := by decide +kernel
theorem dX8_write_5 : decode cX8_write 5 = .ok (.ifCond .eq 11, 3) := by decide +kernel
theorem dX8_write_8 : decode cX8_write 8 = .ok (.iload_n 2, 1) := by decide +kernel
theorem dX8_write_9 : decode cX8_write 9 = .ok (.iconst 4, 1) := by decide +kernel
theorem dX8_write_10 : decode cX8_write 10 = .ok (.invokestatic 80, 3) := by decide +kernel
theorem dX8_write_13 : decode cX8_write 13 = .ok (.ifCond .ne 6, 3) := by decide +kernel
theorem dX8_write_16 : decode cX8_write 16 = .ok (.bipush (-2), 2) := by decide +kernel
theorem dX8_write_18 : decode cX8_write 18 = .ok (.ireturn, 1) := by decide +kernel
theorem dX8_write_19 : decode cX8_write 19 = .ok (.aload_n 0, 1) := by decide +kernel
theorem dX8_write_20 : decode cX8_write 20 = .ok (.getfield 72, 3) := by decide +kernel
theorem dX8_write_23 : decode cX8_write 23 = .ok (.iload_n 2, 1) := by decide +kernel
theorem dX8_write_24 : decode cX8_write 24 = .ok (.invokevirtual 155, 3) := by decide +kernel
theorem dX8_write_27 : decode cX8_write 27 = .ok (.ifCond .eq 9, 3) := by decide +kernel
theorem dX8_write_30 : decode cX8_write 30 = .ok (.aload_n 0, 1) := by decide +kernel
theorem dX8_write_31 : decode cX8_write 31 = .ok (.iconst 1, 1) := by decide +kernel
theorem dX8_write_32 : decode cX8_write 32 = .ok (.invokevirtual 159, 3) := by decide +kernel
theorem dX8_write_35 : decode cX8_write 35 = .ok (.ireturn, 1) := by decide +kernel
theorem dX8_write_36 : decode cX8_write 36 = .ok (.aload_n 0, 1) := by decide +kernel
theorem dX8_write_37 : decode cX8_write 37 = .ok (.invokevirtual 105, 3) := by decide +kernel
theorem dX8_write_40 : decode cX8_write 40 = .ok (.astore_n 3, 1) := by decide +kernel
theorem dX8_write_41 : decode cX8_write 41 = .ok (.aload_n 0, 1) := by decide +kernel
theorem dX8_write_42 : decode cX8_write 42 = .ok (.getfield 72, 3) := by decide +kernel
theorem dX8_write_45 : decode cX8_write 45 = .ok (.iload_n 2, 1) := by decide +kernel
theorem dX8_write_46 : decode cX8_write 46 = .ok (.invokevirtual 162, 3) := by decide +kernel
theorem dX8_write_49 : decode cX8_write 49 = .ok (.bipush 40, 2) := by decide +kernel
theorem dX8_write_51 : decode cX8_write 51 = .ok (.invokestatic 290, 3) := by decide +kernel
theorem dX8_write_54 : decode cX8_write 54 = .ok (.istore 4, 2) := by decide +kernel
theorem dX8_write_56 : decode cX8_write 56 = .ok (.iconst 0, 1) := by decide +kernel
theorem dX8_write_57 : decode cX8_write 57 = .ok (.istore 5, 2) := by decide +kernel
theorem dX8_write_59 : decode cX8_write 59 = .ok (.iload 5, 2) := by decide +kernel
theorem dX8_write_61 : decode cX8_write 61 = .ok (.iload 4, 2) := by decide +kernel
theorem dX8_write_63 : decode cX8_write 63 = .ok (.if_icmp .ge 38, 3) := by decide +kernel
theorem dX8_write_66 : decode cX8_write 66 = .ok (.aload_n 0, 1) := by decide +kernel
theorem dX8_write_67 : decode cX8_write 67 = .ok (.getfield 72, 3) := by decide +kernel
theorem dX8_write_70 : decode cX8_write 70 = .ok (.iload_n 2, 1) := by decide +kernel
theorem dX8_write_71 : decode cX8_write 71 = .ok (.iload 5, 2) := by decide +kernel
theorem dX8_write_73 : decode cX8_write 73 = .ok (.iload_n 1, 1) := by decide +kernel
theorem dX8_write_74 : decode cX8_write 74 = .ok (.ifCond .ne 12, 3) := by decide +kernel
theorem dX8_write_77 : decode cX8_write 77 = .ok (.aload_n 3, 1) := by decide +kernel
theorem dX8_write_78 : decode cX8_write 78 = .ok (.iload 5, 2) := by decide +kernel
theorem dX8_write_80 : decode cX8_write 80 = .ok (.invokevirtual 172, 3) := by decide +kernel
theorem dX8_write_83 : decode cX8_write 83 = .ok (.goto 9, 3) := by decide +kernel
theorem dX8_write_86 : decode cX8_write 86 = .ok (.aload_n 3, 1) := by decide +kernel
theorem dX8_write_87 : decode cX8_write 87 = .ok (.iload 5, 2) := by decide +kernel
theorem dX8_write_89 : decode cX8_write 89 = .ok (.invokevirtual 175, 3) := by decide +kernel
theorem dX8_write_92 : decode cX8_write 92 = .ok (.invokevirtual 276, 3) := by decide +kernel
theorem dX8_write_95 : decode cX8_write 95 = .ok (.iinc 5 1, 3) := by decide +kernel
theorem dX8_write_98 : decode cX8_write 98 = .ok (.goto (-39), 3) := by decide +kernel
theorem dX8_write_101 : decode cX8_write 101 = .ok (.iload 4, 2) := by decide +kernel
theorem dX8_write_103 : decode cX8_write 103 = .ok (.ireturn, 1) := by decide +kernel
theorem dX8_count_0 : decode cX8_count 0 = .ok (.iload_n 1, 1) := by decide +kernel
theorem dX8_count_1 : decode cX8_count 1 = .ok (.tableswitch 126 0 8 #[51, 62, 73, 81, 89, 97, 105, 113, 121], 51) := by decide +kernel
theorem dX8_count_52 : decode cX8_count 52 = .ok (.aload_n 0, 1) := by decide +kernel
theorem dX8_count_53 : decode cX8_count 53 = .ok (.invokevirtual 105, 3) := by decide +kernel
theorem dX8_count_56 : decode cX8_count 56 = .ok (.getfield 109, 3) := by decide +kernel
theorem dX8_count_59 : decode cX8_count 59 = .ok (.getfield 293, 3) := by decide +kernel
theorem dX8_count_62 : decode cX8_count 62 = .ok (.ireturn, 1) := by decide +kernel
theorem dX8_count_63 : decode cX8_count 63 = .ok (.aload_n 0, 1) := by decide +kernel
theorem dX8_count_64 : decode cX8_count 64 = .ok (.invokevirtual 105, 3) := by decide +kernel
theorem dX8_count_67 : decode cX8_count 67 = .ok (.getfield 118, 3) := by decide +kernel
theorem dX8_count_70 : decode cX8_count 70 = .ok (.getfield 129, 3) := by decide +kernel
theorem dX8_count_73 : decode cX8_count 73 = .ok (.ireturn, 1) := by decide +kernel
theorem dX8_count_74 : decode cX8_count 74 = .ok (.aload_n 0, 1) := by decide +kernel
theorem dX8_count_75 : decode cX8_count 75 = .ok (.getfield 14, 3) := by decide +kernel
theorem dX8_count_78 : decode cX8_count 78 = .ok (.invokevirtual 95, 3) := by decide +kernel
theorem dX8_count_81 : decode cX8_count 81 = .ok (.ireturn, 1) := by decide +kernel
theorem dX8_count_82 : decode cX8_count 82 = .ok (.aload_n 0, 1) := by decide +kernel
theorem dX8_count_83 : decode cX8_count 83 = .ok (.getfield 18, 3) := by decide +kernel
theorem dX8_count_86 : decode cX8_count 86 = .ok (.invokevirtual 95, 3) := by decide +kernel
theorem dX8_count_89 : decode cX8_count 89 = .ok (.ireturn, 1) := by decide +kernel
theorem dX8_count_90 : decode cX8_count 90 = .ok (.aload_n 0, 1) := by decide +kernel
theorem dX8_count_91 : decode cX8_count 91 = .ok (.getfield 24, 3) := by decide +kernel
theorem dX8_count_94 : decode cX8_count 94 = .ok (.invokevirtual 153, 3) := by decide +kernel
theorem dX8_count_97 : decode cX8_count 97 = .ok (.ireturn, 1) := by decide +kernel
theorem dX8_count_98 : decode cX8_count 98 = .ok (.aload_n 0, 1) := by decide +kernel
theorem dX8_count_99 : decode cX8_count 99 = .ok (.getfield 28, 3) := by decide +kernel
theorem dX8_count_102 : decode cX8_count 102 = .ok (.invokevirtual 153, 3) := by decide +kernel
theorem dX8_count_105 : decode cX8_count 105 = .ok (.ireturn, 1) := by decide +kernel
theorem dX8_count_106 : decode cX8_count 106 = .ok (.aload_n 0, 1) := by decide +kernel
theorem dX8_count_107 : decode cX8_count 107 = .ok (.getfield 31, 3) := by decide +kernel
theorem dX8_count_110 : decode cX8_count 110 = .ok (.invokevirtual 153, 3) := by decide +kernel
theorem dX8_count_113 : decode cX8_count 113 = .ok (.ireturn, 1) := by decide +kernel
theorem dX8_count_114 : decode cX8_count 114 = .ok (.aload_n 0, 1) := by decide +kernel
theorem dX8_count_115 : decode cX8_count 115 = .ok (.getfield 34, 3) := by decide +kernel
theorem dX8_count_118 : decode cX8_count 118 = .ok (.invokevirtual 153, 3) := by decide +kernel
theorem dX8_count_121 : decode cX8_count 121 = .ok (.ireturn, 1) := by decide +kernel
theorem dX8_count_122 : decode cX8_count 122 = .ok (.aload_n 0, 1) := by decide +kernel
theorem dX8_count_123 : decode cX8_count 123 = .ok (.getfield 76, 3) := by decide +kernel
theorem dX8_count_126 : decode cX8_count 126 = .ok (.ireturn, 1) := by decide +kernel
theorem dX8_count_127 : decode cX8_count 127 = .ok (.bipush (-2), 2) := by decide +kernel
theorem dX8_count_129 : decode cX8_count 129 = .ok (.ireturn, 1) := by decide +kernel
theorem dX8_digest_0 : decode cX8_digest 0 = .ok (.ldc2_w 296, 3) := by decide +kernel
theorem dX8_digest_3 : decode cX8_digest 3 = .ok (.lstore_n 1, 1) := by decide +kernel
theorem dX8_digest_4 : decode cX8_digest 4 = .ok (.iconst 0, 1) := by decide +kernel
theorem dX8_digest_5 : decode cX8_digest 5 = .ok (.istore_n 3, 1) := by decide +kernel
theorem dX8_digest_6 : decode cX8_digest 6 = .ok (.iload_n 3, 1) := by decide +kernel
theorem dX8_digest_7 : decode cX8_digest 7 = .ok (.bipush 8, 2) := by decide +kernel
theorem dX8_digest_9 : decode cX8_digest 9 = .ok (.if_icmp .ge 22, 3) := by decide +kernel
theorem dX8_digest_12 : decode cX8_digest 12 = .ok (.ldc2_w 298, 3) := by decide +kernel
theorem dX8_digest_15 : decode cX8_digest 15 = .ok (.lload_n 1, 1) := by decide +kernel
theorem dX8_digest_16 : decode cX8_digest 16 = .ok (.lmul, 1) := by decide +kernel
theorem dX8_digest_17 : decode cX8_digest 17 = .ok (.aload_n 0, 1) := by decide +kernel
theorem dX8_digest_18 : decode cX8_digest 18 = .ok (.iload_n 3, 1) := by decide +kernel
theorem dX8_digest_19 : decode cX8_digest 19 = .ok (.invokevirtual 300, 3) := by decide +kernel
theorem dX8_digest_22 : decode cX8_digest 22 = .ok (.i2l, 1) := by decide +kernel
theorem dX8_digest_23 : decode cX8_digest 23 = .ok (.ladd, 1) := by decide +kernel
theorem dX8_digest_24 : decode cX8_digest 24 = .ok (.lstore_n 1, 1) := by decide +kernel
theorem dX8_digest_25 : decode cX8_digest 25 = .ok (.iinc 3 1, 3) := by decide +kernel
theorem dX8_digest_28 : decode cX8_digest 28 = .ok (.goto (-22), 3) := by decide +kernel
theorem dX8_digest_31 : decode cX8_digest 31 = .ok (.ldc2_w 298, 3) := by decide +kernel
theorem dX8_digest_34 : decode cX8_digest 34 = .ok (.lload_n 1, 1) := by decide +kernel
theorem dX8_digest_35 : decode cX8_digest 35 = .ok (.lmul, 1) := by decide +kernel
theorem dX8_digest_36 : decode cX8_digest 36 = .ok (.aload_n 0, 1) := by decide +kernel
theorem dX8_digest_37 : decode cX8_digest 37 = .ok (.iconst 0, 1) := by decide +kernel
theorem dX8_digest_38 : decode cX8_digest 38 = .ok (.invokevirtual 303, 3) := by decide +kernel
theorem dX8_digest_41 : decode cX8_digest 41 = .ok (.i2l, 1) := by decide +kernel
theorem dX8_digest_42 : decode cX8_digest 42 = .ok (.ladd, 1) := by decide +kernel
theorem dX8_digest_43 : decode cX8_digest 43 = .ok (.lstore_n 1, 1) := by decide +kernel
theorem dX8_digest_44 : decode cX8_digest 44 = .ok (.ldc2_w 298, 3) := by decide +kernel
theorem dX8_digest_47 : decode cX8_digest 47 = .ok (.lload_n 1, 1) := by decide +kernel
theorem dX8_digest_48 : decode cX8_digest 48 = .ok (.lmul, 1) := by decide +kernel
theorem dX8_digest_49 : decode cX8_digest 49 = .ok (.aload_n 0, 1) := by decide +kernel
theorem dX8_digest_50 : decode cX8_digest 50 = .ok (.iconst 1, 1) := by decide +kernel
theorem dX8_digest_51 : decode cX8_digest 51 = .ok (.invokevirtual 303, 3) := by decide +kernel
theorem dX8_digest_54 : decode cX8_digest 54 = .ok (.i2l, 1) := by decide +kernel
theorem dX8_digest_55 : decode cX8_digest 55 = .ok (.ladd, 1) := by decide +kernel
theorem dX8_digest_56 : decode cX8_digest 56 = .ok (.lstore_n 1, 1) := by decide +kernel
theorem dX8_digest_57 : decode cX8_digest 57 = .ok (.iconst 0, 1) := by decide +kernel
theorem dX8_digest_58 : decode cX8_digest 58 = .ok (.istore_n 3, 1) := by decide +kernel
theorem dX8_digest_59 : decode cX8_digest 59 = .ok (.iload_n 3, 1) := by decide +kernel
theorem dX8_digest_60 : decode cX8_digest 60 = .ok (.bipush 8, 2) := by decide +kernel
theorem dX8_digest_62 : decode cX8_digest 62 = .ok (.if_icmp .ge 16, 3) := by decide +kernel
theorem dX8_digest_65 : decode cX8_digest 65 = .ok (.aload_n 0, 1) := by decide +kernel
theorem dX8_digest_66 : decode cX8_digest 66 = .ok (.lload_n 1, 1) := by decide +kernel
theorem dX8_digest_67 : decode cX8_digest 67 = .ok (.iload_n 3, 1) := by decide +kernel
theorem dX8_digest_68 : decode cX8_digest 68 = .ok (.invokevirtual 305, 3) := by decide +kernel
theorem dX8_digest_71 : decode cX8_digest 71 = .ok (.lstore_n 1, 1) := by decide +kernel
theorem dX8_digest_72 : decode cX8_digest 72 = .ok (.iinc 3 1, 3) := by decide +kernel
theorem dX8_digest_75 : decode cX8_digest 75 = .ok (.goto (-16), 3) := by decide +kernel
theorem dX8_digest_78 : decode cX8_digest 78 = .ok (.aload_n 0, 1) := by decide +kernel
theorem dX8_digest_79 : decode cX8_digest 79 = .ok (.iconst 1, 1) := by decide +kernel
theorem dX8_digest_80 : decode cX8_digest 80 = .ok (.invokevirtual 300, 3) := by decide +kernel
theorem dX8_digest_83 : decode cX8_digest 83 = .ok (.istore_n 3, 1) := by decide +kernel
theorem dX8_digest_84 : decode cX8_digest 84 = .ok (.iconst 0, 1) := by decide +kernel
theorem dX8_digest_85 : decode cX8_digest 85 = .ok (.istore 4, 2) := by decide +kernel
theorem dX8_digest_87 : decode cX8_digest 87 = .ok (.iload 4, 2) := by decide +kernel
theorem dX8_digest_89 : decode cX8_digest 89 = .ok (.iload_n 3, 1) := by decide +kernel
theorem dX8_digest_90 : decode cX8_digest 90 = .ok (.if_icmp .ge 17, 3) := by decide +kernel
theorem dX8_digest_93 : decode cX8_digest 93 = .ok (.aload_n 0, 1) := by decide +kernel
theorem dX8_digest_94 : decode cX8_digest 94 = .ok (.lload_n 1, 1) := by decide +kernel
theorem dX8_digest_95 : decode cX8_digest 95 = .ok (.iload 4, 2) := by decide +kernel
theorem dX8_digest_97 : decode cX8_digest 97 = .ok (.invokevirtual 309, 3) := by decide +kernel
theorem dX8_digest_100 : decode cX8_digest 100 = .ok (.lstore_n 1, 1) := by decide +kernel
theorem dX8_digest_101 : decode cX8_digest 101 = .ok (.iinc 4 1, 3) := by decide +kernel
theorem dX8_digest_104 : decode cX8_digest 104 = .ok (.goto (-17), 3) := by decide +kernel
theorem dX8_digest_107 : decode cX8_digest 107 = .ok (.iconst 0, 1) := by decide +kernel
theorem dX8_digest_108 : decode cX8_digest 108 = .ok (.istore 4, 2) := by decide +kernel
theorem dX8_digest_110 : decode cX8_digest 110 = .ok (.iload 4, 2) := by decide +kernel
theorem dX8_digest_112 : decode cX8_digest 112 = .ok (.getstatic 312, 3) := by decide +kernel
theorem dX8_digest_115 : decode cX8_digest 115 = .ok (.arraylength, 1) := by decide +kernel
theorem dX8_digest_116 : decode cX8_digest 116 = .ok (.if_icmp .ge 21, 3) := by decide +kernel
theorem dX8_digest_119 : decode cX8_digest 119 = .ok (.aload_n 0, 1) := by decide +kernel
theorem dX8_digest_120 : decode cX8_digest 120 = .ok (.lload_n 1, 1) := by decide +kernel
theorem dX8_digest_121 : decode cX8_digest 121 = .ok (.getstatic 312, 3) := by decide +kernel
theorem dX8_digest_124 : decode cX8_digest 124 = .ok (.iload 4, 2) := by decide +kernel
theorem dX8_digest_126 : decode cX8_digest 126 = .ok (.iaload, 1) := by decide +kernel
theorem dX8_digest_127 : decode cX8_digest 127 = .ok (.invokevirtual 315, 3) := by decide +kernel
theorem dX8_digest_130 : decode cX8_digest 130 = .ok (.lstore_n 1, 1) := by decide +kernel
theorem dX8_digest_131 : decode cX8_digest 131 = .ok (.iinc 4 1, 3) := by decide +kernel
theorem dX8_digest_134 : decode cX8_digest 134 = .ok (.goto (-24), 3) := by decide +kernel
theorem dX8_digest_137 : decode cX8_digest 137 = .ok (.ldc2_w 298, 3) := by decide +kernel
theorem dX8_digest_140 : decode cX8_digest 140 = .ok (.lload_n 1, 1) := by decide +kernel
theorem dX8_digest_141 : decode cX8_digest 141 = .ok (.lmul, 1) := by decide +kernel
theorem dX8_digest_142 : decode cX8_digest 142 = .ok (.aload_n 0, 1) := by decide +kernel
theorem dX8_digest_143 : decode cX8_digest 143 = .ok (.iconst 0, 1) := by decide +kernel
theorem dX8_digest_144 : decode cX8_digest 144 = .ok (.invokevirtual 318, 3) := by decide +kernel
theorem dX8_digest_147 : decode cX8_digest 147 = .ok (.i2l, 1) := by decide +kernel
theorem dX8_digest_148 : decode cX8_digest 148 = .ok (.ladd, 1) := by decide +kernel
theorem dX8_digest_149 : decode cX8_digest 149 = .ok (.lstore_n 1, 1) := by decide +kernel
theorem dX8_digest_150 : decode cX8_digest 150 = .ok (.ldc2_w 298, 3) := by decide +kernel
theorem dX8_digest_153 : decode cX8_digest 153 = .ok (.lload_n 1, 1) := by decide +kernel
theorem dX8_digest_154 : decode cX8_digest 154 = .ok (.lmul, 1) := by decide +kernel
theorem dX8_digest_155 : decode cX8_digest 155 = .ok (.aload_n 0, 1) := by decide +kernel
theorem dX8_digest_156 : decode cX8_digest 156 = .ok (.iconst 1, 1) := by decide +kernel
theorem dX8_digest_157 : decode cX8_digest 157 = .ok (.invokevirtual 318, 3) := by decide +kernel
theorem dX8_digest_160 : decode cX8_digest 160 = .ok (.i2l, 1) := by decide +kernel
theorem dX8_digest_161 : decode cX8_digest 161 = .ok (.ladd, 1) := by decide +kernel
theorem dX8_digest_162 : decode cX8_digest 162 = .ok (.lstore_n 1, 1) := by decide +kernel
theorem dX8_digest_163 : decode cX8_digest 163 = .ok (.ldc2_w 298, 3) := by decide +kernel
theorem dX8_digest_166 : decode cX8_digest 166 = .ok (.lload_n 1, 1) := by decide +kernel
theorem dX8_digest_167 : decode cX8_digest 167 = .ok (.lmul, 1) := by decide +kernel
theorem dX8_digest_168 : decode cX8_digest 168 = .ok (.aload_n 0, 1) := by decide +kernel
theorem dX8_digest_169 : decode cX8_digest 169 = .ok (.invokevirtual 321, 3) := by decide +kernel
theorem dX8_digest_172 : decode cX8_digest 172 = .ok (.i2l, 1) := by decide +kernel
theorem dX8_digest_173 : decode cX8_digest 173 = .ok (.ladd, 1) := by decide +kernel
theorem dX8_digest_174 : decode cX8_digest 174 = .ok (.lstore_n 1, 1) := by decide +kernel
theorem dX8_digest_175 : decode cX8_digest 175 = .ok (.ldc2_w 298, 3) := by decide +kernel
theorem dX8_digest_178 : decode cX8_digest 178 = .ok (.lload_n 1, 1) := by decide +kernel
theorem dX8_digest_179 : decode cX8_digest 179 = .ok (.lmul, 1) := by decide +kernel
theorem dX8_digest_180 : decode cX8_digest 180 = .ok (.aload_n 0, 1) := by decide +kernel
theorem dX8_digest_181 : decode cX8_digest 181 = .ok (.invokevirtual 324, 3) := by decide +kernel
theorem dX8_digest_184 : decode cX8_digest 184 = .ok (.i2l, 1) := by decide +kernel
theorem dX8_digest_185 : decode cX8_digest 185 = .ok (.ladd, 1) := by decide +kernel
theorem dX8_digest_186 : decode cX8_digest 186 = .ok (.lreturn, 1) := by decide +kernel
theorem dX8_within_0 : decode cX8_within 0 = .ok (.iload_n 0, 1) := by decide +kernel
theorem dX8_within_1 : decode cX8_within 1 = .ok (.ifCond .lt 12, 3) := by decide +kernel
theorem dX8_within_4 : decode cX8_within 4 = .ok (.iload_n 0, 1) := by decide +kernel
theorem dX8_within_5 : decode cX8_within 5 = .ok (.iload_n 1, 1) := by decide +kernel
theorem dX8_within_6 : decode cX8_within 6 = .ok (.if_icmp .ge 7, 3) := by decide +kernel
theorem dX8_within_9 : decode cX8_within 9 = .ok (.iconst 1, 1) := by decide +kernel
theorem dX8_within_10 : decode cX8_within 10 = .ok (.goto 4, 3) := by decide +kernel
theorem dX8_within_13 : decode cX8_within 13 = .ok (.iconst 0, 1) := by decide +kernel
theorem dX8_within_14 : decode cX8_within 14 = .ok (.ireturn, 1) := by decide +kernel
theorem dX8_bitOf_0 : decode cX8_bitOf 0 = .ok (.iload_n 0, 1) := by decide +kernel
theorem dX8_bitOf_1 : decode cX8_bitOf 1 = .ok (.bipush 8, 2) := by decide +kernel
theorem dX8_bitOf_3 : decode cX8_bitOf 3 = .ok (.invokestatic 80, 3) := by decide +kernel
theorem dX8_bitOf_6 : decode cX8_bitOf 6 = .ok (.ifCond .eq 9, 3) := by decide +kernel
theorem dX8_bitOf_9 : decode cX8_bitOf 9 = .ok (.iconst 1, 1) := by decide +kernel
theorem dX8_bitOf_10 : decode cX8_bitOf 10 = .ok (.iload_n 0, 1) := by decide +kernel
theorem dX8_bitOf_11 : decode cX8_bitOf 11 = .ok (.ishl, 1) := by decide +kernel
theorem dX8_bitOf_12 : decode cX8_bitOf 12 = .ok (.goto 4, 3) := by decide +kernel
theorem dX8_bitOf_15 : decode cX8_bitOf 15 = .ok (.iconst 0, 1) := by decide +kernel
theorem dX8_bitOf_16 : decode cX8_bitOf 16 = .ok (.ireturn, 1) := by decide +kernel
theorem dX8_lowestBit_0 : decode cX8_lowestBit 0 = .ok (.iconst 0, 1) := by decide +kernel
theorem dX8_lowestBit_1 : decode cX8_lowestBit 1 = .ok (.istore_n 1, 1) := by decide +kernel
theorem dX8_lowestBit_2 : decode cX8_lowestBit 2 = .ok (.iload_n 1, 1) := by decide +kernel
theorem dX8_lowestBit_3 : decode cX8_lowestBit 3 = .ok (.bipush 8, 2) := by decide +kernel
theorem dX8_lowestBit_5 : decode cX8_lowestBit 5 = .ok (.if_icmp .ge 20, 3) := by decide +kernel
theorem dX8_lowestBit_8 : decode cX8_lowestBit 8 = .ok (.iload_n 0, 1) := by decide +kernel
theorem dX8_lowestBit_9 : decode cX8_lowestBit 9 = .ok (.iload_n 1, 1) := by decide +kernel
theorem dX8_lowestBit_10 : decode cX8_lowestBit 10 = .ok (.invokestatic 203, 3) := by decide +kernel
theorem dX8_lowestBit_13 : decode cX8_lowestBit 13 = .ok (.iand, 1) := by decide +kernel
theorem dX8_lowestBit_14 : decode cX8_lowestBit 14 = .ok (.ifCond .eq 5, 3) := by decide +kernel
theorem dX8_lowestBit_17 : decode cX8_lowestBit 17 = .ok (.iload_n 1, 1) := by decide +kernel
theorem dX8_lowestBit_18 : decode cX8_lowestBit 18 = .ok (.ireturn, 1) := by decide +kernel
theorem dX8_lowestBit_19 : decode cX8_lowestBit 19 = .ok (.iinc 1 1, 3) := by decide +kernel
theorem dX8_lowestBit_22 : decode cX8_lowestBit 22 = .ok (.goto (-20), 3) := by decide +kernel
theorem dX8_lowestBit_25 : decode cX8_lowestBit 25 = .ok (.iconst (-1), 1) := by decide +kernel
theorem dX8_lowestBit_26 : decode cX8_lowestBit 26 = .ok (.ireturn, 1) := by decide +kernel
theorem dX8_textOf_0 : decode cX8_textOf 0 = .ok (.iload_n 1, 1) := by decide +kernel
theorem dX8_textOf_1 : decode cX8_textOf 1 = .ok (.ifCond .ne 10, 3) := by decide +kernel
theorem dX8_textOf_4 : decode cX8_textOf 4 = .ok (.aload_n 0, 1) := by decide +kernel
theorem dX8_textOf_5 : decode cX8_textOf 5 = .ok (.getfield 14, 3) := by decide +kernel
theorem dX8_textOf_8 : decode cX8_textOf 8 = .ok (.goto 7, 3) := by decide +kernel
theorem dX8_textOf_11 : decode cX8_textOf 11 = .ok (.aload_n 0, 1) := by decide +kernel
theorem dX8_textOf_12 : decode cX8_textOf 12 = .ok (.getfield 18, 3) := by decide +kernel
theorem dX8_textOf_15 : decode cX8_textOf 15 = .ok (.areturn, 1) := by decide +kernel
theorem dX8_staged_0 : decode cX8_staged 0 = .ok (.aload_n 0, 1) := by decide +kernel
theorem dX8_staged_1 : decode cX8_staged 1 = .ok (.getfield 44, 3) := by decide +kernel
theorem dX8_staged_4 : decode cX8_staged 4 = .ok (.ifCond .eq 79, 3) := by decide +kernel
theorem dX8_staged_7 : decode cX8_staged 7 = .ok (.aload_n 0, 1) := by decide +kernel
theorem dX8_staged_8 : decode cX8_staged 8 = .ok (.getfield 40, 3) := by decide +kernel
theorem dX8_staged_11 : decode cX8_staged 11 = .ok (.getfield 109, 3) := by decide +kernel
theorem dX8_staged_14 : decode cX8_staged 14 = .ok (.aload_n 0, 1) := by decide +kernel
theorem dX8_staged_15 : decode cX8_staged 15 = .ok (.getfield 14, 3) := by decide +kernel
theorem dX8_staged_18 : decode cX8_staged 18 = .ok (.invokevirtual 327, 3) := by decide +kernel
theorem dX8_staged_21 : decode cX8_staged 21 = .ok (.aload_n 0, 1) := by decide +kernel
theorem dX8_staged_22 : decode cX8_staged 22 = .ok (.getfield 40, 3) := by decide +kernel
theorem dX8_staged_25 : decode cX8_staged 25 = .ok (.getfield 118, 3) := by decide +kernel
theorem dX8_staged_28 : decode cX8_staged 28 = .ok (.aload_n 0, 1) := by decide +kernel
theorem dX8_staged_29 : decode cX8_staged 29 = .ok (.getfield 18, 3) := by decide +kernel
theorem dX8_staged_32 : decode cX8_staged 32 = .ok (.invokevirtual 331, 3) := by decide +kernel
theorem dX8_staged_35 : decode cX8_staged 35 = .ok (.aload_n 0, 1) := by decide +kernel
theorem dX8_staged_36 : decode cX8_staged 36 = .ok (.getfield 40, 3) := by decide +kernel
theorem dX8_staged_39 : decode cX8_staged 39 = .ok (.getfield 118, 3) := by decide +kernel
theorem dX8_staged_42 : decode cX8_staged 42 = .ok (.aload_n 0, 1) := by decide +kernel
theorem dX8_staged_43 : decode cX8_staged 43 = .ok (.getfield 40, 3) := by decide +kernel
theorem dX8_staged_46 : decode cX8_staged 46 = .ok (.getfield 109, 3) := by decide +kernel
theorem dX8_staged_49 : decode cX8_staged 49 = .ok (.invokevirtual 332, 3) := by decide +kernel
theorem dX8_staged_52 : decode cX8_staged 52 = .ok (.aload_n 0, 1) := by decide +kernel
theorem dX8_staged_53 : decode cX8_staged 53 = .ok (.getfield 40, 3) := by decide +kernel
theorem dX8_staged_56 : decode cX8_staged 56 = .ok (.aload_n 0, 1) := by decide +kernel
theorem dX8_staged_57 : decode cX8_staged 57 = .ok (.getfield 24, 3) := by decide +kernel
theorem dX8_staged_60 : decode cX8_staged 60 = .ok (.aload_n 0, 1) := by decide +kernel
theorem dX8_staged_61 : decode cX8_staged 61 = .ok (.getfield 28, 3) := by decide +kernel
theorem dX8_staged_64 : decode cX8_staged 64 = .ok (.aload_n 0, 1) := by decide +kernel
theorem dX8_staged_65 : decode cX8_staged 65 = .ok (.getfield 31, 3) := by decide +kernel
theorem dX8_staged_68 : decode cX8_staged 68 = .ok (.invokevirtual 336, 3) := by decide +kernel
theorem dX8_staged_71 : decode cX8_staged 71 = .ok (.aload_n 0, 1) := by decide +kernel
theorem dX8_staged_72 : decode cX8_staged 72 = .ok (.getfield 40, 3) := by decide +kernel
theorem dX8_staged_75 : decode cX8_staged 75 = .ok (.invokevirtual 340, 3) := by decide +kernel
theorem dX8_staged_78 : decode cX8_staged 78 = .ok (.aload_n 0, 1) := by decide +kernel
theorem dX8_staged_79 : decode cX8_staged 79 = .ok (.iconst 0, 1) := by decide +kernel
theorem dX8_staged_80 : decode cX8_staged 80 = .ok (.putfield 44, 3) := by decide +kernel
theorem dX8_staged_83 : decode cX8_staged 83 = .ok (.aload_n 0, 1) := by decide +kernel
theorem dX8_staged_84 : decode cX8_staged 84 = .ok (.getfield 40, 3) := by decide +kernel
theorem dX8_staged_87 : decode cX8_staged 87 = .ok (.areturn, 1) := by decide +kernel
theorem dX8_tell_0 : decode cX8_tell 0 = .ok (.aload_n 0, 1) := by decide +kernel
theorem dX8_tell_1 : decode cX8_tell 1 = .ok (.invokevirtual 343, 3) := by decide +kernel
theorem dX8_tell_4 : decode cX8_tell 4 = .ok (.ifCond .eq 6, 3) := by decide +kernel
theorem dX8_tell_7 : decode cX8_tell 7 = .ok (.bipush (-4), 2) := by decide +kernel
theorem dX8_tell_9 : decode cX8_tell 9 = .ok (.ireturn, 1) := by decide +kernel
theorem dX8_tell_10 : decode cX8_tell 10 = .ok (.aload_n 0, 1) := by decide +kernel
theorem dX8_tell_11 : decode cX8_tell 11 = .ok (.iload_n 1, 1) := by decide +kernel
theorem dX8_tell_12 : decode cX8_tell 12 = .ok (.iload_n 2, 1) := by decide +kernel
theorem dX8_tell_13 : decode cX8_tell 13 = .ok (.invokevirtual 344, 3) := by decide +kernel
theorem dX8_tell_16 : decode cX8_tell 16 = .ok (.aload_n 0, 1) := by decide +kernel
theorem dX8_tell_17 : decode cX8_tell 17 = .ok (.invokevirtual 153, 3) := by decide +kernel
theorem dX8_tell_20 : decode cX8_tell 20 = .ok (.ireturn, 1) := by decide +kernel
theorem dX8_found_0 : decode cX8_found 0 = .ok (.aload_n 0, 1) := by decide +kernel
theorem dX8_found_1 : decode cX8_found 1 = .ok (.iload_n 1, 1) := by decide +kernel
theorem dX8_found_2 : decode cX8_found 2 = .ok (.putfield 76, 3) := by decide +kernel
theorem dX8_found_5 : decode cX8_found 5 = .ok (.bipush (-10), 2) := by decide +kernel
theorem dX8_found_7 : decode cX8_found 7 = .ok (.iload_n 1, 1) := by decide +kernel
theorem dX8_found_8 : decode cX8_found 8 = .ok (.isub, 1) := by decide +kernel
theorem dX8_found_9 : decode cX8_found 9 = .ok (.ireturn, 1) := by decide +kernel
theorem dX8_goesRound_0 : decode cX8_goesRound 0 = .ok (.bipush 16, 2) := by decide +kernel
theorem dX8_goesRound_2 : decode cX8_goesRound 2 = .ok (.istore_n 2, 1) := by decide +kernel
theorem dX8_goesRound_3 : decode cX8_goesRound 3 = .ok (.iload_n 2, 1) := by decide +kernel
theorem dX8_goesRound_4 : decode cX8_goesRound 4 = .ok (.iload_n 1, 1) := by decide +kernel
theorem dX8_goesRound_5 : decode cX8_goesRound 5 = .ok (.iadd, 1) := by decide +kernel
theorem dX8_goesRound_6 : decode cX8_goesRound 6 = .ok (.bipush 40, 2) := by decide +kernel
theorem dX8_goesRound_8 : decode cX8_goesRound 8 = .ok (.if_icmp .ge 26, 3) := by decide +kernel
theorem dX8_goesRound_11 : decode cX8_goesRound 11 = .ok (.aload_n 0, 1) := by decide +kernel
theorem dX8_goesRound_12 : decode cX8_goesRound 12 = .ok (.iload_n 2, 1) := by decide +kernel
theorem dX8_goesRound_13 : decode cX8_goesRound 13 = .ok (.invokevirtual 172, 3) := by decide +kernel
theorem dX8_goesRound_16 : decode cX8_goesRound 16 = .ok (.aload_n 0, 1) := by decide +kernel
theorem dX8_goesRound_17 : decode cX8_goesRound 17 = .ok (.iload_n 2, 1) := by decide +kernel
theorem dX8_goesRound_18 : decode cX8_goesRound 18 = .ok (.iload_n 1, 1) := by decide +kernel
theorem dX8_goesRound_19 : decode cX8_goesRound 19 = .ok (.iadd, 1) := by decide +kernel
theorem dX8_goesRound_20 : decode cX8_goesRound 20 = .ok (.invokevirtual 172, 3) := by decide +kernel
theorem dX8_goesRound_23 : decode cX8_goesRound 23 = .ok (.if_icmp .eq 5, 3) := by decide +kernel
theorem dX8_goesRound_26 : decode cX8_goesRound 26 = .ok (.iconst 0, 1) := by decide +kernel
theorem dX8_goesRound_27 : decode cX8_goesRound 27 = .ok (.ireturn, 1) := by decide +kernel
theorem dX8_goesRound_28 : decode cX8_goesRound 28 = .ok (.iinc 2 1, 3) := by decide +kernel
theorem dX8_goesRound_31 : decode cX8_goesRound 31 = .ok (.goto (-28), 3) := by decide +kernel
theorem dX8_goesRound_34 : decode cX8_goesRound 34 = .ok (.iconst 1, 1) := by decide +kernel
theorem dX8_goesRound_35 : decode cX8_goesRound 35 = .ok (.ireturn, 1) := by decide +kernel
theorem dX8_allSeenIn_0 : decode cX8_allSeenIn 0 = .ok (.iconst 0, 1) := by decide +kernel
theorem dX8_allSeenIn_1 : decode cX8_allSeenIn 1 = .ok (.istore_n 2, 1) := by decide +kernel
theorem dX8_allSeenIn_2 : decode cX8_allSeenIn 2 = .ok (.iload_n 2, 1) := by decide +kernel
theorem dX8_allSeenIn_3 : decode cX8_allSeenIn 3 = .ok (.aload_n 0, 1) := by decide +kernel
theorem dX8_allSeenIn_4 : decode cX8_allSeenIn 4 = .ok (.getfield 34, 3) := by decide +kernel
theorem dX8_allSeenIn_7 : decode cX8_allSeenIn 7 = .ok (.invokevirtual 153, 3) := by decide +kernel
theorem dX8_allSeenIn_10 : decode cX8_allSeenIn 10 = .ok (.if_icmp .ge 43, 3) := by decide +kernel
theorem dX8_allSeenIn_13 : decode cX8_allSeenIn 13 = .ok (.aload_n 0, 1) := by decide +kernel
theorem dX8_allSeenIn_14 : decode cX8_allSeenIn 14 = .ok (.getfield 34, 3) := by decide +kernel
theorem dX8_allSeenIn_17 : decode cX8_allSeenIn 17 = .ok (.iload_n 2, 1) := by decide +kernel
theorem dX8_allSeenIn_18 : decode cX8_allSeenIn 18 = .ok (.invokevirtual 347, 3) := by decide +kernel
theorem dX8_allSeenIn_21 : decode cX8_allSeenIn 21 = .ok (.istore_n 3, 1) := by decide +kernel
theorem dX8_allSeenIn_22 : decode cX8_allSeenIn 22 = .ok (.iload_n 3, 1) := by decide +kernel
theorem dX8_allSeenIn_23 : decode cX8_allSeenIn 23 = .ok (.aload_n 1, 1) := by decide +kernel
theorem dX8_allSeenIn_24 : decode cX8_allSeenIn 24 = .ok (.arraylength, 1) := by decide +kernel
theorem dX8_allSeenIn_25 : decode cX8_allSeenIn 25 = .ok (.invokestatic 80, 3) := by decide +kernel
theorem dX8_allSeenIn_28 : decode cX8_allSeenIn 28 = .ok (.ifCond .eq 17, 3) := by decide +kernel
theorem dX8_allSeenIn_31 : decode cX8_allSeenIn 31 = .ok (.aload_n 1, 1) := by decide +kernel
theorem dX8_allSeenIn_32 : decode cX8_allSeenIn 32 = .ok (.iload_n 3, 1) := by decide +kernel
theorem dX8_allSeenIn_33 : decode cX8_allSeenIn 33 = .ok (.iaload, 1) := by decide +kernel
theorem dX8_allSeenIn_34 : decode cX8_allSeenIn 34 = .ok (.aload_n 0, 1) := by decide +kernel
theorem dX8_allSeenIn_35 : decode cX8_allSeenIn 35 = .ok (.getfield 34, 3) := by decide +kernel
theorem dX8_allSeenIn_38 : decode cX8_allSeenIn 38 = .ok (.iload_n 2, 1) := by decide +kernel
theorem dX8_allSeenIn_39 : decode cX8_allSeenIn 39 = .ok (.invokevirtual 350, 3) := by decide +kernel
theorem dX8_allSeenIn_42 : decode cX8_allSeenIn 42 = .ok (.if_icmp .eq 5, 3) := by decide +kernel
theorem dX8_allSeenIn_45 : decode cX8_allSeenIn 45 = .ok (.iconst 0, 1) := by decide +kernel
theorem dX8_allSeenIn_46 : decode cX8_allSeenIn 46 = .ok (.ireturn, 1) := by decide +kernel
theorem dX8_allSeenIn_47 : decode cX8_allSeenIn 47 = .ok (.iinc 2 1, 3) := by decide +kernel
theorem dX8_allSeenIn_50 : decode cX8_allSeenIn 50 = .ok (.goto (-48), 3) := by decide +kernel
theorem dX8_allSeenIn_53 : decode cX8_allSeenIn 53 = .ok (.iconst 1, 1) := by decide +kernel
theorem dX8_allSeenIn_54 : decode cX8_allSeenIn 54 = .ok (.ireturn, 1) := by decide +kernel
theorem dX8_tallyRehearsal_0 : decode cX8_tallyRehearsal 0 = .ok (.iconst 0, 1) := by decide +kernel
theorem dX8_tallyRehearsal_1 : decode cX8_tallyRehearsal 1 = .ok (.istore_n 1, 1) := by decide +kernel
theorem dX8_tallyRehearsal_2 : decode cX8_tallyRehearsal 2 = .ok (.iload_n 1, 1) := by decide +kernel
theorem dX8_tallyRehearsal_3 : decode cX8_tallyRehearsal 3 = .ok (.bipush 40, 2) := by decide +kernel
theorem dX8_tallyRehearsal_5 : decode cX8_tallyRehearsal 5 = .ok (.if_icmp .ge 40, 3) := by decide +kernel
theorem dX8_tallyRehearsal_8 : decode cX8_tallyRehearsal 8 = .ok (.aload_n 0, 1) := by decide +kernel
theorem dX8_tallyRehearsal_9 : decode cX8_tallyRehearsal 9 = .ok (.getfield 62, 3) := by decide +kernel
theorem dX8_tallyRehearsal_12 : decode cX8_tallyRehearsal 12 = .ok (.iload_n 1, 1) := by decide +kernel
theorem dX8_tallyRehearsal_13 : decode cX8_tallyRehearsal 13 = .ok (.iaload, 1) := by decide +kernel
theorem dX8_tallyRehearsal_14 : decode cX8_tallyRehearsal 14 = .ok (.istore_n 2, 1) := by decide +kernel
theorem dX8_tallyRehearsal_15 : decode cX8_tallyRehearsal 15 = .ok (.iload_n 2, 1) := by decide +kernel
theorem dX8_tallyRehearsal_16 : decode cX8_tallyRehearsal 16 = .ok (.bipush 8, 2) := by decide +kernel
theorem dX8_tallyRehearsal_18 : decode cX8_tallyRehearsal 18 = .ok (.invokestatic 80, 3) := by decide +kernel
theorem dX8_tallyRehearsal_21 : decode cX8_tallyRehearsal 21 = .ok (.ifCond .eq 18, 3) := by decide +kernel
theorem dX8_tallyRehearsal_24 : decode cX8_tallyRehearsal 24 = .ok (.aload_n 0, 1) := by decide +kernel
theorem dX8_tallyRehearsal_25 : decode cX8_tallyRehearsal 25 = .ok (.getfield 66, 3) := by decide +kernel
theorem dX8_tallyRehearsal_28 : decode cX8_tallyRehearsal 28 = .ok (.iload_n 1, 1) := by decide +kernel
theorem dX8_tallyRehearsal_29 : decode cX8_tallyRehearsal 29 = .ok (.bipush 8, 2) := by decide +kernel
theorem dX8_tallyRehearsal_31 : decode cX8_tallyRehearsal 31 = .ok (.imul, 1) := by decide +kernel
theorem dX8_tallyRehearsal_32 : decode cX8_tallyRehearsal 32 = .ok (.iload_n 2, 1) := by decide +kernel
theorem dX8_tallyRehearsal_33 : decode cX8_tallyRehearsal 33 = .ok (.iadd, 1) := by decide +kernel
theorem dX8_tallyRehearsal_34 : decode cX8_tallyRehearsal 34 = .ok (.dup2, 1) := by decide +kernel
theorem dX8_tallyRehearsal_35 : decode cX8_tallyRehearsal 35 = .ok (.iaload, 1) := by decide +kernel
theorem dX8_tallyRehearsal_36 : decode cX8_tallyRehearsal 36 = .ok (.iconst 1, 1) := by decide +kernel
theorem dX8_tallyRehearsal_37 : decode cX8_tallyRehearsal 37 = .ok (.iadd, 1) := by decide +kernel
theorem dX8_tallyRehearsal_38 : decode cX8_tallyRehearsal 38 = .ok (.iastore, 1) := by decide +kernel
theorem dX8_tallyRehearsal_39 : decode cX8_tallyRehearsal 39 = .ok (.iinc 1 1, 3) := by decide +kernel
theorem dX8_tallyRehearsal_42 : decode cX8_tallyRehearsal 42 = .ok (.goto (-40), 3) := by decide +kernel
theorem dX8_tallyRehearsal_45 : decode cX8_tallyRehearsal 45 = .ok (.return_, 1) := by decide +kernel
theorem dX8_greatestTally_0 : decode cX8_greatestTally 0 = .ok (.iconst 0, 1) := by decide +kernel
theorem dX8_greatestTally_1 : decode cX8_greatestTally 1 = .ok (.istore_n 2, 1) := by decide +kernel
theorem dX8_greatestTally_2 : decode cX8_greatestTally 2 = .ok (.iconst 0, 1) := by decide +kernel
theorem dX8_greatestTally_3 : decode cX8_greatestTally 3 = .ok (.istore_n 3, 1) := by decide +kernel
theorem dX8_greatestTally_4 : decode cX8_greatestTally 4 = .ok (.iload_n 3, 1) := by decide +kernel
theorem dX8_greatestTally_5 : decode cX8_greatestTally 5 = .ok (.bipush 8, 2) := by decide +kernel
theorem dX8_greatestTally_7 : decode cX8_greatestTally 7 = .ok (.if_icmp .ge 25, 3) := by decide +kernel
theorem dX8_greatestTally_10 : decode cX8_greatestTally 10 = .ok (.iload_n 2, 1) := by decide +kernel
theorem dX8_greatestTally_11 : decode cX8_greatestTally 11 = .ok (.aload_n 0, 1) := by decide +kernel
theorem dX8_greatestTally_12 : decode cX8_greatestTally 12 = .ok (.getfield 66, 3) := by decide +kernel
theorem dX8_greatestTally_15 : decode cX8_greatestTally 15 = .ok (.iload_n 1, 1) := by decide +kernel
theorem dX8_greatestTally_16 : decode cX8_greatestTally 16 = .ok (.bipush 8, 2) := by decide +kernel
theorem dX8_greatestTally_18 : decode cX8_greatestTally 18 = .ok (.imul, 1) := by decide +kernel
theorem dX8_greatestTally_19 : decode cX8_greatestTally 19 = .ok (.iload_n 3, 1) := by decide +kernel
theorem dX8_greatestTally_20 : decode cX8_greatestTally 20 = .ok (.iadd, 1) := by decide +kernel
theorem dX8_greatestTally_21 : decode cX8_greatestTally 21 = .ok (.iaload, 1) := by decide +kernel
theorem dX8_greatestTally_22 : decode cX8_greatestTally 22 = .ok (.invokestatic 212, 3) := by decide +kernel
theorem dX8_greatestTally_25 : decode cX8_greatestTally 25 = .ok (.istore_n 2, 1) := by decide +kernel
theorem dX8_greatestTally_26 : decode cX8_greatestTally 26 = .ok (.iinc 3 1, 3) := by decide +kernel
theorem dX8_greatestTally_29 : decode cX8_greatestTally 29 = .ok (.goto (-25), 3) := by decide +kernel
theorem dX8_greatestTally_32 : decode cX8_greatestTally 32 = .ok (.iload_n 2, 1) := by decide +kernel
theorem dX8_greatestTally_33 : decode cX8_greatestTally 33 = .ok (.ireturn, 1) := by decide +kernel
theorem dX8_mixLine_0 : decode cX8_mixLine 0 = .ok (.lload_n 1, 1) := by decide +kernel
theorem dX8_mixLine_1 : decode cX8_mixLine 1 = .ok (.lstore 4, 2) := by decide +kernel
theorem dX8_mixLine_3 : decode cX8_mixLine 3 = .ok (.ldc2_w 298, 3) := by decide +kernel
theorem dX8_mixLine_6 : decode cX8_mixLine 6 = .ok (.lload 4, 2) := by decide +kernel
theorem dX8_mixLine_8 : decode cX8_mixLine 8 = .ok (.lmul, 1) := by decide +kernel
theorem dX8_mixLine_9 : decode cX8_mixLine 9 = .ok (.aload_n 0, 1) := by decide +kernel
theorem dX8_mixLine_10 : decode cX8_mixLine 10 = .ok (.iload_n 3, 1) := by decide +kernel
theorem dX8_mixLine_11 : decode cX8_mixLine 11 = .ok (.iconst 0, 1) := by decide +kernel
theorem dX8_mixLine_12 : decode cX8_mixLine 12 = .ok (.invokevirtual 353, 3) := by decide +kernel
theorem dX8_mixLine_15 : decode cX8_mixLine 15 = .ok (.i2l, 1) := by decide +kernel
theorem dX8_mixLine_16 : decode cX8_mixLine 16 = .ok (.ladd, 1) := by decide +kernel
theorem dX8_mixLine_17 : decode cX8_mixLine 17 = .ok (.lstore 4, 2) := by decide +kernel
theorem dX8_mixLine_19 : decode cX8_mixLine 19 = .ok (.ldc2_w 298, 3) := by decide +kernel
theorem dX8_mixLine_22 : decode cX8_mixLine 22 = .ok (.lload 4, 2) := by decide +kernel
theorem dX8_mixLine_24 : decode cX8_mixLine 24 = .ok (.lmul, 1) := by decide +kernel
theorem dX8_mixLine_25 : decode cX8_mixLine 25 = .ok (.aload_n 0, 1) := by decide +kernel
theorem dX8_mixLine_26 : decode cX8_mixLine 26 = .ok (.iload_n 3, 1) := by decide +kernel
theorem dX8_mixLine_27 : decode cX8_mixLine 27 = .ok (.iconst 1, 1) := by decide +kernel
theorem dX8_mixLine_28 : decode cX8_mixLine 28 = .ok (.invokevirtual 353, 3) := by decide +kernel
theorem dX8_mixLine_31 : decode cX8_mixLine 31 = .ok (.i2l, 1) := by decide +kernel
theorem dX8_mixLine_32 : decode cX8_mixLine 32 = .ok (.ladd, 1) := by decide +kernel
theorem dX8_mixLine_33 : decode cX8_mixLine 33 = .ok (.lstore 4, 2) := by decide +kernel
theorem dX8_mixLine_35 : decode cX8_mixLine 35 = .ok (.ldc2_w 298, 3) := by decide +kernel
theorem dX8_mixLine_38 : decode cX8_mixLine 38 = .ok (.lload 4, 2) := by decide +kernel
theorem dX8_mixLine_40 : decode cX8_mixLine 40 = .ok (.lmul, 1) := by decide +kernel
theorem dX8_mixLine_41 : decode cX8_mixLine 41 = .ok (.aload_n 0, 1) := by decide +kernel
theorem dX8_mixLine_42 : decode cX8_mixLine 42 = .ok (.iload_n 3, 1) := by decide +kernel
theorem dX8_mixLine_43 : decode cX8_mixLine 43 = .ok (.iconst 0, 1) := by decide +kernel
theorem dX8_mixLine_44 : decode cX8_mixLine 44 = .ok (.invokevirtual 356, 3) := by decide +kernel
theorem dX8_mixLine_47 : decode cX8_mixLine 47 = .ok (.i2l, 1) := by decide +kernel
theorem dX8_mixLine_48 : decode cX8_mixLine 48 = .ok (.ladd, 1) := by decide +kernel
theorem dX8_mixLine_49 : decode cX8_mixLine 49 = .ok (.lstore 4, 2) := by decide +kernel
theorem dX8_mixLine_51 : decode cX8_mixLine 51 = .ok (.ldc2_w 298, 3) := by decide +kernel
theorem dX8_mixLine_54 : decode cX8_mixLine 54 = .ok (.lload 4, 2) := by decide +kernel
theorem dX8_mixLine_56 : decode cX8_mixLine 56 = .ok (.lmul, 1) := by decide +kernel
theorem dX8_mixLine_57 : decode cX8_mixLine 57 = .ok (.aload_n 0, 1) := by decide +kernel
theorem dX8_mixLine_58 : decode cX8_mixLine 58 = .ok (.iload_n 3, 1) := by decide +kernel
theorem dX8_mixLine_59 : decode cX8_mixLine 59 = .ok (.iconst 1, 1) := by decide +kernel
theorem dX8_mixLine_60 : decode cX8_mixLine 60 = .ok (.invokevirtual 356, 3) := by decide +kernel
theorem dX8_mixLine_63 : decode cX8_mixLine 63 = .ok (.i2l, 1) := by decide +kernel
theorem dX8_mixLine_64 : decode cX8_mixLine 64 = .ok (.ladd, 1) := by decide +kernel
theorem dX8_mixLine_65 : decode cX8_mixLine 65 = .ok (.lstore 4, 2) := by decide +kernel
theorem dX8_mixLine_67 : decode cX8_mixLine 67 = .ok (.ldc2_w 298, 3) := by decide +kernel
theorem dX8_mixLine_70 : decode cX8_mixLine 70 = .ok (.lload 4, 2) := by decide +kernel
theorem dX8_mixLine_72 : decode cX8_mixLine 72 = .ok (.lmul, 1) := by decide +kernel
theorem dX8_mixLine_73 : decode cX8_mixLine 73 = .ok (.aload_n 0, 1) := by decide +kernel
theorem dX8_mixLine_74 : decode cX8_mixLine 74 = .ok (.iconst 5, 1) := by decide +kernel
theorem dX8_mixLine_75 : decode cX8_mixLine 75 = .ok (.iconst 0, 1) := by decide +kernel
theorem dX8_mixLine_76 : decode cX8_mixLine 76 = .ok (.iload_n 3, 1) := by decide +kernel
theorem dX8_mixLine_77 : decode cX8_mixLine 77 = .ok (.iconst 5, 1) := by decide +kernel
theorem dX8_mixLine_78 : decode cX8_mixLine 78 = .ok (.iconst 0, 1) := by decide +kernel
theorem dX8_mixLine_79 : decode cX8_mixLine 79 = .ok (.invokevirtual 359, 3) := by decide +kernel
theorem dX8_mixLine_82 : decode cX8_mixLine 82 = .ok (.ladd, 1) := by decide +kernel
theorem dX8_mixLine_83 : decode cX8_mixLine 83 = .ok (.lstore 4, 2) := by decide +kernel
theorem dX8_mixLine_85 : decode cX8_mixLine 85 = .ok (.ldc2_w 298, 3) := by decide +kernel
theorem dX8_mixLine_88 : decode cX8_mixLine 88 = .ok (.lload 4, 2) := by decide +kernel
theorem dX8_mixLine_90 : decode cX8_mixLine 90 = .ok (.lmul, 1) := by decide +kernel
theorem dX8_mixLine_91 : decode cX8_mixLine 91 = .ok (.aload_n 0, 1) := by decide +kernel
theorem dX8_mixLine_92 : decode cX8_mixLine 92 = .ok (.iconst 5, 1) := by decide +kernel
theorem dX8_mixLine_93 : decode cX8_mixLine 93 = .ok (.iconst 0, 1) := by decide +kernel
theorem dX8_mixLine_94 : decode cX8_mixLine 94 = .ok (.iload_n 3, 1) := by decide +kernel
theorem dX8_mixLine_95 : decode cX8_mixLine 95 = .ok (.iconst 5, 1) := by decide +kernel
theorem dX8_mixLine_96 : decode cX8_mixLine 96 = .ok (.iconst 1, 1) := by decide +kernel
theorem dX8_mixLine_97 : decode cX8_mixLine 97 = .ok (.invokevirtual 359, 3) := by decide +kernel
theorem dX8_mixLine_100 : decode cX8_mixLine 100 = .ok (.ladd, 1) := by decide +kernel
theorem dX8_mixLine_101 : decode cX8_mixLine 101 = .ok (.lstore 4, 2) := by decide +kernel
theorem dX8_mixLine_103 : decode cX8_mixLine 103 = .ok (.iconst 0, 1) := by decide +kernel
theorem dX8_mixLine_104 : decode cX8_mixLine 104 = .ok (.istore 6, 2) := by decide +kernel
theorem dX8_mixLine_106 : decode cX8_mixLine 106 = .ok (.iload 6, 2) := by decide +kernel
theorem dX8_mixLine_108 : decode cX8_mixLine 108 = .ok (.iconst 3, 1) := by decide +kernel
theorem dX8_mixLine_109 : decode cX8_mixLine 109 = .ok (.if_icmp .ge 29, 3) := by decide +kernel
theorem dX8_mixLine_112 : decode cX8_mixLine 112 = .ok (.ldc2_w 298, 3) := by decide +kernel
theorem dX8_mixLine_115 : decode cX8_mixLine 115 = .ok (.lload 4, 2) := by decide +kernel
theorem dX8_mixLine_117 : decode cX8_mixLine 117 = .ok (.lmul, 1) := by decide +kernel
theorem dX8_mixLine_118 : decode cX8_mixLine 118 = .ok (.aload_n 0, 1) := by decide +kernel
theorem dX8_mixLine_119 : decode cX8_mixLine 119 = .ok (.iconst 3, 1) := by decide +kernel
theorem dX8_mixLine_120 : decode cX8_mixLine 120 = .ok (.bipush 6, 2) := by decide +kernel
theorem dX8_mixLine_122 : decode cX8_mixLine 122 = .ok (.iload_n 3, 1) := by decide +kernel
theorem dX8_mixLine_123 : decode cX8_mixLine 123 = .ok (.iload 6, 2) := by decide +kernel
theorem dX8_mixLine_125 : decode cX8_mixLine 125 = .ok (.invokevirtual 363, 3) := by decide +kernel
theorem dX8_mixLine_128 : decode cX8_mixLine 128 = .ok (.i2l, 1) := by decide +kernel
theorem dX8_mixLine_129 : decode cX8_mixLine 129 = .ok (.ladd, 1) := by decide +kernel
theorem dX8_mixLine_130 : decode cX8_mixLine 130 = .ok (.lstore 4, 2) := by decide +kernel
theorem dX8_mixLine_132 : decode cX8_mixLine 132 = .ok (.iinc 6 1, 3) := by decide +kernel
theorem dX8_mixLine_135 : decode cX8_mixLine 135 = .ok (.goto (-29), 3) := by decide +kernel
theorem dX8_mixLine_138 : decode cX8_mixLine 138 = .ok (.lload 4, 2) := by decide +kernel
theorem dX8_mixLine_140 : decode cX8_mixLine 140 = .ok (.lreturn, 1) := by decide +kernel
theorem dX8_mixHole_0 : decode cX8_mixHole 0 = .ok (.lload_n 1, 1) := by decide +kernel
theorem dX8_mixHole_1 : decode cX8_mixHole 1 = .ok (.lstore 4, 2) := by decide +kernel
theorem dX8_mixHole_3 : decode cX8_mixHole 3 = .ok (.iconst 0, 1) := by decide +kernel
theorem dX8_mixHole_4 : decode cX8_mixHole 4 = .ok (.istore 6, 2) := by decide +kernel
theorem dX8_mixHole_6 : decode cX8_mixHole 6 = .ok (.iload 6, 2) := by decide +kernel
theorem dX8_mixHole_8 : decode cX8_mixHole 8 = .ok (.iconst 4, 1) := by decide +kernel
theorem dX8_mixHole_9 : decode cX8_mixHole 9 = .ok (.if_icmp .ge 26, 3) := by decide +kernel
theorem dX8_mixHole_12 : decode cX8_mixHole 12 = .ok (.ldc2_w 298, 3) := by decide +kernel
theorem dX8_mixHole_15 : decode cX8_mixHole 15 = .ok (.lload 4, 2) := by decide +kernel
theorem dX8_mixHole_17 : decode cX8_mixHole 17 = .ok (.lmul, 1) := by decide +kernel
theorem dX8_mixHole_18 : decode cX8_mixHole 18 = .ok (.aload_n 0, 1) := by decide +kernel
theorem dX8_mixHole_19 : decode cX8_mixHole 19 = .ok (.iload_n 3, 1) := by decide +kernel
theorem dX8_mixHole_20 : decode cX8_mixHole 20 = .ok (.iload 6, 2) := by decide +kernel
theorem dX8_mixHole_22 : decode cX8_mixHole 22 = .ok (.invokevirtual 366, 3) := by decide +kernel
theorem dX8_mixHole_25 : decode cX8_mixHole 25 = .ok (.i2l, 1) := by decide +kernel
theorem dX8_mixHole_26 : decode cX8_mixHole 26 = .ok (.ladd, 1) := by decide +kernel
theorem dX8_mixHole_27 : decode cX8_mixHole 27 = .ok (.lstore 4, 2) := by decide +kernel
theorem dX8_mixHole_29 : decode cX8_mixHole 29 = .ok (.iinc 6 1, 3) := by decide +kernel
theorem dX8_mixHole_32 : decode cX8_mixHole 32 = .ok (.goto (-26), 3) := by decide +kernel
theorem dX8_mixHole_35 : decode cX8_mixHole 35 = .ok (.ldc2_w 298, 3) := by decide +kernel
theorem dX8_mixHole_38 : decode cX8_mixHole 38 = .ok (.lload 4, 2) := by decide +kernel
theorem dX8_mixHole_40 : decode cX8_mixHole 40 = .ok (.lmul, 1) := by decide +kernel
theorem dX8_mixHole_41 : decode cX8_mixHole 41 = .ok (.aload_n 0, 1) := by decide +kernel
theorem dX8_mixHole_42 : decode cX8_mixHole 42 = .ok (.iconst 3, 1) := by decide +kernel
theorem dX8_mixHole_43 : decode cX8_mixHole 43 = .ok (.iload_n 3, 1) := by decide +kernel
theorem dX8_mixHole_44 : decode cX8_mixHole 44 = .ok (.invokevirtual 369, 3) := by decide +kernel
theorem dX8_mixHole_47 : decode cX8_mixHole 47 = .ok (.i2l, 1) := by decide +kernel
theorem dX8_mixHole_48 : decode cX8_mixHole 48 = .ok (.ladd, 1) := by decide +kernel
theorem dX8_mixHole_49 : decode cX8_mixHole 49 = .ok (.lstore 4, 2) := by decide +kernel
theorem dX8_mixHole_51 : decode cX8_mixHole 51 = .ok (.ldc2_w 298, 3) := by decide +kernel
theorem dX8_mixHole_54 : decode cX8_mixHole 54 = .ok (.lload 4, 2) := by decide +kernel
theorem dX8_mixHole_56 : decode cX8_mixHole 56 = .ok (.lmul, 1) := by decide +kernel
theorem dX8_mixHole_57 : decode cX8_mixHole 57 = .ok (.aload_n 0, 1) := by decide +kernel
theorem dX8_mixHole_58 : decode cX8_mixHole 58 = .ok (.iload_n 3, 1) := by decide +kernel
theorem dX8_mixHole_59 : decode cX8_mixHole 59 = .ok (.invokevirtual 372, 3) := by decide +kernel
theorem dX8_mixHole_62 : decode cX8_mixHole 62 = .ok (.i2l, 1) := by decide +kernel
theorem dX8_mixHole_63 : decode cX8_mixHole 63 = .ok (.ladd, 1) := by decide +kernel
theorem dX8_mixHole_64 : decode cX8_mixHole 64 = .ok (.lstore 4, 2) := by decide +kernel
theorem dX8_mixHole_66 : decode cX8_mixHole 66 = .ok (.ldc2_w 298, 3) := by decide +kernel
theorem dX8_mixHole_69 : decode cX8_mixHole 69 = .ok (.lload 4, 2) := by decide +kernel
theorem dX8_mixHole_71 : decode cX8_mixHole 71 = .ok (.lmul, 1) := by decide +kernel
theorem dX8_mixHole_72 : decode cX8_mixHole 72 = .ok (.aload_n 0, 1) := by decide +kernel
theorem dX8_mixHole_73 : decode cX8_mixHole 73 = .ok (.iload_n 3, 1) := by decide +kernel
theorem dX8_mixHole_74 : decode cX8_mixHole 74 = .ok (.invokevirtual 375, 3) := by decide +kernel
theorem dX8_mixHole_77 : decode cX8_mixHole 77 = .ok (.i2l, 1) := by decide +kernel
theorem dX8_mixHole_78 : decode cX8_mixHole 78 = .ok (.ladd, 1) := by decide +kernel
theorem dX8_mixHole_79 : decode cX8_mixHole 79 = .ok (.lreturn, 1) := by decide +kernel
theorem dX8_mixStep_0 : decode cX8_mixStep 0 = .ok (.lload_n 1, 1) := by decide +kernel
theorem dX8_mixStep_1 : decode cX8_mixStep 1 = .ok (.lstore 4, 2) := by decide +kernel
theorem dX8_mixStep_3 : decode cX8_mixStep 3 = .ok (.iconst 0, 1) := by decide +kernel
theorem dX8_mixStep_4 : decode cX8_mixStep 4 = .ok (.istore 6, 2) := by decide +kernel
theorem dX8_mixStep_6 : decode cX8_mixStep 6 = .ok (.iload 6, 2) := by decide +kernel
theorem dX8_mixStep_8 : decode cX8_mixStep 8 = .ok (.iconst 4, 1) := by decide +kernel
theorem dX8_mixStep_9 : decode cX8_mixStep 9 = .ok (.if_icmp .ge 26, 3) := by decide +kernel
theorem dX8_mixStep_12 : decode cX8_mixStep 12 = .ok (.ldc2_w 298, 3) := by decide +kernel
theorem dX8_mixStep_15 : decode cX8_mixStep 15 = .ok (.lload 4, 2) := by decide +kernel
theorem dX8_mixStep_17 : decode cX8_mixStep 17 = .ok (.lmul, 1) := by decide +kernel
theorem dX8_mixStep_18 : decode cX8_mixStep 18 = .ok (.aload_n 0, 1) := by decide +kernel
theorem dX8_mixStep_19 : decode cX8_mixStep 19 = .ok (.iload_n 3, 1) := by decide +kernel
theorem dX8_mixStep_20 : decode cX8_mixStep 20 = .ok (.iload 6, 2) := by decide +kernel
theorem dX8_mixStep_22 : decode cX8_mixStep 22 = .ok (.invokevirtual 378, 3) := by decide +kernel
theorem dX8_mixStep_25 : decode cX8_mixStep 25 = .ok (.i2l, 1) := by decide +kernel
theorem dX8_mixStep_26 : decode cX8_mixStep 26 = .ok (.ladd, 1) := by decide +kernel
theorem dX8_mixStep_27 : decode cX8_mixStep 27 = .ok (.lstore 4, 2) := by decide +kernel
theorem dX8_mixStep_29 : decode cX8_mixStep 29 = .ok (.iinc 6 1, 3) := by decide +kernel
theorem dX8_mixStep_32 : decode cX8_mixStep 32 = .ok (.goto (-26), 3) := by decide +kernel
theorem dX8_mixStep_35 : decode cX8_mixStep 35 = .ok (.ldc2_w 298, 3) := by decide +kernel
theorem dX8_mixStep_38 : decode cX8_mixStep 38 = .ok (.lload 4, 2) := by decide +kernel
theorem dX8_mixStep_40 : decode cX8_mixStep 40 = .ok (.lmul, 1) := by decide +kernel
theorem dX8_mixStep_41 : decode cX8_mixStep 41 = .ok (.aload_n 0, 1) := by decide +kernel
theorem dX8_mixStep_42 : decode cX8_mixStep 42 = .ok (.iconst 3, 1) := by decide +kernel
theorem dX8_mixStep_43 : decode cX8_mixStep 43 = .ok (.iload_n 3, 1) := by decide +kernel
theorem dX8_mixStep_44 : decode cX8_mixStep 44 = .ok (.invokevirtual 381, 3) := by decide +kernel
theorem dX8_mixStep_47 : decode cX8_mixStep 47 = .ok (.i2l, 1) := by decide +kernel
theorem dX8_mixStep_48 : decode cX8_mixStep 48 = .ok (.ladd, 1) := by decide +kernel
theorem dX8_mixStep_49 : decode cX8_mixStep 49 = .ok (.lstore 4, 2) := by decide +kernel
theorem dX8_mixStep_51 : decode cX8_mixStep 51 = .ok (.ldc2_w 298, 3) := by decide +kernel
theorem dX8_mixStep_54 : decode cX8_mixStep 54 = .ok (.lload 4, 2) := by decide +kernel
theorem dX8_mixStep_56 : decode cX8_mixStep 56 = .ok (.lmul, 1) := by decide +kernel
theorem dX8_mixStep_57 : decode cX8_mixStep 57 = .ok (.aload_n 0, 1) := by decide +kernel
theorem dX8_mixStep_58 : decode cX8_mixStep 58 = .ok (.bipush 7, 2) := by decide +kernel
theorem dX8_mixStep_60 : decode cX8_mixStep 60 = .ok (.iload_n 3, 1) := by decide +kernel
theorem dX8_mixStep_61 : decode cX8_mixStep 61 = .ok (.iconst 0, 1) := by decide +kernel
theorem dX8_mixStep_62 : decode cX8_mixStep 62 = .ok (.invokevirtual 384, 3) := by decide +kernel
theorem dX8_mixStep_65 : decode cX8_mixStep 65 = .ok (.i2l, 1) := by decide +kernel
theorem dX8_mixStep_66 : decode cX8_mixStep 66 = .ok (.ladd, 1) := by decide +kernel
theorem dX8_mixStep_67 : decode cX8_mixStep 67 = .ok (.lstore 4, 2) := by decide +kernel
theorem dX8_mixStep_69 : decode cX8_mixStep 69 = .ok (.ldc2_w 298, 3) := by decide +kernel
theorem dX8_mixStep_72 : decode cX8_mixStep 72 = .ok (.lload 4, 2) := by decide +kernel
theorem dX8_mixStep_74 : decode cX8_mixStep 74 = .ok (.lmul, 1) := by decide +kernel
theorem dX8_mixStep_75 : decode cX8_mixStep 75 = .ok (.aload_n 0, 1) := by decide +kernel
theorem dX8_mixStep_76 : decode cX8_mixStep 76 = .ok (.bipush 7, 2) := by decide +kernel
theorem dX8_mixStep_78 : decode cX8_mixStep 78 = .ok (.iload_n 3, 1) := by decide +kernel
theorem dX8_mixStep_79 : decode cX8_mixStep 79 = .ok (.iconst 1, 1) := by decide +kernel
theorem dX8_mixStep_80 : decode cX8_mixStep 80 = .ok (.invokevirtual 384, 3) := by decide +kernel
theorem dX8_mixStep_83 : decode cX8_mixStep 83 = .ok (.i2l, 1) := by decide +kernel
theorem dX8_mixStep_84 : decode cX8_mixStep 84 = .ok (.ladd, 1) := by decide +kernel
theorem dX8_mixStep_85 : decode cX8_mixStep 85 = .ok (.lreturn, 1) := by decide +kernel
theorem dX9_init_0 : decode cX9_init 0 = .ok (.aload_n 0, 1) := by decide +kernel
theorem dX9_init_1 : decode cX9_init 1 = .ok (.invokespecial 1, 3) := by decide +kernel
theorem dX9_init_4 : decode cX9_init 4 = .ok (.aload_n 0, 1) := by decide +kernel
theorem dX9_init_5 : decode cX9_init 5 = .ok (.iconst 4, 1) := by decide +kernel
theorem dX9_init_6 : decode cX9_init 6 = .ok (.newarray .int, 2) := by decide +kernel
theorem dX9_init_8 : decode cX9_init 8 = .ok (.putfield 7, 3) := by decide +kernel
theorem dX9_init_11 : decode cX9_init 11 = .ok (.aload_n 0, 1) := by decide +kernel
theorem dX9_init_12 : decode cX9_init 12 = .ok (.iconst 4, 1) := by decide +kernel
theorem dX9_init_13 : decode cX9_init 13 = .ok (.newarray .int, 2) := by decide +kernel
theorem dX9_init_15 : decode cX9_init 15 = .ok (.putfield 13, 3) := by decide +kernel
theorem dX9_init_18 : decode cX9_init 18 = .ok (.aload_n 0, 1) := by decide +kernel
theorem dX9_init_19 : decode cX9_init 19 = .ok (.sipush 240, 3) := by decide +kernel
theorem dX9_init_22 : decode cX9_init 22 = .ok (.newarray .int, 2) := by decide +kernel
theorem dX9_init_24 : decode cX9_init 24 = .ok (.putfield 16, 3) := by decide +kernel
theorem dX9_init_27 : decode cX9_init 27 = .ok (.aload_n 0, 1) := by decide +kernel
theorem dX9_init_28 : decode cX9_init 28 = .ok (.bipush 60, 2) := by decide +kernel
theorem dX9_init_30 : decode cX9_init 30 = .ok (.newarray .int, 2) := by decide +kernel
theorem dX9_init_32 : decode cX9_init 32 = .ok (.putfield 19, 3) := by decide +kernel
theorem dX9_init_35 : decode cX9_init 35 = .ok (.aload_n 0, 1) := by decide +kernel
theorem dX9_init_36 : decode cX9_init 36 = .ok (.bipush 88, 2) := by decide +kernel
theorem dX9_init_38 : decode cX9_init 38 = .ok (.newarray .int, 2) := by decide +kernel
theorem dX9_init_40 : decode cX9_init 40 = .ok (.putfield 22, 3) := by decide +kernel
theorem dX9_init_43 : decode cX9_init 43 = .ok (.aload_n 0, 1) := by decide +kernel
theorem dX9_init_44 : decode cX9_init 44 = .ok (.iconst 2, 1) := by decide +kernel
theorem dX9_init_45 : decode cX9_init 45 = .ok (.newarray .int, 2) := by decide +kernel
theorem dX9_init_47 : decode cX9_init 47 = .ok (.putfield 25, 3) := by decide +kernel
theorem dX9_init_50 : decode cX9_init 50 = .ok (.aload_n 0, 1) := by decide +kernel
theorem dX9_init_51 : decode cX9_init 51 = .ok (.bipush 24, 2) := by decide +kernel
theorem dX9_init_53 : decode cX9_init 53 = .ok (.newarray .int, 2) := by decide +kernel
theorem dX9_init_55 : decode cX9_init 55 = .ok (.putfield 28, 3) := by decide +kernel
theorem dX9_init_58 : decode cX9_init 58 = .ok (.aload_n 0, 1) := by decide +kernel
theorem dX9_init_59 : decode cX9_init 59 = .ok (.bipush 36, 2) := by decide +kernel
theorem dX9_init_61 : decode cX9_init 61 = .ok (.newarray .int, 2) := by decide +kernel
theorem dX9_init_63 : decode cX9_init 63 = .ok (.putfield 31, 3) := by decide +kernel
theorem dX9_init_66 : decode cX9_init 66 = .ok (.aload_n 0, 1) := by decide +kernel
theorem dX9_init_67 : decode cX9_init 67 = .ok (.bipush 24, 2) := by decide +kernel
theorem dX9_init_69 : decode cX9_init 69 = .ok (.newarray .int, 2) := by decide +kernel
theorem dX9_init_71 : decode cX9_init 71 = .ok (.putfield 34, 3) := by decide +kernel
theorem dX9_init_74 : decode cX9_init 74 = .ok (.aload_n 0, 1) := by decide +kernel
theorem dX9_init_75 : decode cX9_init 75 = .ok (.bipush 24, 2) := by decide +kernel
theorem dX9_init_77 : decode cX9_init 77 = .ok (.newarray .int, 2) := by decide +kernel
theorem dX9_init_79 : decode cX9_init 79 = .ok (.putfield 37, 3) := by decide +kernel
theorem dX9_init_82 : decode cX9_init 82 = .ok (.aload_n 0, 1) := by decide +kernel
theorem dX9_init_83 : decode cX9_init 83 = .ok (.bipush 6, 2) := by decide +kernel
theorem dX9_init_85 : decode cX9_init 85 = .ok (.newarray .int, 2) := by decide +kernel
theorem dX9_init_87 : decode cX9_init 87 = .ok (.putfield 40, 3) := by decide +kernel
theorem dX9_init_90 : decode cX9_init 90 = .ok (.aload_n 0, 1) := by decide +kernel
theorem dX9_init_91 : decode cX9_init 91 = .ok (.bipush 40, 2) := by decide +kernel
theorem dX9_init_93 : decode cX9_init 93 = .ok (.newarray .int, 2) := by decide +kernel
theorem dX9_init_95 : decode cX9_init 95 = .ok (.putfield 43, 3) := by decide +kernel
theorem dX9_init_98 : decode cX9_init 98 = .ok (.aload_n 0, 1) := by decide +kernel
theorem dX9_init_99 : decode cX9_init 99 = .ok (.bipush 40, 2) := by decide +kernel
theorem dX9_init_101 : decode cX9_init 101 = .ok (.newarray .int, 2) := by decide +kernel
theorem dX9_init_103 : decode cX9_init 103 = .ok (.putfield 46, 3) := by decide +kernel
theorem dX9_init_106 : decode cX9_init 106 = .ok (.aload_n 0, 1) := by decide +kernel
theorem dX9_init_107 : decode cX9_init 107 = .ok (.bipush 40, 2) := by decide +kernel
theorem dX9_init_109 : decode cX9_init 109 = .ok (.newarray .int, 2) := by decide +kernel
theorem dX9_init_111 : decode cX9_init 111 = .ok (.putfield 49, 3) := by decide +kernel
theorem dX9_init_114 : decode cX9_init 114 = .ok (.aload_n 0, 1) := by decide +kernel
theorem dX9_init_115 : decode cX9_init 115 = .ok (.bipush 40, 2) := by decide +kernel
theorem dX9_init_117 : decode cX9_init 117 = .ok (.newarray .int, 2) := by decide +kernel
theorem dX9_init_119 : decode cX9_init 119 = .ok (.putfield 52, 3) := by decide +kernel
theorem dX9_init_122 : decode cX9_init 122 = .ok (.aload_n 0, 1) := by decide +kernel
theorem dX9_init_123 : decode cX9_init 123 = .ok (.bipush 16, 2) := by decide +kernel
theorem dX9_init_125 : decode cX9_init 125 = .ok (.newarray .int, 2) := by decide +kernel
theorem dX9_init_127 : decode cX9_init 127 = .ok (.putfield 55, 3) := by decide +kernel
theorem dX9_init_130 : decode cX9_init 130 = .ok (.aload_n 0, 1) := by decide +kernel
theorem dX9_init_131 : decode cX9_init 131 = .ok (.sipush 360, 3) := by decide +kernel
theorem dX9_init_134 : decode cX9_init 134 = .ok (.newarray .int, 2) := by decide +kernel
theorem dX9_init_136 : decode cX9_init 136 = .ok (.putfield 58, 3) := by decide +kernel
theorem dX9_init_139 : decode cX9_init 139 = .ok (.iconst 0, 1) := by decide +kernel
theorem dX9_init_140 : decode cX9_init 140 = .ok (.istore_n 1, 1) := by decide +kernel
theorem dX9_init_141 : decode cX9_init 141 = .ok (.iload_n 1, 1) := by decide +kernel
theorem dX9_init_142 : decode cX9_init 142 = .ok (.iconst 4, 1) := by decide +kernel
theorem dX9_init_143 : decode cX9_init 143 = .ok (.if_icmp .ge 16, 3) := by decide +kernel
theorem dX9_init_146 : decode cX9_init 146 = .ok (.aload_n 0, 1) := by decide +kernel
theorem dX9_init_147 : decode cX9_init 147 = .ok (.getfield 7, 3) := by decide +kernel
theorem dX9_init_150 : decode cX9_init 150 = .ok (.iload_n 1, 1) := by decide +kernel
theorem dX9_init_151 : decode cX9_init 151 = .ok (.iconst (-1), 1) := by decide +kernel
theorem dX9_init_152 : decode cX9_init 152 = .ok (.iastore, 1) := by decide +kernel
theorem dX9_init_153 : decode cX9_init 153 = .ok (.iinc 1 1, 3) := by decide +kernel
theorem dX9_init_156 : decode cX9_init 156 = .ok (.goto (-15), 3) := by decide +kernel
theorem dX9_init_159 : decode cX9_init 159 = .ok (.aload_n 0, 1) := by decide +kernel
theorem dX9_init_160 : decode cX9_init 160 = .ok (.iconst (-1), 1) := by decide +kernel
theorem dX9_init_161 : decode cX9_init 161 = .ok (.putfield 61, 3) := by decide +kernel
theorem dX9_init_164 : decode cX9_init 164 = .ok (.aload_n 0, 1) := by decide +kernel
theorem dX9_init_165 : decode cX9_init 165 = .ok (.iconst (-1), 1) := by decide +kernel
theorem dX9_init_166 : decode cX9_init 166 = .ok (.putfield 65, 3) := by decide +kernel
theorem dX9_init_169 : decode cX9_init 169 = .ok (.return_, 1) := by decide +kernel
theorem dX9_in_0 : decode cX9_in 0 = .ok (.lload_n 0, 1) := by decide +kernel
theorem dX9_in_1 : decode cX9_in 1 = .ok (.lload_n 2, 1) := by decide +kernel
theorem dX9_in_2 : decode cX9_in 2 = .ok (.lcmp, 1) := by decide +kernel
theorem dX9_in_3 : decode cX9_in 3 = .ok (.ifCond .lt 14, 3) := by decide +kernel
theorem dX9_in_6 : decode cX9_in 6 = .ok (.lload_n 0, 1) := by decide +kernel
theorem dX9_in_7 : decode cX9_in 7 = .ok (.lload 4, 2) := by decide +kernel
theorem dX9_in_9 : decode cX9_in 9 = .ok (.lcmp, 1) := by decide +kernel
theorem dX9_in_10 : decode cX9_in 10 = .ok (.ifCond .gt 7, 3) := by decide +kernel
theorem dX9_in_13 : decode cX9_in 13 = .ok (.iconst 1, 1) := by decide +kernel
theorem dX9_in_14 : decode cX9_in 14 = .ok (.goto 4, 3) := by decide +kernel
theorem dX9_in_17 : decode cX9_in 17 = .ok (.iconst 0, 1) := by decide +kernel
theorem dX9_in_18 : decode cX9_in 18 = .ok (.ireturn, 1) := by decide +kernel
theorem dX9_no_0 : decode cX9_no 0 = .ok (.ldc2_w 68, 3) := by decide +kernel
theorem dX9_no_3 : decode cX9_no 3 = .ok (.iload_n 0, 1) := by decide +kernel
theorem dX9_no_4 : decode cX9_no 4 = .ok (.i2l, 1) := by decide +kernel
theorem dX9_no_5 : decode cX9_no 5 = .ok (.lsub, 1) := by decide +kernel
theorem dX9_no_6 : decode cX9_no 6 = .ok (.lreturn, 1) := by decide +kernel
theorem dX9_isTwo_0 : decode cX9_isTwo 0 = .ok (.iload_n 0, 1) := by decide +kernel
theorem dX9_isTwo_1 : decode cX9_isTwo 1 = .ok (.i2l, 1) := by decide +kernel
theorem dX9_isTwo_2 : decode cX9_isTwo 2 = .ok (.lconst 0, 1) := by decide +kernel
theorem dX9_isTwo_3 : decode cX9_isTwo 3 = .ok (.lconst 1, 1) := by decide +kernel
theorem dX9_isTwo_4 : decode cX9_isTwo 4 = .ok (.invokestatic 70, 3) := by decide +kernel
theorem dX9_isTwo_7 : decode cX9_isTwo 7 = .ok (.ireturn, 1) := by decide +kernel
theorem dX9_isIn_0 : decode cX9_isIn 0 = .ok (.iload_n 0, 1) := by decide +kernel
theorem dX9_isIn_1 : decode cX9_isIn 1 = .ok (.iload_n 1, 1) := by decide +kernel
theorem dX9_isIn_2 : decode cX9_isIn 2 = .ok (.ishr, 1) := by decide +kernel
theorem dX9_isIn_3 : decode cX9_isIn 3 = .ok (.iconst 1, 1) := by decide +kernel
theorem dX9_isIn_4 : decode cX9_isIn 4 = .ok (.iand, 1) := by decide +kernel
theorem dX9_isIn_5 : decode cX9_isIn 5 = .ok (.iconst 1, 1) := by decide +kernel
theorem dX9_isIn_6 : decode cX9_isIn 6 = .ok (.if_icmp .ne 7, 3) := by decide +kernel
theorem dX9_isIn_9 : decode cX9_isIn 9 = .ok (.iconst 1, 1) := by decide +kernel
theorem dX9_isIn_10 : decode cX9_isIn 10 = .ok (.goto 4, 3) := by decide +kernel
theorem dX9_isIn_13 : decode cX9_isIn 13 = .ok (.iconst 0, 1) := by decide +kernel
theorem dX9_isIn_14 : decode cX9_isIn 14 = .ok (.ireturn, 1) := by decide +kernel
theorem dX9_lesser_0 : decode cX9_lesser 0 = .ok (.iload_n 0, 1) := by decide +kernel
theorem dX9_lesser_1 : decode cX9_lesser 1 = .ok (.iload_n 1, 1) := by decide +kernel
theorem dX9_lesser_2 : decode cX9_lesser 2 = .ok (.if_icmp .ge 7, 3) := by decide +kernel
theorem dX9_lesser_5 : decode cX9_lesser 5 = .ok (.iload_n 0, 1) := by decide +kernel
theorem dX9_lesser_6 : decode cX9_lesser 6 = .ok (.goto 4, 3) := by decide +kernel
theorem dX9_lesser_9 : decode cX9_lesser 9 = .ok (.iload_n 1, 1) := by decide +kernel
theorem dX9_lesser_10 : decode cX9_lesser 10 = .ok (.ireturn, 1) := by decide +kernel
theorem dX9_amount_0 : decode cX9_amount 0 = .ok (.iload_n 0, 1) := by decide +kernel
theorem dX9_amount_1 : decode cX9_amount 1 = .ok (.ifCond .ge 8, 3) := by decide +kernel
theorem dX9_amount_4 : decode cX9_amount 4 = .ok (.iload_n 0, 1) := by decide +kernel
theorem dX9_amount_5 : decode cX9_amount 5 = .ok (.ineg, 1) := by decide +kernel
theorem dX9_amount_6 : decode cX9_amount 6 = .ok (.goto 4, 3) := by decide +kernel
theorem dX9_amount_9 : decode cX9_amount 9 = .ok (.iload_n 0, 1) := by decide +kernel
theorem dX9_amount_10 : decode cX9_amount 10 = .ok (.ireturn, 1) := by decide +kernel
theorem dX9_part_0 : decode cX9_part 0 = .ok (.lload_n 0, 1) := by decide +kernel
theorem dX9_part_1 : decode cX9_part 1 = .ok (.lstore 5, 2) := by decide +kernel
theorem dX9_part_3 : decode cX9_part 3 = .ok (.lload_n 2, 1) := by decide +kernel
theorem dX9_part_4 : decode cX9_part 4 = .ok (.lstore 7, 2) := by decide +kernel
theorem dX9_part_6 : decode cX9_part 6 = .ok (.lload 7, 2) := by decide +kernel
theorem dX9_part_8 : decode cX9_part 8 = .ok (.lconst 0, 1) := by decide +kernel
theorem dX9_part_9 : decode cX9_part 9 = .ok (.lcmp, 1) := by decide +kernel
theorem dX9_part_10 : decode cX9_part 10 = .ok (.ifCond .eq 21, 3) := by decide +kernel
theorem dX9_part_13 : decode cX9_part 13 = .ok (.lload 5, 2) := by decide +kernel
theorem dX9_part_15 : decode cX9_part 15 = .ok (.lload 7, 2) := by decide +kernel
theorem dX9_part_17 : decode cX9_part 17 = .ok (.lrem, 1) := by decide +kernel
theorem dX9_part_18 : decode cX9_part 18 = .ok (.lstore 9, 2) := by decide +kernel
theorem dX9_part_20 : decode cX9_part 20 = .ok (.lload 7, 2) := by decide +kernel
theorem dX9_part_22 : decode cX9_part 22 = .ok (.lstore 5, 2) := by decide +kernel
theorem dX9_part_24 : decode cX9_part 24 = .ok (.lload 9, 2) := by decide +kernel
theorem dX9_part_26 : decode cX9_part 26 = .ok (.lstore 7, 2) := by decide +kernel
theorem dX9_part_28 : decode cX9_part 28 = .ok (.goto (-22), 3) := by decide +kernel
theorem dX9_part_31 : decode cX9_part 31 = .ok (.iload 4, 2) := by decide +kernel
theorem dX9_part_33 : decode cX9_part 33 = .ok (.ifCond .ne 7, 3) := by decide +kernel
theorem dX9_part_36 : decode cX9_part 36 = .ok (.lload_n 0, 1) := by decide +kernel
theorem dX9_part_37 : decode cX9_part 37 = .ok (.goto 4, 3) := by decide +kernel
theorem dX9_part_40 : decode cX9_part 40 = .ok (.lload_n 2, 1) := by decide +kernel
theorem dX9_part_41 : decode cX9_part 41 = .ok (.lload 5, 2) := by decide +kernel
theorem dX9_part_43 : decode cX9_part 43 = .ok (.ldiv, 1) := by decide +kernel
theorem dX9_part_44 : decode cX9_part 44 = .ok (.lreturn, 1) := by decide +kernel
theorem dX9_finds_0 : decode cX9_finds 0 = .ok (.aload_n 0, 1) := by decide +kernel
theorem dX9_finds_1 : decode cX9_finds 1 = .ok (.iload_n 1, 1) := by decide +kernel
theorem dX9_finds_2 : decode cX9_finds 2 = .ok (.putfield 74, 3) := by decide +kernel
theorem dX9_finds_5 : decode cX9_finds 5 = .ok (.bipush (-10), 2) := by decide +kernel
theorem dX9_finds_7 : decode cX9_finds 7 = .ok (.iload_n 1, 1) := by decide +kernel
theorem dX9_finds_8 : decode cX9_finds 8 = .ok (.isub, 1) := by decide +kernel
theorem dX9_finds_9 : decode cX9_finds 9 = .ok (.ireturn, 1) := by decide +kernel
theorem dX9_isSheet_0 : decode cX9_isSheet 0 = .ok (.iload_n 0, 1) := by decide +kernel
theorem dX9_isSheet_1 : decode cX9_isSheet 1 = .ok (.i2l, 1) := by decide +kernel
theorem dX9_isSheet_2 : decode cX9_isSheet 2 = .ok (.lconst 0, 1) := by decide +kernel
theorem dX9_isSheet_3 : decode cX9_isSheet 3 = .ok (.ldc2_w 77, 3) := by decide +kernel
theorem dX9_isSheet_6 : decode cX9_isSheet 6 = .ok (.invokestatic 70, 3) := by decide +kernel
theorem dX9_isSheet_9 : decode cX9_isSheet 9 = .ok (.ireturn, 1) := by decide +kernel
theorem dX9_sheet_0 : decode cX9_sheet 0 = .ok (.iload_n 1, 1) := by decide +kernel
theorem dX9_sheet_1 : decode cX9_sheet 1 = .ok (.invokestatic 79, 3) := by decide +kernel
theorem dX9_sheet_4 : decode cX9_sheet 4 = .ok (.ifCond .eq 21, 3) := by decide +kernel
theorem dX9_sheet_7 : decode cX9_sheet 7 = .ok (.iload_n 2, 1) := by decide +kernel
theorem dX9_sheet_8 : decode cX9_sheet 8 = .ok (.i2l, 1) := by decide +kernel
theorem dX9_sheet_9 : decode cX9_sheet 9 = .ok (.lconst 0, 1) := by decide +kernel
theorem dX9_sheet_10 : decode cX9_sheet 10 = .ok (.ldc2_w 83, 3) := by decide +kernel
theorem dX9_sheet_13 : decode cX9_sheet 13 = .ok (.invokestatic 70, 3) := by decide +kernel
theorem dX9_sheet_16 : decode cX9_sheet 16 = .ok (.ifCond .eq 9, 3) := by decide +kernel
theorem dX9_sheet_19 : decode cX9_sheet 19 = .ok (.iload_n 3, 1) := by decide +kernel
theorem dX9_sheet_20 : decode cX9_sheet 20 = .ok (.bipush 60, 2) := by decide +kernel
theorem dX9_sheet_22 : decode cX9_sheet 22 = .ok (.if_icmp .le 6, 3) := by decide +kernel
theorem dX9_sheet_25 : decode cX9_sheet 25 = .ok (.bipush (-2), 2) := by decide +kernel
theorem dX9_sheet_27 : decode cX9_sheet 27 = .ok (.ireturn, 1) := by decide +kernel
theorem dX9_sheet_28 : decode cX9_sheet 28 = .ok (.iload_n 3, 1) := by decide +kernel
theorem dX9_sheet_29 : decode cX9_sheet 29 = .ok (.ifCond .ge 9, 3) := by decide +kernel
theorem dX9_sheet_32 : decode cX9_sheet 32 = .ok (.aload_n 0, 1) := by decide +kernel
theorem dX9_sheet_33 : decode cX9_sheet 33 = .ok (.iconst 5, 1) := by decide +kernel
theorem dX9_sheet_34 : decode cX9_sheet 34 = .ok (.invokevirtual 85, 3) := by decide +kernel
theorem dX9_sheet_37 : decode cX9_sheet 37 = .ok (.ireturn, 1) := by decide +kernel
theorem dX9_sheet_38 : decode cX9_sheet 38 = .ok (.aload_n 0, 1) := by decide +kernel
theorem dX9_sheet_39 : decode cX9_sheet 39 = .ok (.getfield 7, 3) := by decide +kernel
theorem dX9_sheet_42 : decode cX9_sheet 42 = .ok (.iload_n 1, 1) := by decide +kernel
theorem dX9_sheet_43 : decode cX9_sheet 43 = .ok (.iload_n 2, 1) := by decide +kernel
theorem dX9_sheet_44 : decode cX9_sheet 44 = .ok (.iastore, 1) := by decide +kernel
theorem dX9_sheet_45 : decode cX9_sheet 45 = .ok (.aload_n 0, 1) := by decide +kernel
theorem dX9_sheet_46 : decode cX9_sheet 46 = .ok (.getfield 13, 3) := by decide +kernel
theorem dX9_sheet_49 : decode cX9_sheet 49 = .ok (.iload_n 1, 1) := by decide +kernel
theorem dX9_sheet_50 : decode cX9_sheet 50 = .ok (.iload_n 3, 1) := by decide +kernel
theorem dX9_sheet_51 : decode cX9_sheet 51 = .ok (.iastore, 1) := by decide +kernel
theorem dX9_sheet_52 : decode cX9_sheet 52 = .ok (.iconst 0, 1) := by decide +kernel
theorem dX9_sheet_53 : decode cX9_sheet 53 = .ok (.istore 4, 2) := by decide +kernel
theorem dX9_sheet_55 : decode cX9_sheet 55 = .ok (.iload 4, 2) := by decide +kernel
theorem dX9_sheet_57 : decode cX9_sheet 57 = .ok (.iload_n 3, 1) := by decide +kernel
theorem dX9_sheet_58 : decode cX9_sheet 58 = .ok (.if_icmp .ge 22, 3) := by decide +kernel
theorem dX9_sheet_61 : decode cX9_sheet 61 = .ok (.aload_n 0, 1) := by decide +kernel
theorem dX9_sheet_62 : decode cX9_sheet 62 = .ok (.getfield 16, 3) := by decide +kernel
theorem dX9_sheet_65 : decode cX9_sheet 65 = .ok (.bipush 60, 2) := by decide +kernel
theorem dX9_sheet_67 : decode cX9_sheet 67 = .ok (.iload_n 1, 1) := by decide +kernel
theorem dX9_sheet_68 : decode cX9_sheet 68 = .ok (.imul, 1) := by decide +kernel
theorem dX9_sheet_69 : decode cX9_sheet 69 = .ok (.iload 4, 2) := by decide +kernel
theorem dX9_sheet_71 : decode cX9_sheet 71 = .ok (.iadd, 1) := by decide +kernel
theorem dX9_sheet_72 : decode cX9_sheet 72 = .ok (.iconst 0, 1) := by decide +kernel
theorem dX9_sheet_73 : decode cX9_sheet 73 = .ok (.iastore, 1) := by decide +kernel
theorem dX9_sheet_74 : decode cX9_sheet 74 = .ok (.iinc 4 1, 3) := by decide +kernel
