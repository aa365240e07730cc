theorem dX9_sheet_77 : decode cX9_sheet 77 = .ok (.goto (-22), 3) := by decide +kernel
theorem dX9_sheet_80 : decode cX9_sheet 80 = .ok (.iload_n 3, 1) := by decide +kernel
theorem dX9_sheet_81 : decode cX9_sheet 81 = .ok (.ireturn, 1) := by decide +kernel
theorem dX9_lose_0 : decode cX9_lose 0 = .ok (.iload_n 1, 1) := by decide +kernel
theorem dX9_lose_1 : decode cX9_lose 1 = .ok (.invokestatic 79, 3) := by decide +kernel
theorem dX9_lose_4 : decode cX9_lose 4 = .ok (.ifCond .ne 6, 3) := by decide +kernel
theorem dX9_lose_7 : decode cX9_lose 7 = .ok (.bipush (-2), 2) := by decide +kernel
theorem dX9_lose_9 : decode cX9_lose 9 = .ok (.ireturn, 1) := by decide +kernel
theorem dX9_lose_10 : decode cX9_lose 10 = .ok (.aload_n 0, 1) := by decide +kernel
theorem dX9_lose_11 : decode cX9_lose 11 = .ok (.getfield 7, 3) := by decide +kernel
theorem dX9_lose_14 : decode cX9_lose 14 = .ok (.iload_n 1, 1) := by decide +kernel
theorem dX9_lose_15 : decode cX9_lose 15 = .ok (.iaload, 1) := by decide +kernel
theorem dX9_lose_16 : decode cX9_lose 16 = .ok (.ifCond .ge 9, 3) := by decide +kernel
theorem dX9_lose_19 : decode cX9_lose 19 = .ok (.aload_n 0, 1) := by decide +kernel
theorem dX9_lose_20 : decode cX9_lose 20 = .ok (.iconst 1, 1) := by decide +kernel
theorem dX9_lose_21 : decode cX9_lose 21 = .ok (.invokevirtual 85, 3) := by decide +kernel
theorem dX9_lose_24 : decode cX9_lose 24 = .ok (.ireturn, 1) := by decide +kernel
theorem dX9_lose_25 : decode cX9_lose 25 = .ok (.aload_n 0, 1) := by decide +kernel
theorem dX9_lose_26 : decode cX9_lose 26 = .ok (.getfield 7, 3) := by decide +kernel
theorem dX9_lose_29 : decode cX9_lose 29 = .ok (.iload_n 1, 1) := by decide +kernel
theorem dX9_lose_30 : decode cX9_lose 30 = .ok (.iconst (-1), 1) := by decide +kernel
theorem dX9_lose_31 : decode cX9_lose 31 = .ok (.iastore, 1) := by decide +kernel
theorem dX9_lose_32 : decode cX9_lose 32 = .ok (.aload_n 0, 1) := by decide +kernel
theorem dX9_lose_33 : decode cX9_lose 33 = .ok (.getfield 13, 3) := by decide +kernel
theorem dX9_lose_36 : decode cX9_lose 36 = .ok (.iload_n 1, 1) := by decide +kernel
theorem dX9_lose_37 : decode cX9_lose 37 = .ok (.iaload, 1) := by decide +kernel
theorem dX9_lose_38 : decode cX9_lose 38 = .ok (.ireturn, 1) := by decide +kernel
theorem dX9_lacks_0 : decode cX9_lacks 0 = .ok (.aload_n 0, 1) := by decide +kernel
theorem dX9_lacks_1 : decode cX9_lacks 1 = .ok (.getfield 7, 3) := by decide +kernel
theorem dX9_lacks_4 : decode cX9_lacks 4 = .ok (.iload_n 1, 1) := by decide +kernel
theorem dX9_lacks_5 : decode cX9_lacks 5 = .ok (.iaload, 1) := by decide +kernel
theorem dX9_lacks_6 : decode cX9_lacks 6 = .ok (.ifCond .ge 9, 3) := by decide +kernel
theorem dX9_lacks_9 : decode cX9_lacks 9 = .ok (.aload_n 0, 1) := by decide +kernel
theorem dX9_lacks_10 : decode cX9_lacks 10 = .ok (.iconst 1, 1) := by decide +kernel
theorem dX9_lacks_11 : decode cX9_lacks 11 = .ok (.invokevirtual 85, 3) := by decide +kernel
theorem dX9_lacks_14 : decode cX9_lacks 14 = .ok (.ireturn, 1) := by decide +kernel
theorem dX9_lacks_15 : decode cX9_lacks 15 = .ok (.aload_n 0, 1) := by decide +kernel
theorem dX9_lacks_16 : decode cX9_lacks 16 = .ok (.getfield 7, 3) := by decide +kernel
theorem dX9_lacks_19 : decode cX9_lacks 19 = .ok (.iload_n 1, 1) := by decide +kernel
theorem dX9_lacks_20 : decode cX9_lacks 20 = .ok (.iaload, 1) := by decide +kernel
theorem dX9_lacks_21 : decode cX9_lacks 21 = .ok (.iload_n 2, 1) := by decide +kernel
theorem dX9_lacks_22 : decode cX9_lacks 22 = .ok (.if_icmp .eq 9, 3) := by decide +kernel
theorem dX9_lacks_25 : decode cX9_lacks 25 = .ok (.aload_n 0, 1) := by decide +kernel
theorem dX9_lacks_26 : decode cX9_lacks 26 = .ok (.iconst 3, 1) := by decide +kernel
theorem dX9_lacks_27 : decode cX9_lacks 27 = .ok (.invokevirtual 85, 3) := by decide +kernel
theorem dX9_lacks_30 : decode cX9_lacks 30 = .ok (.ireturn, 1) := by decide +kernel
theorem dX9_lacks_31 : decode cX9_lacks 31 = .ok (.iload_n 3, 1) := by decide +kernel
theorem dX9_lacks_32 : decode cX9_lacks 32 = .ok (.i2l, 1) := by decide +kernel
theorem dX9_lacks_33 : decode cX9_lacks 33 = .ok (.lconst 0, 1) := by decide +kernel
theorem dX9_lacks_34 : decode cX9_lacks 34 = .ok (.aload_n 0, 1) := by decide +kernel
theorem dX9_lacks_35 : decode cX9_lacks 35 = .ok (.getfield 13, 3) := by decide +kernel
theorem dX9_lacks_38 : decode cX9_lacks 38 = .ok (.iload_n 1, 1) := by decide +kernel
theorem dX9_lacks_39 : decode cX9_lacks 39 = .ok (.iaload, 1) := by decide +kernel
theorem dX9_lacks_40 : decode cX9_lacks 40 = .ok (.iconst 1, 1) := by decide +kernel
theorem dX9_lacks_41 : decode cX9_lacks 41 = .ok (.isub, 1) := by decide +kernel
theorem dX9_lacks_42 : decode cX9_lacks 42 = .ok (.i2l, 1) := by decide +kernel
theorem dX9_lacks_43 : decode cX9_lacks 43 = .ok (.invokestatic 70, 3) := by decide +kernel
theorem dX9_lacks_46 : decode cX9_lacks 46 = .ok (.ifCond .eq 7, 3) := by decide +kernel
theorem dX9_lacks_49 : decode cX9_lacks 49 = .ok (.iconst 0, 1) := by decide +kernel
theorem dX9_lacks_50 : decode cX9_lacks 50 = .ok (.goto 8, 3) := by decide +kernel
theorem dX9_lacks_53 : decode cX9_lacks 53 = .ok (.aload_n 0, 1) := by decide +kernel
theorem dX9_lacks_54 : decode cX9_lacks 54 = .ok (.iconst 2, 1) := by decide +kernel
theorem dX9_lacks_55 : decode cX9_lacks 55 = .ok (.invokevirtual 85, 3) := by decide +kernel
theorem dX9_lacks_58 : decode cX9_lacks 58 = .ok (.ireturn, 1) := by decide +kernel
theorem dX9_cut_0 : decode cX9_cut 0 = .ok (.iload_n 0, 1) := by decide +kernel
theorem dX9_cut_1 : decode cX9_cut 1 = .ok (.ifCond .ne 8, 3) := by decide +kernel
theorem dX9_cut_4 : decode cX9_cut 4 = .ok (.iload_n 1, 1) := by decide +kernel
theorem dX9_cut_5 : decode cX9_cut 5 = .ok (.i2b, 1) := by decide +kernel
theorem dX9_cut_6 : decode cX9_cut 6 = .ok (.goto 14, 3) := by decide +kernel
theorem dX9_cut_9 : decode cX9_cut 9 = .ok (.iload_n 0, 1) := by decide +kernel
theorem dX9_cut_10 : decode cX9_cut 10 = .ok (.iconst 1, 1) := by decide +kernel
theorem dX9_cut_11 : decode cX9_cut 11 = .ok (.if_icmp .ne 8, 3) := by decide +kernel
theorem dX9_cut_14 : decode cX9_cut 14 = .ok (.iload_n 1, 1) := by decide +kernel
theorem dX9_cut_15 : decode cX9_cut 15 = .ok (.i2s, 1) := by decide +kernel
theorem dX9_cut_16 : decode cX9_cut 16 = .ok (.goto 4, 3) := by decide +kernel
theorem dX9_cut_19 : decode cX9_cut 19 = .ok (.iload_n 1, 1) := by decide +kernel
theorem dX9_cut_20 : decode cX9_cut 20 = .ok (.ireturn, 1) := by decide +kernel
theorem dX9_lay_0 : decode cX9_lay 0 = .ok (.iload_n 1, 1) := by decide +kernel
theorem dX9_lay_1 : decode cX9_lay 1 = .ok (.invokestatic 79, 3) := by decide +kernel
theorem dX9_lay_4 : decode cX9_lay 4 = .ok (.ifCond .eq 15, 3) := by decide +kernel
theorem dX9_lay_7 : decode cX9_lay 7 = .ok (.iload_n 2, 1) := by decide +kernel
theorem dX9_lay_8 : decode cX9_lay 8 = .ok (.i2l, 1) := by decide +kernel
theorem dX9_lay_9 : decode cX9_lay 9 = .ok (.lconst 0, 1) := by decide +kernel
theorem dX9_lay_10 : decode cX9_lay 10 = .ok (.ldc2_w 83, 3) := by decide +kernel
theorem dX9_lay_13 : decode cX9_lay 13 = .ok (.invokestatic 70, 3) := by decide +kernel
theorem dX9_lay_16 : decode cX9_lay 16 = .ok (.ifCond .ne 6, 3) := by decide +kernel
theorem dX9_lay_19 : decode cX9_lay 19 = .ok (.bipush (-2), 2) := by decide +kernel
theorem dX9_lay_21 : decode cX9_lay 21 = .ok (.ireturn, 1) := by decide +kernel
theorem dX9_lay_22 : decode cX9_lay 22 = .ok (.aload_n 0, 1) := by decide +kernel
theorem dX9_lay_23 : decode cX9_lay 23 = .ok (.iload_n 1, 1) := by decide +kernel
theorem dX9_lay_24 : decode cX9_lay 24 = .ok (.iload_n 2, 1) := by decide +kernel
theorem dX9_lay_25 : decode cX9_lay 25 = .ok (.iload_n 3, 1) := by decide +kernel
theorem dX9_lay_26 : decode cX9_lay 26 = .ok (.invokevirtual 89, 3) := by decide +kernel
theorem dX9_lay_29 : decode cX9_lay 29 = .ok (.istore 5, 2) := by decide +kernel
theorem dX9_lay_31 : decode cX9_lay 31 = .ok (.iload 5, 2) := by decide +kernel
theorem dX9_lay_33 : decode cX9_lay 33 = .ok (.ifCond .eq 6, 3) := by decide +kernel
theorem dX9_lay_36 : decode cX9_lay 36 = .ok (.iload 5, 2) := by decide +kernel
theorem dX9_lay_38 : decode cX9_lay 38 = .ok (.ireturn, 1) := by decide +kernel
theorem dX9_lay_39 : decode cX9_lay 39 = .ok (.aload_n 0, 1) := by decide +kernel
theorem dX9_lay_40 : decode cX9_lay 40 = .ok (.getfield 16, 3) := by decide +kernel
theorem dX9_lay_43 : decode cX9_lay 43 = .ok (.bipush 60, 2) := by decide +kernel
theorem dX9_lay_45 : decode cX9_lay 45 = .ok (.iload_n 1, 1) := by decide +kernel
theorem dX9_lay_46 : decode cX9_lay 46 = .ok (.imul, 1) := by decide +kernel
theorem dX9_lay_47 : decode cX9_lay 47 = .ok (.iload_n 3, 1) := by decide +kernel
theorem dX9_lay_48 : decode cX9_lay 48 = .ok (.iadd, 1) := by decide +kernel
theorem dX9_lay_49 : decode cX9_lay 49 = .ok (.iload_n 2, 1) := by decide +kernel
theorem dX9_lay_50 : decode cX9_lay 50 = .ok (.iload 4, 2) := by decide +kernel
theorem dX9_lay_52 : decode cX9_lay 52 = .ok (.invokestatic 93, 3) := by decide +kernel
theorem dX9_lay_55 : decode cX9_lay 55 = .ok (.iastore, 1) := by decide +kernel
theorem dX9_lay_56 : decode cX9_lay 56 = .ok (.iconst 1, 1) := by decide +kernel
theorem dX9_lay_57 : decode cX9_lay 57 = .ok (.ireturn, 1) := by decide +kernel
theorem dX9_get_0 : decode cX9_get 0 = .ok (.iload_n 1, 1) := by decide +kernel
theorem dX9_get_1 : decode cX9_get 1 = .ok (.invokestatic 79, 3) := by decide +kernel
theorem dX9_get_4 : decode cX9_get 4 = .ok (.ifCond .eq 25, 3) := by decide +kernel
theorem dX9_get_7 : decode cX9_get 7 = .ok (.iload_n 2, 1) := by decide +kernel
theorem dX9_get_8 : decode cX9_get 8 = .ok (.i2l, 1) := by decide +kernel
theorem dX9_get_9 : decode cX9_get 9 = .ok (.lconst 0, 1) := by decide +kernel
theorem dX9_get_10 : decode cX9_get 10 = .ok (.ldc2_w 83, 3) := by decide +kernel
theorem dX9_get_13 : decode cX9_get 13 = .ok (.invokestatic 70, 3) := by decide +kernel
theorem dX9_get_16 : decode cX9_get 16 = .ok (.ifCond .eq 13, 3) := by decide +kernel
theorem dX9_get_19 : decode cX9_get 19 = .ok (.aload_n 0, 1) := by decide +kernel
theorem dX9_get_20 : decode cX9_get 20 = .ok (.iload_n 1, 1) := by decide +kernel
theorem dX9_get_21 : decode cX9_get 21 = .ok (.iload_n 2, 1) := by decide +kernel
theorem dX9_get_22 : decode cX9_get 22 = .ok (.iload_n 3, 1) := by decide +kernel
theorem dX9_get_23 : decode cX9_get 23 = .ok (.invokevirtual 89, 3) := by decide +kernel
theorem dX9_get_26 : decode cX9_get 26 = .ok (.ifCond .eq 6, 3) := by decide +kernel
theorem dX9_get_29 : decode cX9_get 29 = .ok (.ldc 97, 2) := by decide +kernel
theorem dX9_get_31 : decode cX9_get 31 = .ok (.ireturn, 1) := by decide +kernel
theorem dX9_get_32 : decode cX9_get 32 = .ok (.aload_n 0, 1) := by decide +kernel
theorem dX9_get_33 : decode cX9_get 33 = .ok (.getfield 16, 3) := by decide +kernel
theorem dX9_get_36 : decode cX9_get 36 = .ok (.bipush 60, 2) := by decide +kernel
theorem dX9_get_38 : decode cX9_get 38 = .ok (.iload_n 1, 1) := by decide +kernel
theorem dX9_get_39 : decode cX9_get 39 = .ok (.imul, 1) := by decide +kernel
theorem dX9_get_40 : decode cX9_get 40 = .ok (.iload_n 3, 1) := by decide +kernel
theorem dX9_get_41 : decode cX9_get 41 = .ok (.iadd, 1) := by decide +kernel
theorem dX9_get_42 : decode cX9_get 42 = .ok (.iaload, 1) := by decide +kernel
theorem dX9_get_43 : decode cX9_get 43 = .ok (.ireturn, 1) := by decide +kernel
theorem dX9_copy_0 : decode cX9_copy 0 = .ok (.iload_n 1, 1) := by decide +kernel
theorem dX9_copy_1 : decode cX9_copy 1 = .ok (.invokestatic 79, 3) := by decide +kernel
theorem dX9_copy_4 : decode cX9_copy 4 = .ok (.ifCond .eq 10, 3) := by decide +kernel
theorem dX9_copy_7 : decode cX9_copy 7 = .ok (.iload_n 3, 1) := by decide +kernel
theorem dX9_copy_8 : decode cX9_copy 8 = .ok (.invokestatic 79, 3) := by decide +kernel
theorem dX9_copy_11 : decode cX9_copy 11 = .ok (.ifCond .ne 6, 3) := by decide +kernel
theorem dX9_copy_14 : decode cX9_copy 14 = .ok (.bipush (-2), 2) := by decide +kernel
theorem dX9_copy_16 : decode cX9_copy 16 = .ok (.ireturn, 1) := by decide +kernel
theorem dX9_copy_17 : decode cX9_copy 17 = .ok (.aload_n 0, 1) := by decide +kernel
theorem dX9_copy_18 : decode cX9_copy 18 = .ok (.getfield 7, 3) := by decide +kernel
theorem dX9_copy_21 : decode cX9_copy 21 = .ok (.iload_n 1, 1) := by decide +kernel
theorem dX9_copy_22 : decode cX9_copy 22 = .ok (.iaload, 1) := by decide +kernel
theorem dX9_copy_23 : decode cX9_copy 23 = .ok (.ifCond .lt 12, 3) := by decide +kernel
theorem dX9_copy_26 : decode cX9_copy 26 = .ok (.aload_n 0, 1) := by decide +kernel
theorem dX9_copy_27 : decode cX9_copy 27 = .ok (.getfield 7, 3) := by decide +kernel
theorem dX9_copy_30 : decode cX9_copy 30 = .ok (.iload_n 3, 1) := by decide +kernel
theorem dX9_copy_31 : decode cX9_copy 31 = .ok (.iaload, 1) := by decide +kernel
theorem dX9_copy_32 : decode cX9_copy 32 = .ok (.ifCond .ge 9, 3) := by decide +kernel
theorem dX9_copy_35 : decode cX9_copy 35 = .ok (.aload_n 0, 1) := by decide +kernel
theorem dX9_copy_36 : decode cX9_copy 36 = .ok (.iconst 1, 1) := by decide +kernel
theorem dX9_copy_37 : decode cX9_copy 37 = .ok (.invokevirtual 85, 3) := by decide +kernel
theorem dX9_copy_40 : decode cX9_copy 40 = .ok (.ireturn, 1) := by decide +kernel
theorem dX9_copy_41 : decode cX9_copy 41 = .ok (.aload_n 0, 1) := by decide +kernel
theorem dX9_copy_42 : decode cX9_copy 42 = .ok (.getfield 7, 3) := by decide +kernel
theorem dX9_copy_45 : decode cX9_copy 45 = .ok (.iload_n 1, 1) := by decide +kernel
theorem dX9_copy_46 : decode cX9_copy 46 = .ok (.iaload, 1) := by decide +kernel
theorem dX9_copy_47 : decode cX9_copy 47 = .ok (.aload_n 0, 1) := by decide +kernel
theorem dX9_copy_48 : decode cX9_copy 48 = .ok (.getfield 7, 3) := by decide +kernel
theorem dX9_copy_51 : decode cX9_copy 51 = .ok (.iload_n 3, 1) := by decide +kernel
theorem dX9_copy_52 : decode cX9_copy 52 = .ok (.iaload, 1) := by decide +kernel
theorem dX9_copy_53 : decode cX9_copy 53 = .ok (.if_icmp .eq 9, 3) := by decide +kernel
theorem dX9_copy_56 : decode cX9_copy 56 = .ok (.aload_n 0, 1) := by decide +kernel
theorem dX9_copy_57 : decode cX9_copy 57 = .ok (.iconst 4, 1) := by decide +kernel
theorem dX9_copy_58 : decode cX9_copy 58 = .ok (.invokevirtual 85, 3) := by decide +kernel
theorem dX9_copy_61 : decode cX9_copy 61 = .ok (.ireturn, 1) := by decide +kernel
theorem dX9_copy_62 : decode cX9_copy 62 = .ok (.iload_n 2, 1) := by decide +kernel
theorem dX9_copy_63 : decode cX9_copy 63 = .ok (.ifCond .lt 48, 3) := by decide +kernel
theorem dX9_copy_66 : decode cX9_copy 66 = .ok (.iload 4, 2) := by decide +kernel
theorem dX9_copy_68 : decode cX9_copy 68 = .ok (.ifCond .lt 43, 3) := by decide +kernel
theorem dX9_copy_71 : decode cX9_copy 71 = .ok (.iload 5, 2) := by decide +kernel
theorem dX9_copy_73 : decode cX9_copy 73 = .ok (.ifCond .lt 38, 3) := by decide +kernel
theorem dX9_copy_76 : decode cX9_copy 76 = .ok (.iload_n 2, 1) := by decide +kernel
theorem dX9_copy_77 : decode cX9_copy 77 = .ok (.i2l, 1) := by decide +kernel
theorem dX9_copy_78 : decode cX9_copy 78 = .ok (.iload 5, 2) := by decide +kernel
theorem dX9_copy_80 : decode cX9_copy 80 = .ok (.i2l, 1) := by decide +kernel
theorem dX9_copy_81 : decode cX9_copy 81 = .ok (.ladd, 1) := by decide +kernel
theorem dX9_copy_82 : decode cX9_copy 82 = .ok (.aload_n 0, 1) := by decide +kernel
theorem dX9_copy_83 : decode cX9_copy 83 = .ok (.getfield 13, 3) := by decide +kernel
theorem dX9_copy_86 : decode cX9_copy 86 = .ok (.iload_n 1, 1) := by decide +kernel
theorem dX9_copy_87 : decode cX9_copy 87 = .ok (.iaload, 1) := by decide +kernel
theorem dX9_copy_88 : decode cX9_copy 88 = .ok (.i2l, 1) := by decide +kernel
theorem dX9_copy_89 : decode cX9_copy 89 = .ok (.lcmp, 1) := by decide +kernel
theorem dX9_copy_90 : decode cX9_copy 90 = .ok (.ifCond .gt 21, 3) := by decide +kernel
theorem dX9_copy_93 : decode cX9_copy 93 = .ok (.iload 4, 2) := by decide +kernel
theorem dX9_copy_95 : decode cX9_copy 95 = .ok (.i2l, 1) := by decide +kernel
theorem dX9_copy_96 : decode cX9_copy 96 = .ok (.iload 5, 2) := by decide +kernel
theorem dX9_copy_98 : decode cX9_copy 98 = .ok (.i2l, 1) := by decide +kernel
theorem dX9_copy_99 : decode cX9_copy 99 = .ok (.ladd, 1) := by decide +kernel
theorem dX9_copy_100 : decode cX9_copy 100 = .ok (.aload_n 0, 1) := by decide +kernel
theorem dX9_copy_101 : decode cX9_copy 101 = .ok (.getfield 13, 3) := by decide +kernel
theorem dX9_copy_104 : decode cX9_copy 104 = .ok (.iload_n 3, 1) := by decide +kernel
theorem dX9_copy_105 : decode cX9_copy 105 = .ok (.iaload, 1) := by decide +kernel
theorem dX9_copy_106 : decode cX9_copy 106 = .ok (.i2l, 1) := by decide +kernel
theorem dX9_copy_107 : decode cX9_copy 107 = .ok (.lcmp, 1) := by decide +kernel
theorem dX9_copy_108 : decode cX9_copy 108 = .ok (.ifCond .le 9, 3) := by decide +kernel
theorem dX9_copy_111 : decode cX9_copy 111 = .ok (.aload_n 0, 1) := by decide +kernel
theorem dX9_copy_112 : decode cX9_copy 112 = .ok (.iconst 2, 1) := by decide +kernel
theorem dX9_copy_113 : decode cX9_copy 113 = .ok (.invokevirtual 85, 3) := by decide +kernel
theorem dX9_copy_116 : decode cX9_copy 116 = .ok (.ireturn, 1) := by decide +kernel
theorem dX9_copy_117 : decode cX9_copy 117 = .ok (.iconst 0, 1) := by decide +kernel
theorem dX9_copy_118 : decode cX9_copy 118 = .ok (.istore 6, 2) := by decide +kernel
theorem dX9_copy_120 : decode cX9_copy 120 = .ok (.iload 6, 2) := by decide +kernel
theorem dX9_copy_122 : decode cX9_copy 122 = .ok (.iload 5, 2) := by decide +kernel
theorem dX9_copy_124 : decode cX9_copy 124 = .ok (.if_icmp .ge 30, 3) := by decide +kernel
theorem dX9_copy_127 : decode cX9_copy 127 = .ok (.aload_n 0, 1) := by decide +kernel
theorem dX9_copy_128 : decode cX9_copy 128 = .ok (.getfield 19, 3) := by decide +kernel
theorem dX9_copy_131 : decode cX9_copy 131 = .ok (.iload 6, 2) := by decide +kernel
theorem dX9_copy_133 : decode cX9_copy 133 = .ok (.aload_n 0, 1) := by decide +kernel
theorem dX9_copy_134 : decode cX9_copy 134 = .ok (.getfield 16, 3) := by decide +kernel
theorem dX9_copy_137 : decode cX9_copy 137 = .ok (.bipush 60, 2) := by decide +kernel
theorem dX9_copy_139 : decode cX9_copy 139 = .ok (.iload_n 1, 1) := by decide +kernel
theorem dX9_copy_140 : decode cX9_copy 140 = .ok (.imul, 1) := by decide +kernel
theorem dX9_copy_141 : decode cX9_copy 141 = .ok (.iload_n 2, 1) := by decide +kernel
theorem dX9_copy_142 : decode cX9_copy 142 = .ok (.iadd, 1) := by decide +kernel
theorem dX9_copy_143 : decode cX9_copy 143 = .ok (.iload 6, 2) := by decide +kernel
theorem dX9_copy_145 : decode cX9_copy 145 = .ok (.iadd, 1) := by decide +kernel
theorem dX9_copy_146 : decode cX9_copy 146 = .ok (.iaload, 1) := by decide +kernel
theorem dX9_copy_147 : decode cX9_copy 147 = .ok (.iastore, 1) := by decide +kernel
theorem dX9_copy_148 : decode cX9_copy 148 = .ok (.iinc 6 1, 3) := by decide +kernel
theorem dX9_copy_151 : decode cX9_copy 151 = .ok (.goto (-31), 3) := by decide +kernel
theorem dX9_copy_154 : decode cX9_copy 154 = .ok (.iconst 0, 1) := by decide +kernel
theorem dX9_copy_155 : decode cX9_copy 155 = .ok (.istore 6, 2) := by decide +kernel
theorem dX9_copy_157 : decode cX9_copy 157 = .ok (.iload 6, 2) := by decide +kernel
theorem dX9_copy_159 : decode cX9_copy 159 = .ok (.iload 5, 2) := by decide +kernel
theorem dX9_copy_161 : decode cX9_copy 161 = .ok (.if_icmp .ge 31, 3) := by decide +kernel
theorem dX9_copy_164 : decode cX9_copy 164 = .ok (.aload_n 0, 1) := by decide +kernel
theorem dX9_copy_165 : decode cX9_copy 165 = .ok (.getfield 16, 3) := by decide +kernel
theorem dX9_copy_168 : decode cX9_copy 168 = .ok (.bipush 60, 2) := by decide +kernel
theorem dX9_copy_170 : decode cX9_copy 170 = .ok (.iload_n 3, 1) := by decide +kernel
theorem dX9_copy_171 : decode cX9_copy 171 = .ok (.imul, 1) := by decide +kernel
theorem dX9_copy_172 : decode cX9_copy 172 = .ok (.iload 4, 2) := by decide +kernel
theorem dX9_copy_174 : decode cX9_copy 174 = .ok (.iadd, 1) := by decide +kernel
theorem dX9_copy_175 : decode cX9_copy 175 = .ok (.iload 6, 2) := by decide +kernel
theorem dX9_copy_177 : decode cX9_copy 177 = .ok (.iadd, 1) := by decide +kernel
theorem dX9_copy_178 : decode cX9_copy 178 = .ok (.aload_n 0, 1) := by decide +kernel
theorem dX9_copy_179 : decode cX9_copy 179 = .ok (.getfield 19, 3) := by decide +kernel
theorem dX9_copy_182 : decode cX9_copy 182 = .ok (.iload 6, 2) := by decide +kernel
theorem dX9_copy_184 : decode cX9_copy 184 = .ok (.iaload, 1) := by decide +kernel
theorem dX9_copy_185 : decode cX9_copy 185 = .ok (.iastore, 1) := by decide +kernel
theorem dX9_copy_186 : decode cX9_copy 186 = .ok (.iinc 6 1, 3) := by decide +kernel
theorem dX9_copy_189 : decode cX9_copy 189 = .ok (.goto (-32), 3) := by decide +kernel
theorem dX9_copy_192 : decode cX9_copy 192 = .ok (.iconst 1, 1) := by decide +kernel
theorem dX9_copy_193 : decode cX9_copy 193 = .ok (.ireturn, 1) := by decide +kernel
theorem dX9_type_0 : decode cX9_type 0 = .ok (.iload_n 1, 1) := by decide +kernel
theorem dX9_type_1 : decode cX9_type 1 = .ok (.invokestatic 98, 3) := by decide +kernel
theorem dX9_type_4 : decode cX9_type 4 = .ok (.ifCond .eq 15, 3) := by decide +kernel
theorem dX9_type_7 : decode cX9_type 7 = .ok (.iload_n 2, 1) := by decide +kernel
theorem dX9_type_8 : decode cX9_type 8 = .ok (.i2l, 1) := by decide +kernel
theorem dX9_type_9 : decode cX9_type 9 = .ok (.lconst 0, 1) := by decide +kernel
theorem dX9_type_10 : decode cX9_type 10 = .ok (.ldc2_w 101, 3) := by decide +kernel
theorem dX9_type_13 : decode cX9_type 13 = .ok (.invokestatic 70, 3) := by decide +kernel
theorem dX9_type_16 : decode cX9_type 16 = .ok (.ifCond .ne 6, 3) := by decide +kernel
theorem dX9_type_19 : decode cX9_type 19 = .ok (.bipush (-2), 2) := by decide +kernel
theorem dX9_type_21 : decode cX9_type 21 = .ok (.ireturn, 1) := by decide +kernel
theorem dX9_type_22 : decode cX9_type 22 = .ok (.aload_n 0, 1) := by decide +kernel
theorem dX9_type_23 : decode cX9_type 23 = .ok (.getfield 25, 3) := by decide +kernel
theorem dX9_type_26 : decode cX9_type 26 = .ok (.iload_n 1, 1) := by decide +kernel
theorem dX9_type_27 : decode cX9_type 27 = .ok (.iaload, 1) := by decide +kernel
theorem dX9_type_28 : decode cX9_type 28 = .ok (.iload_n 1, 1) := by decide +kernel
theorem dX9_type_29 : decode cX9_type 29 = .ok (.ifCond .ne 8, 3) := by decide +kernel
theorem dX9_type_32 : decode cX9_type 32 = .ok (.bipush 24, 2) := by decide +kernel
theorem dX9_type_34 : decode cX9_type 34 = .ok (.goto 5, 3) := by decide +kernel
theorem dX9_type_37 : decode cX9_type 37 = .ok (.bipush 44, 2) := by decide +kernel
theorem dX9_type_39 : decode cX9_type 39 = .ok (.if_icmp .ne 6, 3) := by decide +kernel
theorem dX9_type_42 : decode cX9_type 42 = .ok (.bipush (-4), 2) := by decide +kernel
theorem dX9_type_44 : decode cX9_type 44 = .ok (.ireturn, 1) := by decide +kernel
theorem dX9_type_45 : decode cX9_type 45 = .ok (.aload_n 0, 1) := by decide +kernel
theorem dX9_type_46 : decode cX9_type 46 = .ok (.getfield 22, 3) := by decide +kernel
theorem dX9_type_49 : decode cX9_type 49 = .ok (.bipush 44, 2) := by decide +kernel
theorem dX9_type_51 : decode cX9_type 51 = .ok (.iload_n 1, 1) := by decide +kernel
theorem dX9_type_52 : decode cX9_type 52 = .ok (.imul, 1) := by decide +kernel
theorem dX9_type_53 : decode cX9_type 53 = .ok (.aload_n 0, 1) := by decide +kernel
theorem dX9_type_54 : decode cX9_type 54 = .ok (.getfield 25, 3) := by decide +kernel
theorem dX9_type_57 : decode cX9_type 57 = .ok (.iload_n 1, 1) := by decide +kernel
theorem dX9_type_58 : decode cX9_type 58 = .ok (.iaload, 1) := by decide +kernel
theorem dX9_type_59 : decode cX9_type 59 = .ok (.iadd, 1) := by decide +kernel
theorem dX9_type_60 : decode cX9_type 60 = .ok (.iload_n 2, 1) := by decide +kernel
theorem dX9_type_61 : decode cX9_type 61 = .ok (.iastore, 1) := by decide +kernel
theorem dX9_type_62 : decode cX9_type 62 = .ok (.aload_n 0, 1) := by decide +kernel
theorem dX9_type_63 : decode cX9_type 63 = .ok (.getfield 25, 3) := by decide +kernel
theorem dX9_type_66 : decode cX9_type 66 = .ok (.iload_n 1, 1) := by decide +kernel
theorem dX9_type_67 : decode cX9_type 67 = .ok (.dup2, 1) := by decide +kernel
theorem dX9_type_68 : decode cX9_type 68 = .ok (.iaload, 1) := by decide +kernel
theorem dX9_type_69 : decode cX9_type 69 = .ok (.iconst 1, 1) := by decide +kernel
theorem dX9_type_70 : decode cX9_type 70 = .ok (.iadd, 1) := by decide +kernel
theorem dX9_type_71 : decode cX9_type 71 = .ok (.iastore, 1) := by decide +kernel
theorem dX9_type_72 : decode cX9_type 72 = .ok (.aload_n 0, 1) := by decide +kernel
theorem dX9_type_73 : decode cX9_type 73 = .ok (.getfield 25, 3) := by decide +kernel
theorem dX9_type_76 : decode cX9_type 76 = .ok (.iload_n 1, 1) := by decide +kernel
theorem dX9_type_77 : decode cX9_type 77 = .ok (.iaload, 1) := by decide +kernel
theorem dX9_type_78 : decode cX9_type 78 = .ok (.ireturn, 1) := by decide +kernel
theorem dX9_wipe_0 : decode cX9_wipe 0 = .ok (.iload_n 1, 1) := by decide +kernel
theorem dX9_wipe_1 : decode cX9_wipe 1 = .ok (.invokestatic 98, 3) := by decide +kernel
theorem dX9_wipe_4 : decode cX9_wipe 4 = .ok (.ifCond .ne 6, 3) := by decide +kernel
theorem dX9_wipe_7 : decode cX9_wipe 7 = .ok (.bipush (-2), 2) := by decide +kernel
theorem dX9_wipe_9 : decode cX9_wipe 9 = .ok (.ireturn, 1) := by decide +kernel
theorem dX9_wipe_10 : decode cX9_wipe 10 = .ok (.aload_n 0, 1) := by decide +kernel
theorem dX9_wipe_11 : decode cX9_wipe 11 = .ok (.getfield 25, 3) := by decide +kernel
theorem dX9_wipe_14 : decode cX9_wipe 14 = .ok (.iload_n 1, 1) := by decide +kernel
theorem dX9_wipe_15 : decode cX9_wipe 15 = .ok (.iaload, 1) := by decide +kernel
theorem dX9_wipe_16 : decode cX9_wipe 16 = .ok (.istore_n 2, 1) := by decide +kernel
theorem dX9_wipe_17 : decode cX9_wipe 17 = .ok (.aload_n 0, 1) := by decide +kernel
theorem dX9_wipe_18 : decode cX9_wipe 18 = .ok (.getfield 25, 3) := by decide +kernel
theorem dX9_wipe_21 : decode cX9_wipe 21 = .ok (.iload_n 1, 1) := by decide +kernel
theorem dX9_wipe_22 : decode cX9_wipe 22 = .ok (.iconst 0, 1) := by decide +kernel
theorem dX9_wipe_23 : decode cX9_wipe 23 = .ok (.iastore, 1) := by decide +kernel
theorem dX9_wipe_24 : decode cX9_wipe 24 = .ok (.iload_n 2, 1) := by decide +kernel
theorem dX9_wipe_25 : decode cX9_wipe 25 = .ok (.ireturn, 1) := by decide +kernel
theorem dX9_undo_0 : decode cX9_undo 0 = .ok (.iload_n 1, 1) := by decide +kernel
theorem dX9_undo_1 : decode cX9_undo 1 = .ok (.invokestatic 98, 3) := by decide +kernel
theorem dX9_undo_4 : decode cX9_undo 4 = .ok (.ifCond .ne 6, 3) := by decide +kernel
theorem dX9_undo_7 : decode cX9_undo 7 = .ok (.bipush (-2), 2) := by decide +kernel
theorem dX9_undo_9 : decode cX9_undo 9 = .ok (.ireturn, 1) := by decide +kernel
theorem dX9_undo_10 : decode cX9_undo 10 = .ok (.aload_n 0, 1) := by decide +kernel
theorem dX9_undo_11 : decode cX9_undo 11 = .ok (.getfield 25, 3) := by decide +kernel
theorem dX9_undo_14 : decode cX9_undo 14 = .ok (.iload_n 1, 1) := by decide +kernel
theorem dX9_undo_15 : decode cX9_undo 15 = .ok (.iaload, 1) := by decide +kernel
theorem dX9_undo_16 : decode cX9_undo 16 = .ok (.ifCond .ne 6, 3) := by decide +kernel
theorem dX9_undo_19 : decode cX9_undo 19 = .ok (.bipush (-3), 2) := by decide +kernel
theorem dX9_undo_21 : decode cX9_undo 21 = .ok (.ireturn, 1) := by decide +kernel
theorem dX9_undo_22 : decode cX9_undo 22 = .ok (.aload_n 0, 1) := by decide +kernel
theorem dX9_undo_23 : decode cX9_undo 23 = .ok (.getfield 25, 3) := by decide +kernel
theorem dX9_undo_26 : decode cX9_undo 26 = .ok (.iload_n 1, 1) := by decide +kernel
theorem dX9_undo_27 : decode cX9_undo 27 = .ok (.dup2, 1) := by decide +kernel
theorem dX9_undo_28 : decode cX9_undo 28 = .ok (.iaload, 1) := by decide +kernel
theorem dX9_undo_29 : decode cX9_undo 29 = .ok (.iconst 1, 1) := by decide +kernel
theorem dX9_undo_30 : decode cX9_undo 30 = .ok (.isub, 1) := by decide +kernel
theorem dX9_undo_31 : decode cX9_undo 31 = .ok (.iastore, 1) := by decide +kernel
theorem dX9_undo_32 : decode cX9_undo 32 = .ok (.aload_n 0, 1) := by decide +kernel
theorem dX9_undo_33 : decode cX9_undo 33 = .ok (.getfield 25, 3) := by decide +kernel
theorem dX9_undo_36 : decode cX9_undo 36 = .ok (.iload_n 1, 1) := by decide +kernel
theorem dX9_undo_37 : decode cX9_undo 37 = .ok (.iaload, 1) := by decide +kernel
theorem dX9_undo_38 : decode cX9_undo 38 = .ok (.ireturn, 1) := by decide +kernel
theorem dX9_readsPlay_0 : decode cX9_readsPlay 0 = .ok (.aload_n 0, 1) := by decide +kernel
theorem dX9_readsPlay_1 : decode cX9_readsPlay 1 = .ok (.iconst 0, 1) := by decide +kernel
theorem dX9_readsPlay_2 : decode cX9_readsPlay 2 = .ok (.putfield 103, 3) := by decide +kernel
theorem dX9_readsPlay_5 : decode cX9_readsPlay 5 = .ok (.iconst 0, 1) := by decide +kernel
theorem dX9_readsPlay_6 : decode cX9_readsPlay 6 = .ok (.istore_n 1, 1) := by decide +kernel
theorem dX9_readsPlay_7 : decode cX9_readsPlay 7 = .ok (.iload_n 1, 1) := by decide +kernel
theorem dX9_readsPlay_8 : decode cX9_readsPlay 8 = .ok (.aload_n 0, 1) := by decide +kernel
theorem dX9_readsPlay_9 : decode cX9_readsPlay 9 = .ok (.getfield 25, 3) := by decide +kernel
theorem dX9_readsPlay_12 : decode cX9_readsPlay 12 = .ok (.iconst 0, 1) := by decide +kernel
theorem dX9_readsPlay_13 : decode cX9_readsPlay 13 = .ok (.iaload, 1) := by decide +kernel
theorem dX9_readsPlay_14 : decode cX9_readsPlay 14 = .ok (.if_icmp .ge 60, 3) := by decide +kernel
theorem dX9_readsPlay_17 : decode cX9_readsPlay 17 = .ok (.aload_n 0, 1) := by decide +kernel
theorem dX9_readsPlay_18 : decode cX9_readsPlay 18 = .ok (.getfield 22, 3) := by decide +kernel
theorem dX9_readsPlay_21 : decode cX9_readsPlay 21 = .ok (.iload_n 1, 1) := by decide +kernel
theorem dX9_readsPlay_22 : decode cX9_readsPlay 22 = .ok (.iaload, 1) := by decide +kernel
theorem dX9_readsPlay_23 : decode cX9_readsPlay 23 = .ok (.i2l, 1) := by decide +kernel
theorem dX9_readsPlay_24 : decode cX9_readsPlay 24 = .ok (.ldc2_w 106, 3) := by decide +kernel
theorem dX9_readsPlay_27 : decode cX9_readsPlay 27 = .ok (.ldc2_w 108, 3) := by decide +kernel
theorem dX9_readsPlay_30 : decode cX9_readsPlay 30 = .ok (.invokestatic 70, 3) := by decide +kernel
theorem dX9_readsPlay_33 : decode cX9_readsPlay 33 = .ok (.ifCond .ne 10, 3) := by decide +kernel
theorem dX9_readsPlay_36 : decode cX9_readsPlay 36 = .ok (.aload_n 0, 1) := by decide +kernel
theorem dX9_readsPlay_37 : decode cX9_readsPlay 37 = .ok (.iconst 0, 1) := by decide +kernel
theorem dX9_readsPlay_38 : decode cX9_readsPlay 38 = .ok (.putfield 103, 3) := by decide +kernel
theorem dX9_readsPlay_41 : decode cX9_readsPlay 41 = .ok (.iload_n 1, 1) := by decide +kernel
theorem dX9_readsPlay_42 : decode cX9_readsPlay 42 = .ok (.ireturn, 1) := by decide +kernel
theorem dX9_readsPlay_43 : decode cX9_readsPlay 43 = .ok (.aload_n 0, 1) := by decide +kernel
theorem dX9_readsPlay_44 : decode cX9_readsPlay 44 = .ok (.getfield 28, 3) := by decide +kernel
theorem dX9_readsPlay_47 : decode cX9_readsPlay 47 = .ok (.iload_n 1, 1) := by decide +kernel
theorem dX9_readsPlay_48 : decode cX9_readsPlay 48 = .ok (.aload_n 0, 1) := by decide +kernel
theorem dX9_readsPlay_49 : decode cX9_readsPlay 49 = .ok (.getfield 22, 3) := by decide +kernel
theorem dX9_readsPlay_52 : decode cX9_readsPlay 52 = .ok (.iload_n 1, 1) := by decide +kernel
theorem dX9_readsPlay_53 : decode cX9_readsPlay 53 = .ok (.iaload, 1) := by decide +kernel
theorem dX9_readsPlay_54 : decode cX9_readsPlay 54 = .ok (.bipush 97, 2) := by decide +kernel
theorem dX9_readsPlay_56 : decode cX9_readsPlay 56 = .ok (.isub, 1) := by decide +kernel
theorem dX9_readsPlay_57 : decode cX9_readsPlay 57 = .ok (.iastore, 1) := by decide +kernel
theorem dX9_readsPlay_58 : decode cX9_readsPlay 58 = .ok (.aload_n 0, 1) := by decide +kernel
theorem dX9_readsPlay_59 : decode cX9_readsPlay 59 = .ok (.dup, 1) := by decide +kernel
theorem dX9_readsPlay_60 : decode cX9_readsPlay 60 = .ok (.getfield 103, 3) := by decide +kernel
theorem dX9_readsPlay_63 : decode cX9_readsPlay 63 = .ok (.iconst 1, 1) := by decide +kernel
theorem dX9_readsPlay_64 : decode cX9_readsPlay 64 = .ok (.iadd, 1) := by decide +kernel
theorem dX9_readsPlay_65 : decode cX9_readsPlay 65 = .ok (.putfield 103, 3) := by decide +kernel
theorem dX9_readsPlay_68 : decode cX9_readsPlay 68 = .ok (.iinc 1 1, 3) := by decide +kernel
theorem dX9_readsPlay_71 : decode cX9_readsPlay 71 = .ok (.goto (-64), 3) := by decide +kernel
theorem dX9_readsPlay_74 : decode cX9_readsPlay 74 = .ok (.iconst (-1), 1) := by decide +kernel
theorem dX9_readsPlay_75 : decode cX9_readsPlay 75 = .ok (.ireturn, 1) := by decide +kernel
theorem dX9_within_0 : decode cX9_within 0 = .ok (.iload_n 0, 1) := by decide +kernel
theorem dX9_within_1 : decode cX9_within 1 = .ok (.i2l, 1) := by decide +kernel
theorem dX9_within_2 : decode cX9_within 2 = .ok (.iload_n 1, 1) := by decide +kernel
theorem dX9_within_3 : decode cX9_within 3 = .ok (.i2l, 1) := by decide +kernel
theorem dX9_within_4 : decode cX9_within 4 = .ok (.iload_n 2, 1) := by decide +kernel
theorem dX9_within_5 : decode cX9_within 5 = .ok (.i2l, 1) := by decide +kernel
theorem dX9_within_6 : decode cX9_within 6 = .ok (.invokestatic 70, 3) := by decide +kernel
theorem dX9_within_9 : decode cX9_within 9 = .ok (.ifCond .eq 9, 3) := by decide +kernel
theorem dX9_within_12 : decode cX9_within 12 = .ok (.iload_n 0, 1) := by decide +kernel
theorem dX9_within_13 : decode cX9_within 13 = .ok (.iload_n 1, 1) := by decide +kernel
theorem dX9_within_14 : decode cX9_within 14 = .ok (.isub, 1) := by decide +kernel
theorem dX9_within_15 : decode cX9_within 15 = .ok (.goto 4, 3) := by decide +kernel
theorem dX9_within_18 : decode cX9_within 18 = .ok (.iconst (-1), 1) := by decide +kernel
theorem dX9_within_19 : decode cX9_within 19 = .ok (.ireturn, 1) := by decide +kernel
theorem dX9_tellsOf_0 : decode cX9_tellsOf 0 = .ok (.iload_n 0, 1) := by decide +kernel
theorem dX9_tellsOf_1 : decode cX9_tellsOf 1 = .ok (.tableswitch 100 0 3 #[31, 40, 49, 91], 31) := by decide +kernel
theorem dX9_tellsOf_32 : decode cX9_tellsOf 32 = .ok (.iload_n 1, 1) := by decide +kernel
theorem dX9_tellsOf_33 : decode cX9_tellsOf 33 = .ok (.bipush 97, 2) := by decide +kernel
theorem dX9_tellsOf_35 : decode cX9_tellsOf 35 = .ok (.bipush 106, 2) := by decide +kernel
theorem dX9_tellsOf_37 : decode cX9_tellsOf 37 = .ok (.invokestatic 110, 3) := by decide +kernel
theorem dX9_tellsOf_40 : decode cX9_tellsOf 40 = .ok (.ireturn, 1) := by decide +kernel
theorem dX9_tellsOf_41 : decode cX9_tellsOf 41 = .ok (.iload_n 1, 1) := by decide +kernel
theorem dX9_tellsOf_42 : decode cX9_tellsOf 42 = .ok (.bipush 48, 2) := by decide +kernel
theorem dX9_tellsOf_44 : decode cX9_tellsOf 44 = .ok (.bipush 57, 2) := by decide +kernel
theorem dX9_tellsOf_46 : decode cX9_tellsOf 46 = .ok (.invokestatic 110, 3) := by decide +kernel
theorem dX9_tellsOf_49 : decode cX9_tellsOf 49 = .ok (.ireturn, 1) := by decide +kernel
theorem dX9_tellsOf_50 : decode cX9_tellsOf 50 = .ok (.iload_n 1, 1) := by decide +kernel
theorem dX9_tellsOf_51 : decode cX9_tellsOf 51 = .ok (.bipush 110, 2) := by decide +kernel
theorem dX9_tellsOf_53 : decode cX9_tellsOf 53 = .ok (.if_icmp .ne 7, 3) := by decide +kernel
theorem dX9_tellsOf_56 : decode cX9_tellsOf 56 = .ok (.iconst 0, 1) := by decide +kernel
theorem dX9_tellsOf_57 : decode cX9_tellsOf 57 = .ok (.goto 34, 3) := by decide +kernel
theorem dX9_tellsOf_60 : decode cX9_tellsOf 60 = .ok (.iload_n 1, 1) := by decide +kernel
theorem dX9_tellsOf_61 : decode cX9_tellsOf 61 = .ok (.bipush 114, 2) := by decide +kernel
theorem dX9_tellsOf_63 : decode cX9_tellsOf 63 = .ok (.if_icmp .ne 7, 3) := by decide +kernel
theorem dX9_tellsOf_66 : decode cX9_tellsOf 66 = .ok (.iconst 1, 1) := by decide +kernel
theorem dX9_tellsOf_67 : decode cX9_tellsOf 67 = .ok (.goto 24, 3) := by decide +kernel
theorem dX9_tellsOf_70 : decode cX9_tellsOf 70 = .ok (.iload_n 1, 1) := by decide +kernel
theorem dX9_tellsOf_71 : decode cX9_tellsOf 71 = .ok (.bipush 121, 2) := by decide +kernel
theorem dX9_tellsOf_73 : decode cX9_tellsOf 73 = .ok (.if_icmp .ne 7, 3) := by decide +kernel
theorem dX9_tellsOf_76 : decode cX9_tellsOf 76 = .ok (.iconst 2, 1) := by decide +kernel
theorem dX9_tellsOf_77 : decode cX9_tellsOf 77 = .ok (.goto 14, 3) := by decide +kernel
theorem dX9_tellsOf_80 : decode cX9_tellsOf 80 = .ok (.iload_n 1, 1) := by decide +kernel
theorem dX9_tellsOf_81 : decode cX9_tellsOf 81 = .ok (.bipush 108, 2) := by decide +kernel
theorem dX9_tellsOf_83 : decode cX9_tellsOf 83 = .ok (.if_icmp .ne 7, 3) := by decide +kernel
theorem dX9_tellsOf_86 : decode cX9_tellsOf 86 = .ok (.iconst 3, 1) := by decide +kernel
theorem dX9_tellsOf_87 : decode cX9_tellsOf 87 = .ok (.goto 4, 3) := by decide +kernel
theorem dX9_tellsOf_90 : decode cX9_tellsOf 90 = .ok (.iconst (-1), 1) := by decide +kernel
theorem dX9_tellsOf_91 : decode cX9_tellsOf 91 = .ok (.ireturn, 1) := by decide +kernel
theorem dX9_tellsOf_92 : decode cX9_tellsOf 92 = .ok (.iload_n 1, 1) := by decide +kernel
theorem dX9_tellsOf_93 : decode cX9_tellsOf 93 = .ok (.bipush 97, 2) := by decide +kernel
theorem dX9_tellsOf_95 : decode cX9_tellsOf 95 = .ok (.bipush 104, 2) := by decide +kernel
theorem dX9_tellsOf_97 : decode cX9_tellsOf 97 = .ok (.invokestatic 110, 3) := by decide +kernel
theorem dX9_tellsOf_100 : decode cX9_tellsOf 100 = .ok (.ireturn, 1) := by decide +kernel
theorem dX9_tellsOf_101 : decode cX9_tellsOf 101 = .ok (.iload_n 1, 1) := by decide +kernel
theorem dX9_tellsOf_102 : decode cX9_tellsOf 102 = .ok (.bipush 59, 2) := by decide +kernel
theorem dX9_tellsOf_104 : decode cX9_tellsOf 104 = .ok (.if_icmp .ne 7, 3) := by decide +kernel
theorem dX9_tellsOf_107 : decode cX9_tellsOf 107 = .ok (.iconst 0, 1) := by decide +kernel
theorem dX9_tellsOf_108 : decode cX9_tellsOf 108 = .ok (.goto 4, 3) := by decide +kernel
theorem dX9_tellsOf_111 : decode cX9_tellsOf 111 = .ok (.iconst (-1), 1) := by decide +kernel
theorem dX9_tellsOf_112 : decode cX9_tellsOf 112 = .ok (.ireturn, 1) := by decide +kernel
theorem dX9_readsHoles_0 : decode cX9_readsHoles 0 = .ok (.aload_n 0, 1) := by decide +kernel
theorem dX9_readsHoles_1 : decode cX9_readsHoles 1 = .ok (.iconst 0, 1) := by decide +kernel
theorem dX9_readsHoles_2 : decode cX9_readsHoles 2 = .ok (.putfield 113, 3) := by decide +kernel
theorem dX9_readsHoles_5 : decode cX9_readsHoles 5 = .ok (.aload_n 0, 1) := by decide +kernel
theorem dX9_readsHoles_6 : decode cX9_readsHoles 6 = .ok (.getfield 25, 3) := by decide +kernel
theorem dX9_readsHoles_9 : decode cX9_readsHoles 9 = .ok (.iconst 1, 1) := by decide +kernel
theorem dX9_readsHoles_10 : decode cX9_readsHoles 10 = .ok (.iaload, 1) := by decide +kernel
theorem dX9_readsHoles_11 : decode cX9_readsHoles 11 = .ok (.istore_n 1, 1) := by decide +kernel
theorem dX9_readsHoles_12 : decode cX9_readsHoles 12 = .ok (.iconst 0, 1) := by decide +kernel
theorem dX9_readsHoles_13 : decode cX9_readsHoles 13 = .ok (.istore_n 2, 1) := by decide +kernel
theorem dX9_readsHoles_14 : decode cX9_readsHoles 14 = .ok (.iload_n 2, 1) := by decide +kernel
theorem dX9_readsHoles_15 : decode cX9_readsHoles 15 = .ok (.iload_n 1, 1) := by decide +kernel
theorem dX9_readsHoles_16 : decode cX9_readsHoles 16 = .ok (.if_icmp .ge 91, 3) := by decide +kernel
theorem dX9_readsHoles_19 : decode cX9_readsHoles 19 = .ok (.iload_n 2, 1) := by decide +kernel
theorem dX9_readsHoles_20 : decode cX9_readsHoles 20 = .ok (.iconst 5, 1) := by decide +kernel
theorem dX9_readsHoles_21 : decode cX9_readsHoles 21 = .ok (.irem, 1) := by decide +kernel
theorem dX9_readsHoles_22 : decode cX9_readsHoles 22 = .ok (.istore_n 3, 1) := by decide +kernel
theorem dX9_readsHoles_23 : decode cX9_readsHoles 23 = .ok (.iload_n 2, 1) := by decide +kernel
theorem dX9_readsHoles_24 : decode cX9_readsHoles 24 = .ok (.iconst 5, 1) := by decide +kernel
theorem dX9_readsHoles_25 : decode cX9_readsHoles 25 = .ok (.idiv, 1) := by decide +kernel
theorem dX9_readsHoles_26 : decode cX9_readsHoles 26 = .ok (.bipush 9, 2) := by decide +kernel
theorem dX9_readsHoles_28 : decode cX9_readsHoles 28 = .ok (.if_icmp .ne 7, 3) := by decide +kernel
theorem dX9_readsHoles_31 : decode cX9_readsHoles 31 = .ok (.iconst (-1), 1) := by decide +kernel
theorem dX9_readsHoles_32 : decode cX9_readsHoles 32 = .ok (.goto 16, 3) := by decide +kernel
theorem dX9_readsHoles_35 : decode cX9_readsHoles 35 = .ok (.iload_n 3, 1) := by decide +kernel
theorem dX9_readsHoles_36 : decode cX9_readsHoles 36 = .ok (.aload_n 0, 1) := by decide +kernel
theorem dX9_readsHoles_37 : decode cX9_readsHoles 37 = .ok (.getfield 22, 3) := by decide +kernel
theorem dX9_readsHoles_40 : decode cX9_readsHoles 40 = .ok (.bipush 44, 2) := by decide +kernel
theorem dX9_readsHoles_42 : decode cX9_readsHoles 42 = .ok (.iload_n 2, 1) := by decide +kernel
theorem dX9_readsHoles_43 : decode cX9_readsHoles 43 = .ok (.iadd, 1) := by decide +kernel
theorem dX9_readsHoles_44 : decode cX9_readsHoles 44 = .ok (.iaload, 1) := by decide +kernel
theorem dX9_readsHoles_45 : decode cX9_readsHoles 45 = .ok (.invokestatic 116, 3) := by decide +kernel
theorem dX9_readsHoles_48 : decode cX9_readsHoles 48 = .ok (.istore 4, 2) := by decide +kernel
theorem dX9_readsHoles_50 : decode cX9_readsHoles 50 = .ok (.iload 4, 2) := by decide +kernel
theorem dX9_readsHoles_52 : decode cX9_readsHoles 52 = .ok (.iconst (-1), 1) := by decide +kernel
theorem dX9_readsHoles_53 : decode cX9_readsHoles 53 = .ok (.if_icmp .ne 10, 3) := by decide +kernel
theorem dX9_readsHoles_56 : decode cX9_readsHoles 56 = .ok (.aload_n 0, 1) := by decide +kernel
theorem dX9_readsHoles_57 : decode cX9_readsHoles 57 = .ok (.iconst 0, 1) := by decide +kernel
theorem dX9_readsHoles_58 : decode cX9_readsHoles 58 = .ok (.putfield 113, 3) := by decide +kernel
theorem dX9_readsHoles_61 : decode cX9_readsHoles 61 = .ok (.iload_n 2, 1) := by decide +kernel
theorem dX9_readsHoles_62 : decode cX9_readsHoles 62 = .ok (.ireturn, 1) := by decide +kernel
theorem dX9_readsHoles_63 : decode cX9_readsHoles 63 = .ok (.iload_n 3, 1) := by decide +kernel
theorem dX9_readsHoles_64 : decode cX9_readsHoles 64 = .ok (.iconst 4, 1) := by decide +kernel
theorem dX9_readsHoles_65 : decode cX9_readsHoles 65 = .ok (.if_icmp .ge 17, 3) := by decide +kernel
theorem dX9_readsHoles_68 : decode cX9_readsHoles 68 = .ok (.aload_n 0, 1) := by decide +kernel
theorem dX9_readsHoles_69 : decode cX9_readsHoles 69 = .ok (.getfield 31, 3) := by decide +kernel
theorem dX9_readsHoles_72 : decode cX9_readsHoles 72 = .ok (.iconst 4, 1) := by decide +kernel
theorem dX9_readsHoles_73 : decode cX9_readsHoles 73 = .ok (.iload_n 2, 1) := by decide +kernel
theorem dX9_readsHoles_74 : decode cX9_readsHoles 74 = .ok (.iconst 5, 1) := by decide +kernel
theorem dX9_readsHoles_75 : decode cX9_readsHoles 75 = .ok (.idiv, 1) := by decide +kernel
theorem dX9_readsHoles_76 : decode cX9_readsHoles 76 = .ok (.imul, 1) := by decide +kernel
theorem dX9_readsHoles_77 : decode cX9_readsHoles 77 = .ok (.iload_n 3, 1) := by decide +kernel
theorem dX9_readsHoles_78 : decode cX9_readsHoles 78 = .ok (.iadd, 1) := by decide +kernel
theorem dX9_readsHoles_79 : decode cX9_readsHoles 79 = .ok (.iload 4, 2) := by decide +kernel
theorem dX9_readsHoles_81 : decode cX9_readsHoles 81 = .ok (.iastore, 1) := by decide +kernel
theorem dX9_readsHoles_82 : decode cX9_readsHoles 82 = .ok (.aload_n 0, 1) := by decide +kernel
theorem dX9_readsHoles_83 : decode cX9_readsHoles 83 = .ok (.dup, 1) := by decide +kernel
theorem dX9_readsHoles_84 : decode cX9_readsHoles 84 = .ok (.getfield 113, 3) := by decide +kernel
theorem dX9_readsHoles_87 : decode cX9_readsHoles 87 = .ok (.iload_n 3, 1) := by decide +kernel
theorem dX9_readsHoles_88 : decode cX9_readsHoles 88 = .ok (.iconst 3, 1) := by decide +kernel
theorem dX9_readsHoles_89 : decode cX9_readsHoles 89 = .ok (.if_icmp .ne 7, 3) := by decide +kernel
theorem dX9_readsHoles_92 : decode cX9_readsHoles 92 = .ok (.iconst 1, 1) := by decide +kernel
theorem dX9_readsHoles_93 : decode cX9_readsHoles 93 = .ok (.goto 4, 3) := by decide +kernel
theorem dX9_readsHoles_96 : decode cX9_readsHoles 96 = .ok (.iconst 0, 1) := by decide +kernel
theorem dX9_readsHoles_97 : decode cX9_readsHoles 97 = .ok (.iadd, 1) := by decide +kernel
theorem dX9_readsHoles_98 : decode cX9_readsHoles 98 = .ok (.putfield 113, 3) := by decide +kernel
theorem dX9_readsHoles_101 : decode cX9_readsHoles 101 = .ok (.iinc 2 1, 3) := by decide +kernel
theorem dX9_readsHoles_104 : decode cX9_readsHoles 104 = .ok (.goto (-90), 3) := by decide +kernel
theorem dX9_readsHoles_107 : decode cX9_readsHoles 107 = .ok (.iload_n 1, 1) := by decide +kernel
theorem dX9_readsHoles_108 : decode cX9_readsHoles 108 = .ok (.ifCond .le 17, 3) := by decide +kernel
theorem dX9_readsHoles_111 : decode cX9_readsHoles 111 = .ok (.iload_n 1, 1) := by decide +kernel
theorem dX9_readsHoles_112 : decode cX9_readsHoles 112 = .ok (.iconst 5, 1) := by decide +kernel
theorem dX9_readsHoles_113 : decode cX9_readsHoles 113 = .ok (.irem, 1) := by decide +kernel
theorem dX9_readsHoles_114 : decode cX9_readsHoles 114 = .ok (.iconst 4, 1) := by decide +kernel
theorem dX9_readsHoles_115 : decode cX9_readsHoles 115 = .ok (.if_icmp .eq 10, 3) := by decide +kernel
theorem dX9_readsHoles_118 : decode cX9_readsHoles 118 = .ok (.aload_n 0, 1) := by decide +kernel
theorem dX9_readsHoles_119 : decode cX9_readsHoles 119 = .ok (.iconst 0, 1) := by decide +kernel
theorem dX9_readsHoles_120 : decode cX9_readsHoles 120 = .ok (.putfield 113, 3) := by decide +kernel
theorem dX9_readsHoles_123 : decode cX9_readsHoles 123 = .ok (.iload_n 1, 1) := by decide +kernel
theorem dX9_readsHoles_124 : decode cX9_readsHoles 124 = .ok (.ireturn, 1) := by decide +kernel
theorem dX9_readsHoles_125 : decode cX9_readsHoles 125 = .ok (.iconst (-1), 1) := by decide +kernel
theorem dX9_readsHoles_126 : decode cX9_readsHoles 126 = .ok (.ireturn, 1) := by decide +kernel
theorem dX9_reads_0 : decode cX9_reads 0 = .ok (.aload_n 0, 1) := by decide +kernel
theorem dX9_reads_1 : decode cX9_reads 1 = .ok (.invokevirtual 119, 3) := by decide +kernel
theorem dX9_reads_4 : decode cX9_reads 4 = .ok (.pop, 1) := by decide +kernel
theorem dX9_reads_5 : decode cX9_reads 5 = .ok (.aload_n 0, 1) := by decide +kernel
theorem dX9_reads_6 : decode cX9_reads 6 = .ok (.invokevirtual 123, 3) := by decide +kernel
theorem dX9_reads_9 : decode cX9_reads 9 = .ok (.pop, 1) := by decide +kernel
theorem dX9_reads_10 : decode cX9_reads 10 = .ok (.return_, 1) := by decide +kernel
theorem dX9_fault_0 : decode cX9_fault 0 = .ok (.iload_n 1, 1) := by decide +kernel
theorem dX9_fault_1 : decode cX9_fault 1 = .ok (.invokestatic 98, 3) := by decide +kernel
theorem dX9_fault_4 : decode cX9_fault 4 = .ok (.ifCond .ne 8, 3) := by decide +kernel
theorem dX9_fault_7 : decode cX9_fault 7 = .ok (.bipush (-2), 2) := by decide +kernel
theorem dX9_fault_9 : decode cX9_fault 9 = .ok (.goto 18, 3) := by decide +kernel
theorem dX9_fault_12 : decode cX9_fault 12 = .ok (.iload_n 1, 1) := by decide +kernel
theorem dX9_fault_13 : decode cX9_fault 13 = .ok (.ifCond .ne 10, 3) := by decide +kernel
theorem dX9_fault_16 : decode cX9_fault 16 = .ok (.aload_n 0, 1) := by decide +kernel
theorem dX9_fault_17 : decode cX9_fault 17 = .ok (.invokevirtual 119, 3) := by decide +kernel
theorem dX9_fault_20 : decode cX9_fault 20 = .ok (.goto 7, 3) := by decide +kernel
theorem dX9_fault_23 : decode cX9_fault 23 = .ok (.aload_n 0, 1) := by decide +kernel
theorem dX9_fault_24 : decode cX9_fault 24 = .ok (.invokevirtual 123, 3) := by decide +kernel
theorem dX9_fault_27 : decode cX9_fault 27 = .ok (.ireturn, 1) := by decide +kernel
theorem dX9_isHole_0 : decode cX9_isHole 0 = .ok (.iload_n 1, 1) := by decide +kernel
theorem dX9_isHole_1 : decode cX9_isHole 1 = .ok (.i2l, 1) := by decide +kernel
theorem dX9_isHole_2 : decode cX9_isHole 2 = .ok (.lconst 0, 1) := by decide +kernel
theorem dX9_isHole_3 : decode cX9_isHole 3 = .ok (.aload_n 0, 1) := by decide +kernel
theorem dX9_isHole_4 : decode cX9_isHole 4 = .ok (.getfield 113, 3) := by decide +kernel
theorem dX9_isHole_7 : decode cX9_isHole 7 = .ok (.iconst 1, 1) := by decide +kernel
theorem dX9_isHole_8 : decode cX9_isHole 8 = .ok (.isub, 1) := by decide +kernel
theorem dX9_isHole_9 : decode cX9_isHole 9 = .ok (.i2l, 1) := by decide +kernel
theorem dX9_isHole_10 : decode cX9_isHole 10 = .ok (.invokestatic 70, 3) := by decide +kernel
theorem dX9_isHole_13 : decode cX9_isHole 13 = .ok (.ireturn, 1) := by decide +kernel
theorem dX9_isLine_0 : decode cX9_isLine 0 = .ok (.iload_n 0, 1) := by decide +kernel
theorem dX9_isLine_1 : decode cX9_isLine 1 = .ok (.i2l, 1) := by decide +kernel
theorem dX9_isLine_2 : decode cX9_isLine 2 = .ok (.lconst 0, 1) := by decide +kernel
theorem dX9_isLine_3 : decode cX9_isLine 3 = .ok (.ldc2_w 126, 3) := by decide +kernel
theorem dX9_isLine_6 : decode cX9_isLine 6 = .ok (.invokestatic 70, 3) := by decide +kernel
theorem dX9_isLine_9 : decode cX9_isLine 9 = .ok (.ireturn, 1) := by decide +kernel
theorem dX9_isStep_0 : decode cX9_isStep 0 = .ok (.iload_n 0, 1) := by decide +kernel
theorem dX9_isStep_1 : decode cX9_isStep 1 = .ok (.i2l, 1) := by decide +kernel
theorem dX9_isStep_2 : decode cX9_isStep 2 = .ok (.lconst 0, 1) := by decide +kernel
theorem dX9_isStep_3 : decode cX9_isStep 3 = .ok (.ldc2_w 128, 3) := by decide +kernel
theorem dX9_isStep_6 : decode cX9_isStep 6 = .ok (.invokestatic 70, 3) := by decide +kernel
theorem dX9_isStep_9 : decode cX9_isStep 9 = .ok (.ireturn, 1) := by decide +kernel
theorem dX9_line_0 : decode cX9_line 0 = .ok (.aload_n 0, 1) := by decide +kernel
theorem dX9_line_1 : decode cX9_line 1 = .ok (.invokevirtual 130, 3) := by decide +kernel
theorem dX9_line_4 : decode cX9_line 4 = .ok (.iload_n 1, 1) := by decide +kernel
theorem dX9_line_5 : decode cX9_line 5 = .ok (.i2l, 1) := by decide +kernel
theorem dX9_line_6 : decode cX9_line 6 = .ok (.lconst 0, 1) := by decide +kernel
theorem dX9_line_7 : decode cX9_line 7 = .ok (.ldc2_w 133, 3) := by decide +kernel
theorem dX9_line_10 : decode cX9_line 10 = .ok (.invokestatic 70, 3) := by decide +kernel
theorem dX9_line_13 : decode cX9_line 13 = .ok (.ifCond .ne 8, 3) := by decide +kernel
theorem dX9_line_16 : decode cX9_line 16 = .ok (.bipush (-2), 2) := by decide +kernel
theorem dX9_line_18 : decode cX9_line 18 = .ok (.goto 21, 3) := by decide +kernel
theorem dX9_line_21 : decode cX9_line 21 = .ok (.iload_n 1, 1) := by decide +kernel
theorem dX9_line_22 : decode cX9_line 22 = .ok (.aload_n 0, 1) := by decide +kernel
theorem dX9_line_23 : decode cX9_line 23 = .ok (.getfield 103, 3) := by decide +kernel
theorem dX9_line_26 : decode cX9_line 26 = .ok (.if_icmp .ge 12, 3) := by decide +kernel
theorem dX9_line_29 : decode cX9_line 29 = .ok (.aload_n 0, 1) := by decide +kernel
theorem dX9_line_30 : decode cX9_line 30 = .ok (.getfield 28, 3) := by decide +kernel
theorem dX9_line_33 : decode cX9_line 33 = .ok (.iload_n 1, 1) := by decide +kernel
theorem dX9_line_34 : decode cX9_line 34 = .ok (.iaload, 1) := by decide +kernel
theorem dX9_line_35 : decode cX9_line 35 = .ok (.goto 4, 3) := by decide +kernel
theorem dX9_line_38 : decode cX9_line 38 = .ok (.iconst (-1), 1) := by decide +kernel
theorem dX9_line_39 : decode cX9_line 39 = .ok (.ireturn, 1) := by decide +kernel
theorem dX9_hole_0 : decode cX9_hole 0 = .ok (.aload_n 0, 1) := by decide +kernel
theorem dX9_hole_1 : decode cX9_hole 1 = .ok (.invokevirtual 130, 3) := by decide +kernel
theorem dX9_hole_4 : decode cX9_hole 4 = .ok (.aload_n 0, 1) := by decide +kernel
theorem dX9_hole_5 : decode cX9_hole 5 = .ok (.iload_n 1, 1) := by decide +kernel
theorem dX9_hole_6 : decode cX9_hole 6 = .ok (.invokevirtual 135, 3) := by decide +kernel
theorem dX9_hole_9 : decode cX9_hole 9 = .ok (.ifCond .eq 28, 3) := by decide +kernel
theorem dX9_hole_12 : decode cX9_hole 12 = .ok (.iload_n 2, 1) := by decide +kernel
theorem dX9_hole_13 : decode cX9_hole 13 = .ok (.i2l, 1) := by decide +kernel
theorem dX9_hole_14 : decode cX9_hole 14 = .ok (.lconst 0, 1) := by decide +kernel
theorem dX9_hole_15 : decode cX9_hole 15 = .ok (.ldc2_w 77, 3) := by decide +kernel
theorem dX9_hole_18 : decode cX9_hole 18 = .ok (.invokestatic 70, 3) := by decide +kernel
theorem dX9_hole_21 : decode cX9_hole 21 = .ok (.ifCond .eq 16, 3) := by decide +kernel
theorem dX9_hole_24 : decode cX9_hole 24 = .ok (.aload_n 0, 1) := by decide +kernel
theorem dX9_hole_25 : decode cX9_hole 25 = .ok (.getfield 31, 3) := by decide +kernel
theorem dX9_hole_28 : decode cX9_hole 28 = .ok (.iconst 4, 1) := by decide +kernel
theorem dX9_hole_29 : decode cX9_hole 29 = .ok (.iload_n 1, 1) := by decide +kernel
theorem dX9_hole_30 : decode cX9_hole 30 = .ok (.imul, 1) := by decide +kernel
theorem dX9_hole_31 : decode cX9_hole 31 = .ok (.iload_n 2, 1) := by decide +kernel
theorem dX9_hole_32 : decode cX9_hole 32 = .ok (.iadd, 1) := by decide +kernel
theorem dX9_hole_33 : decode cX9_hole 33 = .ok (.iaload, 1) := by decide +kernel
theorem dX9_hole_34 : decode cX9_hole 34 = .ok (.goto 5, 3) := by decide +kernel
theorem dX9_hole_37 : decode cX9_hole 37 = .ok (.bipush (-2), 2) := by decide +kernel
theorem dX9_hole_39 : decode cX9_hole 39 = .ok (.ireturn, 1) := by decide +kernel
theorem dX9_printedBy_0 : decode cX9_printedBy 0 = .ok (.aload_n 0, 1) := by decide +kernel
theorem dX9_printedBy_1 : decode cX9_printedBy 1 = .ok (.getfield 103, 3) := by decide +kernel
theorem dX9_printedBy_4 : decode cX9_printedBy 4 = .ok (.ifCond .ne 5, 3) := by decide +kernel
theorem dX9_printedBy_7 : decode cX9_printedBy 7 = .ok (.iconst (-1), 1) := by decide +kernel
theorem dX9_printedBy_8 : decode cX9_printedBy 8 = .ok (.ireturn, 1) := by decide +kernel
theorem dX9_printedBy_9 : decode cX9_printedBy 9 = .ok (.iconst 0, 1) := by decide +kernel
theorem dX9_printedBy_10 : decode cX9_printedBy 10 = .ok (.istore_n 3, 1) := by decide +kernel
theorem dX9_printedBy_11 : decode cX9_printedBy 11 = .ok (.iload_n 3, 1) := by decide +kernel
theorem dX9_printedBy_12 : decode cX9_printedBy 12 = .ok (.aload_n 0, 1) := by decide +kernel
theorem dX9_printedBy_13 : decode cX9_printedBy 13 = .ok (.getfield 103, 3) := by decide +kernel
theorem dX9_printedBy_16 : decode cX9_printedBy 16 = .ok (.if_icmp .ge 38, 3) := by decide +kernel
theorem dX9_printedBy_19 : decode cX9_printedBy 19 = .ok (.aload_n 0, 1) := by decide +kernel
theorem dX9_printedBy_20 : decode cX9_printedBy 20 = .ok (.getfield 28, 3) := by decide +kernel
theorem dX9_printedBy_23 : decode cX9_printedBy 23 = .ok (.iload_n 3, 1) := by decide +kernel
theorem dX9_printedBy_24 : decode cX9_printedBy 24 = .ok (.iaload, 1) := by decide +kernel
theorem dX9_printedBy_25 : decode cX9_printedBy 25 = .ok (.iload_n 1, 1) := by decide +kernel
theorem dX9_printedBy_26 : decode cX9_printedBy 26 = .ok (.if_icmp .ne 22, 3) := by decide +kernel
theorem dX9_printedBy_29 : decode cX9_printedBy 29 = .ok (.aload_n 0, 1) := by decide +kernel
theorem dX9_printedBy_30 : decode cX9_printedBy 30 = .ok (.getfield 28, 3) := by decide +kernel
theorem dX9_printedBy_33 : decode cX9_printedBy 33 = .ok (.iload_n 3, 1) := by decide +kernel
theorem dX9_printedBy_34 : decode cX9_printedBy 34 = .ok (.iload_n 2, 1) := by decide +kernel
theorem dX9_printedBy_35 : decode cX9_printedBy 35 = .ok (.iadd, 1) := by decide +kernel
theorem dX9_printedBy_36 : decode cX9_printedBy 36 = .ok (.aload_n 0, 1) := by decide +kernel
theorem dX9_printedBy_37 : decode cX9_printedBy 37 = .ok (.getfield 103, 3) := by decide +kernel
theorem dX9_printedBy_40 : decode cX9_printedBy 40 = .ok (.iadd, 1) := by decide +kernel
theorem dX9_printedBy_41 : decode cX9_printedBy 41 = .ok (.aload_n 0, 1) := by decide +kernel
theorem dX9_printedBy_42 : decode cX9_printedBy 42 = .ok (.getfield 103, 3) := by decide +kernel
theorem dX9_printedBy_45 : decode cX9_printedBy 45 = .ok (.irem, 1) := by decide +kernel
theorem dX9_printedBy_46 : decode cX9_printedBy 46 = .ok (.iaload, 1) := by decide +kernel
theorem dX9_printedBy_47 : decode cX9_printedBy 47 = .ok (.ireturn, 1) := by decide +kernel
theorem dX9_printedBy_48 : decode cX9_printedBy 48 = .ok (.iinc 3 1, 3) := by decide +kernel
theorem dX9_printedBy_51 : decode cX9_printedBy 51 = .ok (.goto (-40), 3) := by decide +kernel
theorem dX9_printedBy_54 : decode cX9_printedBy 54 = .ok (.aload_n 0, 1) := by decide +kernel
theorem dX9_printedBy_55 : decode cX9_printedBy 55 = .ok (.getfield 28, 3) := by decide +kernel
theorem dX9_printedBy_58 : decode cX9_printedBy 58 = .ok (.iconst 0, 1) := by decide +kernel
theorem dX9_printedBy_59 : decode cX9_printedBy 59 = .ok (.iaload, 1) := by decide +kernel
theorem dX9_printedBy_60 : decode cX9_printedBy 60 = .ok (.ireturn, 1) := by decide +kernel
theorem dX9_printed_0 : decode cX9_printed 0 = .ok (.aload_n 0, 1) := by decide +kernel
theorem dX9_printed_1 : decode cX9_printed 1 = .ok (.invokevirtual 130, 3) := by decide +kernel
theorem dX9_printed_4 : decode cX9_printed 4 = .ok (.iload_n 1, 1) := by decide +kernel
theorem dX9_printed_5 : decode cX9_printed 5 = .ok (.invokestatic 138, 3) := by decide +kernel
theorem dX9_printed_8 : decode cX9_printed 8 = .ok (.ifCond .eq 27, 3) := by decide +kernel
theorem dX9_printed_11 : decode cX9_printed 11 = .ok (.iload_n 2, 1) := by decide +kernel
theorem dX9_printed_12 : decode cX9_printed 12 = .ok (.invokestatic 98, 3) := by decide +kernel
theorem dX9_printed_15 : decode cX9_printed 15 = .ok (.ifCond .eq 20, 3) := by decide +kernel
theorem dX9_printed_18 : decode cX9_printed 18 = .ok (.aload_n 0, 1) := by decide +kernel
theorem dX9_printed_19 : decode cX9_printed 19 = .ok (.iload_n 1, 1) := by decide +kernel
theorem dX9_printed_20 : decode cX9_printed 20 = .ok (.iload_n 2, 1) := by decide +kernel
theorem dX9_printed_21 : decode cX9_printed 21 = .ok (.ifCond .ne 7, 3) := by decide +kernel
theorem dX9_printed_24 : decode cX9_printed 24 = .ok (.iconst 1, 1) := by decide +kernel
theorem dX9_printed_25 : decode cX9_printed 25 = .ok (.goto 4, 3) := by decide +kernel
theorem dX9_printed_28 : decode cX9_printed 28 = .ok (.iconst (-1), 1) := by decide +kernel
theorem dX9_printed_29 : decode cX9_printed 29 = .ok (.invokevirtual 141, 3) := by decide +kernel
theorem dX9_printed_32 : decode cX9_printed 32 = .ok (.goto 5, 3) := by decide +kernel
theorem dX9_printed_35 : decode cX9_printed 35 = .ok (.bipush (-2), 2) := by decide +kernel
theorem dX9_printed_37 : decode cX9_printed 37 = .ok (.ireturn, 1) := by decide +kernel
theorem dX9_move_0 : decode cX9_move 0 = .ok (.iload_n 1, 1) := by decide +kernel
theorem dX9_move_1 : decode cX9_move 1 = .ok (.invokestatic 144, 3) := by decide +kernel
theorem dX9_move_4 : decode cX9_move 4 = .ok (.ifCond .eq 15, 3) := by decide +kernel
theorem dX9_move_7 : decode cX9_move 7 = .ok (.iload_n 2, 1) := by decide +kernel
theorem dX9_move_8 : decode cX9_move 8 = .ok (.i2l, 1) := by decide +kernel
theorem dX9_move_9 : decode cX9_move 9 = .ok (.lconst 0, 1) := by decide +kernel
theorem dX9_move_10 : decode cX9_move 10 = .ok (.ldc2_w 147, 3) := by decide +kernel
theorem dX9_move_13 : decode cX9_move 13 = .ok (.invokestatic 70, 3) := by decide +kernel
theorem dX9_move_16 : decode cX9_move 16 = .ok (.ifCond .ne 6, 3) := by decide +kernel
theorem dX9_move_19 : decode cX9_move 19 = .ok (.bipush (-2), 2) := by decide +kernel
theorem dX9_move_21 : decode cX9_move 21 = .ok (.ireturn, 1) := by decide +kernel
theorem dX9_move_22 : decode cX9_move 22 = .ok (.aload_n 0, 1) := by decide +kernel
theorem dX9_move_23 : decode cX9_move 23 = .ok (.getfield 149, 3) := by decide +kernel
theorem dX9_move_26 : decode cX9_move 26 = .ok (.bipush 12, 2) := by decide +kernel
theorem dX9_move_28 : decode cX9_move 28 = .ok (.if_icmp .ne 6, 3) := by decide +kernel
theorem dX9_move_31 : decode cX9_move 31 = .ok (.bipush (-4), 2) := by decide +kernel
theorem dX9_move_33 : decode cX9_move 33 = .ok (.ireturn, 1) := by decide +kernel
theorem dX9_move_34 : decode cX9_move 34 = .ok (.aload_n 0, 1) := by decide +kernel
theorem dX9_move_35 : decode cX9_move 35 = .ok (.getfield 34, 3) := by decide +kernel
theorem dX9_move_38 : decode cX9_move 38 = .ok (.iconst 2, 1) := by decide +kernel
theorem dX9_move_39 : decode cX9_move 39 = .ok (.aload_n 0, 1) := by decide +kernel
theorem dX9_move_40 : decode cX9_move 40 = .ok (.getfield 149, 3) := by decide +kernel
theorem dX9_move_43 : decode cX9_move 43 = .ok (.imul, 1) := by decide +kernel
theorem dX9_move_44 : decode cX9_move 44 = .ok (.iload_n 1, 1) := by decide +kernel
theorem dX9_move_45 : decode cX9_move 45 = .ok (.iastore, 1) := by decide +kernel
theorem dX9_move_46 : decode cX9_move 46 = .ok (.aload_n 0, 1) := by decide +kernel
theorem dX9_move_47 : decode cX9_move 47 = .ok (.getfield 34, 3) := by decide +kernel
theorem dX9_move_50 : decode cX9_move 50 = .ok (.iconst 2, 1) := by decide +kernel
theorem dX9_move_51 : decode cX9_move 51 = .ok (.aload_n 0, 1) := by decide +kernel
theorem dX9_move_52 : decode cX9_move 52 = .ok (.getfield 149, 3) := by decide +kernel
theorem dX9_move_55 : decode cX9_move 55 = .ok (.imul, 1) := by decide +kernel
theorem dX9_move_56 : decode cX9_move 56 = .ok (.iconst 1, 1) := by decide +kernel
theorem dX9_move_57 : decode cX9_move 57 = .ok (.iadd, 1) := by decide +kernel
theorem dX9_move_58 : decode cX9_move 58 = .ok (.iload_n 2, 1) := by decide +kernel
theorem dX9_move_59 : decode cX9_move 59 = .ok (.iastore, 1) := by decide +kernel
theorem dX9_move_60 : decode cX9_move 60 = .ok (.aload_n 0, 1) := by decide +kernel
theorem dX9_move_61 : decode cX9_move 61 = .ok (.dup, 1) := by decide +kernel
theorem dX9_move_62 : decode cX9_move 62 = .ok (.getfield 149, 3) := by decide +kernel
theorem dX9_move_65 : decode cX9_move 65 = .ok (.iconst 1, 1) := by decide +kernel
theorem dX9_move_66 : decode cX9_move 66 = .ok (.iadd, 1) := by decide +kernel
theorem dX9_move_67 : decode cX9_move 67 = .ok (.putfield 149, 3) := by decide +kernel
theorem dX9_move_70 : decode cX9_move 70 = .ok (.aload_n 0, 1) := by decide +kernel
theorem dX9_move_71 : decode cX9_move 71 = .ok (.getfield 149, 3) := by decide +kernel
theorem dX9_move_74 : decode cX9_move 74 = .ok (.ireturn, 1) := by decide +kernel
theorem dX9_cough_0 : decode cX9_cough 0 = .ok (.iload_n 1, 1) := by decide +kernel
theorem dX9_cough_1 : decode cX9_cough 1 = .ok (.invokestatic 144, 3) := by decide +kernel
theorem dX9_cough_4 : decode cX9_cough 4 = .ok (.ifCond .eq 15, 3) := by decide +kernel
theorem dX9_cough_7 : decode cX9_cough 7 = .ok (.iload_n 2, 1) := by decide +kernel
theorem dX9_cough_8 : decode cX9_cough 8 = .ok (.i2l, 1) := by decide +kernel
theorem dX9_cough_9 : decode cX9_cough 9 = .ok (.lconst 0, 1) := by decide +kernel
theorem dX9_cough_10 : decode cX9_cough 10 = .ok (.ldc2_w 152, 3) := by decide +kernel
theorem dX9_cough_13 : decode cX9_cough 13 = .ok (.invokestatic 70, 3) := by decide +kernel
theorem dX9_cough_16 : decode cX9_cough 16 = .ok (.ifCond .ne 6, 3) := by decide +kernel
theorem dX9_cough_19 : decode cX9_cough 19 = .ok (.bipush (-2), 2) := by decide +kernel
theorem dX9_cough_21 : decode cX9_cough 21 = .ok (.ireturn, 1) := by decide +kernel
theorem dX9_cough_22 : decode cX9_cough 22 = .ok (.aload_n 0, 1) := by decide +kernel
theorem dX9_cough_23 : decode cX9_cough 23 = .ok (.getfield 154, 3) := by decide +kernel
theorem dX9_cough_26 : decode cX9_cough 26 = .ok (.bipush 12, 2) := by decide +kernel
theorem dX9_cough_28 : decode cX9_cough 28 = .ok (.if_icmp .ne 6, 3) := by decide +kernel
theorem dX9_cough_31 : decode cX9_cough 31 = .ok (.bipush (-4), 2) := by decide +kernel
theorem dX9_cough_33 : decode cX9_cough 33 = .ok (.ireturn, 1) := by decide +kernel
theorem dX9_cough_34 : decode cX9_cough 34 = .ok (.aload_n 0, 1) := by decide +kernel
theorem dX9_cough_35 : decode cX9_cough 35 = .ok (.getfield 37, 3) := by decide +kernel
theorem dX9_cough_38 : decode cX9_cough 38 = .ok (.iconst 2, 1) := by decide +kernel
theorem dX9_cough_39 : decode cX9_cough 39 = .ok (.aload_n 0, 1) := by decide +kernel
theorem dX9_cough_40 : decode cX9_cough 40 = .ok (.getfield 154, 3) := by decide +kernel
theorem dX9_cough_43 : decode cX9_cough 43 = .ok (.imul, 1) := by decide +kernel
theorem dX9_cough_44 : decode cX9_cough 44 = .ok (.iload_n 1, 1) := by decide +kernel
theorem dX9_cough_45 : decode cX9_cough 45 = .ok (.iastore, 1) := by decide +kernel
theorem dX9_cough_46 : decode cX9_cough 46 = .ok (.aload_n 0, 1) := by decide +kernel
theorem dX9_cough_47 : decode cX9_cough 47 = .ok (.getfield 37, 3) := by decide +kernel
theorem dX9_cough_50 : decode cX9_cough 50 = .ok (.iconst 2, 1) := by decide +kernel
theorem dX9_cough_51 : decode cX9_cough 51 = .ok (.aload_n 0, 1) := by decide +kernel
theorem dX9_cough_52 : decode cX9_cough 52 = .ok (.getfield 154, 3) := by decide +kernel
theorem dX9_cough_55 : decode cX9_cough 55 = .ok (.imul, 1) := by decide +kernel
theorem dX9_cough_56 : decode cX9_cough 56 = .ok (.iconst 1, 1) := by decide +kernel
theorem dX9_cough_57 : decode cX9_cough 57 = .ok (.iadd, 1) := by decide +kernel
theorem dX9_cough_58 : decode cX9_cough 58 = .ok (.iload_n 2, 1) := by decide +kernel
theorem dX9_cough_59 : decode cX9_cough 59 = .ok (.iastore, 1) := by decide +kernel
theorem dX9_cough_60 : decode cX9_cough 60 = .ok (.aload_n 0, 1) := by decide +kernel
theorem dX9_cough_61 : decode cX9_cough 61 = .ok (.dup, 1) := by decide +kernel
theorem dX9_cough_62 : decode cX9_cough 62 = .ok (.getfield 154, 3) := by decide +kernel
theorem dX9_cough_65 : decode cX9_cough 65 = .ok (.iconst 1, 1) := by decide +kernel
theorem dX9_cough_66 : decode cX9_cough 66 = .ok (.iadd, 1) := by decide +kernel
theorem dX9_cough_67 : decode cX9_cough 67 = .ok (.putfield 154, 3) := by decide +kernel
theorem dX9_cough_70 : decode cX9_cough 70 = .ok (.aload_n 0, 1) := by decide +kernel
theorem dX9_cough_71 : decode cX9_cough 71 = .ok (.getfield 154, 3) := by decide +kernel
theorem dX9_cough_74 : decode cX9_cough 74 = .ok (.ireturn, 1) := by decide +kernel
theorem dX9_dark_0 : decode cX9_dark 0 = .ok (.iload_n 1, 1) := by decide +kernel
theorem dX9_dark_1 : decode cX9_dark 1 = .ok (.invokestatic 144, 3) := by decide +kernel
theorem dX9_dark_4 : decode cX9_dark 4 = .ok (.ifCond .ne 6, 3) := by decide +kernel
theorem dX9_dark_7 : decode cX9_dark 7 = .ok (.bipush (-2), 2) := by decide +kernel
theorem dX9_dark_9 : decode cX9_dark 9 = .ok (.ireturn, 1) := by decide +kernel
theorem dX9_dark_10 : decode cX9_dark 10 = .ok (.aload_n 0, 1) := by decide +kernel
theorem dX9_dark_11 : decode cX9_dark 11 = .ok (.getfield 157, 3) := by decide +kernel
theorem dX9_dark_14 : decode cX9_dark 14 = .ok (.bipush 6, 2) := by decide +kernel
theorem dX9_dark_16 : decode cX9_dark 16 = .ok (.if_icmp .ne 6, 3) := by decide +kernel
theorem dX9_dark_19 : decode cX9_dark 19 = .ok (.bipush (-4), 2) := by decide +kernel
theorem dX9_dark_21 : decode cX9_dark 21 = .ok (.ireturn, 1) := by decide +kernel
theorem dX9_dark_22 : decode cX9_dark 22 = .ok (.aload_n 0, 1) := by decide +kernel
theorem dX9_dark_23 : decode cX9_dark 23 = .ok (.getfield 40, 3) := by decide +kernel
theorem dX9_dark_26 : decode cX9_dark 26 = .ok (.aload_n 0, 1) := by decide +kernel
theorem dX9_dark_27 : decode cX9_dark 27 = .ok (.getfield 157, 3) := by decide +kernel
theorem dX9_dark_30 : decode cX9_dark 30 = .ok (.iload_n 1, 1) := by decide +kernel
theorem dX9_dark_31 : decode cX9_dark 31 = .ok (.iastore, 1) := by decide +kernel
theorem dX9_dark_32 : decode cX9_dark 32 = .ok (.aload_n 0, 1) := by decide +kernel
theorem dX9_dark_33 : decode cX9_dark 33 = .ok (.dup, 1) := by decide +kernel
theorem dX9_dark_34 : decode cX9_dark 34 = .ok (.getfield 157, 3) := by decide +kernel
theorem dX9_dark_37 : decode cX9_dark 37 = .ok (.iconst 1, 1) := by decide +kernel
theorem dX9_dark_38 : decode cX9_dark 38 = .ok (.iadd, 1) := by decide +kernel
theorem dX9_dark_39 : decode cX9_dark 39 = .ok (.putfield 157, 3) := by decide +kernel
theorem dX9_dark_42 : decode cX9_dark 42 = .ok (.aload_n 0, 1) := by decide +kernel
theorem dX9_dark_43 : decode cX9_dark 43 = .ok (.getfield 157, 3) := by decide +kernel
theorem dX9_dark_46 : decode cX9_dark 46 = .ok (.ireturn, 1) := by decide +kernel
theorem dX9_back_0 : decode cX9_back 0 = .ok (.iload_n 1, 1) := by decide +kernel
theorem dX9_back_1 : decode cX9_back 1 = .ok (.i2l, 1) := by decide +kernel
theorem dX9_back_2 : decode cX9_back 2 = .ok (.lconst 0, 1) := by decide +kernel
theorem dX9_back_3 : decode cX9_back 3 = .ok (.ldc2_w 83, 3) := by decide +kernel
theorem dX9_back_6 : decode cX9_back 6 = .ok (.invokestatic 70, 3) := by decide +kernel
theorem dX9_back_9 : decode cX9_back 9 = .ok (.ifCond .ne 6, 3) := by decide +kernel
theorem dX9_back_12 : decode cX9_back 12 = .ok (.bipush (-2), 2) := by decide +kernel
theorem dX9_back_14 : decode cX9_back 14 = .ok (.ireturn, 1) := by decide +kernel
theorem dX9_back_15 : decode cX9_back 15 = .ok (.iload_n 1, 1) := by decide +kernel
theorem dX9_back_16 : decode cX9_back 16 = .ok (.ifCond .ne 10, 3) := by decide +kernel
theorem dX9_back_19 : decode cX9_back 19 = .ok (.aload_n 0, 1) := by decide +kernel
theorem dX9_back_20 : decode cX9_back 20 = .ok (.getfield 149, 3) := by decide +kernel
theorem dX9_back_23 : decode cX9_back 23 = .ok (.goto 19, 3) := by decide +kernel
theorem dX9_back_26 : decode cX9_back 26 = .ok (.iload_n 1, 1) := by decide +kernel
theorem dX9_back_27 : decode cX9_back 27 = .ok (.iconst 1, 1) := by decide +kernel
theorem dX9_back_28 : decode cX9_back 28 = .ok (.if_icmp .ne 10, 3) := by decide +kernel
theorem dX9_back_31 : decode cX9_back 31 = .ok (.aload_n 0, 1) := by decide +kernel
theorem dX9_back_32 : decode cX9_back 32 = .ok (.getfield 154, 3) := by decide +kernel
theorem dX9_back_35 : decode cX9_back 35 = .ok (.goto 7, 3) := by decide +kernel
theorem dX9_back_38 : decode cX9_back 38 = .ok (.aload_n 0, 1) := by decide +kernel
theorem dX9_back_39 : decode cX9_back 39 = .ok (.getfield 157, 3) := by decide +kernel
theorem dX9_back_42 : decode cX9_back 42 = .ok (.istore_n 2, 1) := by decide +kernel
theorem dX9_back_43 : decode cX9_back 43 = .ok (.iload_n 2, 1) := by decide +kernel
theorem dX9_back_44 : decode cX9_back 44 = .ok (.ifCond .ne 6, 3) := by decide +kernel
theorem dX9_back_47 : decode cX9_back 47 = .ok (.bipush (-3), 2) := by decide +kernel
theorem dX9_back_49 : decode cX9_back 49 = .ok (.ireturn, 1) := by decide +kernel
theorem dX9_back_50 : decode cX9_back 50 = .ok (.aload_n 0, 1) := by decide +kernel
theorem dX9_back_51 : decode cX9_back 51 = .ok (.dup, 1) := by decide +kernel
theorem dX9_back_52 : decode cX9_back 52 = .ok (.getfield 149, 3) := by decide +kernel
theorem dX9_back_55 : decode cX9_back 55 = .ok (.iload_n 1, 1) := by decide +kernel
theorem dX9_back_56 : decode cX9_back 56 = .ok (.ifCond .ne 7, 3) := by decide +kernel
theorem dX9_back_59 : decode cX9_back 59 = .ok (.iconst 1, 1) := by decide +kernel
theorem dX9_back_60 : decode cX9_back 60 = .ok (.goto 4, 3) := by decide +kernel
theorem dX9_back_63 : decode cX9_back 63 = .ok (.iconst 0, 1) := by decide +kernel
theorem dX9_back_64 : decode cX9_back 64 = .ok (.isub, 1) := by decide +kernel
theorem dX9_back_65 : decode cX9_back 65 = .ok (.putfield 149, 3) := by decide +kernel
theorem dX9_back_68 : decode cX9_back 68 = .ok (.aload_n 0, 1) := by decide +kernel
theorem dX9_back_69 : decode cX9_back 69 = .ok (.dup, 1) := by decide +kernel
theorem dX9_back_70 : decode cX9_back 70 = .ok (.getfield 154, 3) := by decide +kernel
theorem dX9_back_73 : decode cX9_back 73 = .ok (.iload_n 1, 1) := by decide +kernel
theorem dX9_back_74 : decode cX9_back 74 = .ok (.iconst 1, 1) := by decide +kernel
theorem dX9_back_75 : decode cX9_back 75 = .ok (.if_icmp .ne 7, 3) := by decide +kernel
theorem dX9_back_78 : decode cX9_back 78 = .ok (.iconst 1, 1) := by decide +kernel
theorem dX9_back_79 : decode cX9_back 79 = .ok (.goto 4, 3) := by decide +kernel
theorem dX9_back_82 : decode cX9_back 82 = .ok (.iconst 0, 1) := by decide +kernel
theorem dX9_back_83 : decode cX9_back 83 = .ok (.isub, 1) := by decide +kernel
theorem dX9_back_84 : decode cX9_back 84 = .ok (.putfield 154, 3) := by decide +kernel
theorem dX9_back_87 : decode cX9_back 87 = .ok (.aload_n 0, 1) := by decide +kernel
theorem dX9_back_88 : decode cX9_back 88 = .ok (.dup, 1) := by decide +kernel
theorem dX9_back_89 : decode cX9_back 89 = .ok (.getfield 157, 3) := by decide +kernel
theorem dX9_back_92 : decode cX9_back 92 = .ok (.iload_n 1, 1) := by decide +kernel
theorem dX9_back_93 : decode cX9_back 93 = .ok (.iconst 2, 1) := by decide +kernel
theorem dX9_back_94 : decode cX9_back 94 = .ok (.if_icmp .ne 7, 3) := by decide +kernel
theorem dX9_back_97 : decode cX9_back 97 = .ok (.iconst 1, 1) := by decide +kernel
theorem dX9_back_98 : decode cX9_back 98 = .ok (.goto 4, 3) := by decide +kernel
theorem dX9_back_101 : decode cX9_back 101 = .ok (.iconst 0, 1) := by decide +kernel
theorem dX9_back_102 : decode cX9_back 102 = .ok (.isub, 1) := by decide +kernel
theorem dX9_back_103 : decode cX9_back 103 = .ok (.putfield 157, 3) := by decide +kernel
theorem dX9_back_106 : decode cX9_back 106 = .ok (.iload_n 2, 1) := by decide +kernel
theorem dX9_back_107 : decode cX9_back 107 = .ok (.iconst 1, 1) := by decide +kernel
theorem dX9_back_108 : decode cX9_back 108 = .ok (.isub, 1) := by decide +kernel
theorem dX9_back_109 : decode cX9_back 109 = .ok (.ireturn, 1) := by decide +kernel
theorem dX9_read_0 : decode cX9_read 0 = .ok (.iload_n 1, 1) := by decide +kernel
theorem dX9_read_1 : decode cX9_read 1 = .ok (.invokestatic 79, 3) := by decide +kernel
theorem dX9_read_4 : decode cX9_read 4 = .ok (.ifCond .ne 6, 3) := by decide +kernel
theorem dX9_read_7 : decode cX9_read 7 = .ok (.bipush (-2), 2) := by decide +kernel
theorem dX9_read_9 : decode cX9_read 9 = .ok (.ireturn, 1) := by decide +kernel
theorem dX9_read_10 : decode cX9_read 10 = .ok (.aload_n 0, 1) := by decide +kernel
theorem dX9_read_11 : decode cX9_read 11 = .ok (.getfield 7, 3) := by decide +kernel
theorem dX9_read_14 : decode cX9_read 14 = .ok (.iload_n 1, 1) := by decide +kernel
theorem dX9_read_15 : decode cX9_read 15 = .ok (.iaload, 1) := by decide +kernel
theorem dX9_read_16 : decode cX9_read 16 = .ok (.ifCond .ge 9, 3) := by decide +kernel
theorem dX9_read_19 : decode cX9_read 19 = .ok (.aload_n 0, 1) := by decide +kernel
theorem dX9_read_20 : decode cX9_read 20 = .ok (.iconst 1, 1) := by decide +kernel
theorem dX9_read_21 : decode cX9_read 21 = .ok (.invokevirtual 85, 3) := by decide +kernel
theorem dX9_read_24 : decode cX9_read 24 = .ok (.ireturn, 1) := by decide +kernel
theorem dX9_read_25 : decode cX9_read 25 = .ok (.iconst 0, 1) := by decide +kernel
theorem dX9_read_26 : decode cX9_read 26 = .ok (.istore_n 2, 1) := by decide +kernel
theorem dX9_read_27 : decode cX9_read 27 = .ok (.iconst 1, 1) := by decide +kernel
theorem dX9_read_28 : decode cX9_read 28 = .ok (.istore_n 3, 1) := by decide +kernel
theorem dX9_read_29 : decode cX9_read 29 = .ok (.iload_n 3, 1) := by decide +kernel
theorem dX9_read_30 : decode cX9_read 30 = .ok (.ifCond .eq 73, 3) := by decide +kernel
theorem dX9_read_33 : decode cX9_read 33 = .ok (.iconst 2, 1) := by decide +kernel
theorem dX9_read_34 : decode cX9_read 34 = .ok (.iload_n 2, 1) := by decide +kernel
theorem dX9_read_35 : decode cX9_read 35 = .ok (.imul, 1) := by decide +kernel
theorem dX9_read_36 : decode cX9_read 36 = .ok (.iconst 2, 1) := by decide +kernel
theorem dX9_read_37 : decode cX9_read 37 = .ok (.iadd, 1) := by decide +kernel
theorem dX9_read_38 : decode cX9_read 38 = .ok (.aload_n 0, 1) := by decide +kernel
theorem dX9_read_39 : decode cX9_read 39 = .ok (.getfield 13, 3) := by decide +kernel
theorem dX9_read_42 : decode cX9_read 42 = .ok (.iload_n 1, 1) := by decide +kernel
theorem dX9_read_43 : decode cX9_read 43 = .ok (.iaload, 1) := by decide +kernel
theorem dX9_read_44 : decode cX9_read 44 = .ok (.if_icmp .gt 59, 3) := by decide +kernel
theorem dX9_read_47 : decode cX9_read 47 = .ok (.aload_n 0, 1) := by decide +kernel
theorem dX9_read_48 : decode cX9_read 48 = .ok (.aload_n 0, 1) := by decide +kernel
theorem dX9_read_49 : decode cX9_read 49 = .ok (.getfield 16, 3) := by decide +kernel
theorem dX9_read_52 : decode cX9_read 52 = .ok (.bipush 60, 2) := by decide +kernel
theorem dX9_read_54 : decode cX9_read 54 = .ok (.iload_n 1, 1) := by decide +kernel
theorem dX9_read_55 : decode cX9_read 55 = .ok (.imul, 1) := by decide +kernel
theorem dX9_read_56 : decode cX9_read 56 = .ok (.iconst 2, 1) := by decide +kernel
theorem dX9_read_57 : decode cX9_read 57 = .ok (.iload_n 2, 1) := by decide +kernel
theorem dX9_read_58 : decode cX9_read 58 = .ok (.imul, 1) := by decide +kernel
theorem dX9_read_59 : decode cX9_read 59 = .ok (.iadd, 1) := by decide +kernel
theorem dX9_read_60 : decode cX9_read 60 = .ok (.iaload, 1) := by decide +kernel
theorem dX9_read_61 : decode cX9_read 61 = .ok (.aload_n 0, 1) := by decide +kernel
theorem dX9_read_62 : decode cX9_read 62 = .ok (.getfield 16, 3) := by decide +kernel
theorem dX9_read_65 : decode cX9_read 65 = .ok (.bipush 60, 2) := by decide +kernel
theorem dX9_read_67 : decode cX9_read 67 = .ok (.iload_n 1, 1) := by decide +kernel
theorem dX9_read_68 : decode cX9_read 68 = .ok (.imul, 1) := by decide +kernel
theorem dX9_read_69 : decode cX9_read 69 = .ok (.iconst 2, 1) := by decide +kernel
theorem dX9_read_70 : decode cX9_read 70 = .ok (.iload_n 2, 1) := by decide +kernel
theorem dX9_read_71 : decode cX9_read 71 = .ok (.imul, 1) := by decide +kernel
theorem dX9_read_72 : decode cX9_read 72 = .ok (.iadd, 1) := by decide +kernel
theorem dX9_read_73 : decode cX9_read 73 = .ok (.iconst 1, 1) := by decide +kernel
theorem dX9_read_74 : decode cX9_read 74 = .ok (.iadd, 1) := by decide +kernel
theorem dX9_read_75 : decode cX9_read 75 = .ok (.iaload, 1) := by decide +kernel
theorem dX9_read_76 : decode cX9_read 76 = .ok (.invokevirtual 160, 3) := by decide +kernel
theorem dX9_read_79 : decode cX9_read 79 = .ok (.ifCond .lt 7, 3) := by decide +kernel
theorem dX9_read_82 : decode cX9_read 82 = .ok (.iconst 1, 1) := by decide +kernel
theorem dX9_read_83 : decode cX9_read 83 = .ok (.goto 4, 3) := by decide +kernel
theorem dX9_read_86 : decode cX9_read 86 = .ok (.iconst 0, 1) := by decide +kernel
theorem dX9_read_87 : decode cX9_read 87 = .ok (.istore_n 3, 1) := by decide +kernel
theorem dX9_read_88 : decode cX9_read 88 = .ok (.iload_n 2, 1) := by decide +kernel
theorem dX9_read_89 : decode cX9_read 89 = .ok (.iload_n 3, 1) := by decide +kernel
theorem dX9_read_90 : decode cX9_read 90 = .ok (.ifCond .eq 7, 3) := by decide +kernel
theorem dX9_read_93 : decode cX9_read 93 = .ok (.iconst 1, 1) := by decide +kernel
theorem dX9_read_94 : decode cX9_read 94 = .ok (.goto 4, 3) := by decide +kernel
theorem dX9_read_97 : decode cX9_read 97 = .ok (.iconst 0, 1) := by decide +kernel
theorem dX9_read_98 : decode cX9_read 98 = .ok (.iadd, 1) := by decide +kernel
theorem dX9_read_99 : decode cX9_read 99 = .ok (.istore_n 2, 1) := by decide +kernel
theorem dX9_read_100 : decode cX9_read 100 = .ok (.goto (-71), 3) := by decide +kernel
theorem dX9_read_103 : decode cX9_read 103 = .ok (.iload_n 2, 1) := by decide +kernel
theorem dX9_read_104 : decode cX9_read 104 = .ok (.ireturn, 1) := by decide +kernel
theorem dX9_isDark_0 : decode cX9_isDark 0 = .ok (.iload_n 1, 1) := by decide +kernel
theorem dX9_isDark_1 : decode cX9_isDark 1 = .ok (.ifCond .ne 7, 3) := by decide +kernel
theorem dX9_isDark_4 : decode cX9_isDark 4 = .ok (.iconst 1, 1) := by decide +kernel
theorem dX9_isDark_5 : decode cX9_isDark 5 = .ok (.goto 4, 3) := by decide +kernel
theorem dX9_isDark_8 : decode cX9_isDark 8 = .ok (.iconst 0, 1) := by decide +kernel
theorem dX9_isDark_9 : decode cX9_isDark 9 = .ok (.istore_n 2, 1) := by decide +kernel
theorem dX9_isDark_10 : decode cX9_isDark 10 = .ok (.iconst 0, 1) := by decide +kernel
theorem dX9_isDark_11 : decode cX9_isDark 11 = .ok (.istore_n 3, 1) := by decide +kernel
theorem dX9_isDark_12 : decode cX9_isDark 12 = .ok (.iload_n 3, 1) := by decide +kernel
theorem dX9_isDark_13 : decode cX9_isDark 13 = .ok (.aload_n 0, 1) := by decide +kernel
theorem dX9_isDark_14 : decode cX9_isDark 14 = .ok (.getfield 157, 3) := by decide +kernel
theorem dX9_isDark_17 : decode cX9_isDark 17 = .ok (.if_icmp .ge 29, 3) := by decide +kernel
theorem dX9_isDark_20 : decode cX9_isDark 20 = .ok (.iload_n 2, 1) := by decide +kernel
theorem dX9_isDark_21 : decode cX9_isDark 21 = .ok (.ifCond .ne 13, 3) := by decide +kernel
theorem dX9_isDark_24 : decode cX9_isDark 24 = .ok (.aload_n 0, 1) := by decide +kernel
theorem dX9_isDark_25 : decode cX9_isDark 25 = .ok (.getfield 40, 3) := by decide +kernel
theorem dX9_isDark_28 : decode cX9_isDark 28 = .ok (.iload_n 3, 1) := by decide +kernel
theorem dX9_isDark_29 : decode cX9_isDark 29 = .ok (.iaload, 1) := by decide +kernel
theorem dX9_isDark_30 : decode cX9_isDark 30 = .ok (.iload_n 1, 1) := by decide +kernel
theorem dX9_isDark_31 : decode cX9_isDark 31 = .ok (.if_icmp .ne 7, 3) := by decide +kernel
theorem dX9_isDark_34 : decode cX9_isDark 34 = .ok (.iconst 1, 1) := by decide +kernel
theorem dX9_isDark_35 : decode cX9_isDark 35 = .ok (.goto 4, 3) := by decide +kernel
theorem dX9_isDark_38 : decode cX9_isDark 38 = .ok (.iconst 0, 1) := by decide +kernel
theorem dX9_isDark_39 : decode cX9_isDark 39 = .ok (.istore_n 2, 1) := by decide +kernel
theorem dX9_isDark_40 : decode cX9_isDark 40 = .ok (.iinc 3 1, 3) := by decide +kernel
theorem dX9_isDark_43 : decode cX9_isDark 43 = .ok (.goto (-31), 3) := by decide +kernel
theorem dX9_isDark_46 : decode cX9_isDark 46 = .ok (.iload_n 2, 1) := by decide +kernel
theorem dX9_isDark_47 : decode cX9_isDark 47 = .ok (.ireturn, 1) := by decide +kernel
theorem dX9_whereAt_0 : decode cX9_whereAt 0 = .ok (.iconst (-1), 1) := by decide +kernel
theorem dX9_whereAt_1 : decode cX9_whereAt 1 = .ok (.istore_n 2, 1) := by decide +kernel
theorem dX9_whereAt_2 : decode cX9_whereAt 2 = .ok (.iconst 0, 1) := by decide +kernel
theorem dX9_whereAt_3 : decode cX9_whereAt 3 = .ok (.istore_n 3, 1) := by decide +kernel
theorem dX9_whereAt_4 : decode cX9_whereAt 4 = .ok (.iconst 0, 1) := by decide +kernel
theorem dX9_whereAt_5 : decode cX9_whereAt 5 = .ok (.istore 4, 2) := by decide +kernel
theorem dX9_whereAt_7 : decode cX9_whereAt 7 = .ok (.iload 4, 2) := by decide +kernel
theorem dX9_whereAt_9 : decode cX9_whereAt 9 = .ok (.aload_n 0, 1) := by decide +kernel
theorem dX9_whereAt_10 : decode cX9_whereAt 10 = .ok (.getfield 149, 3) := by decide +kernel
theorem dX9_whereAt_13 : decode cX9_whereAt 13 = .ok (.if_icmp .ge 51, 3) := by decide +kernel
theorem dX9_whereAt_16 : decode cX9_whereAt 16 = .ok (.aload_n 0, 1) := by decide +kernel
theorem dX9_whereAt_17 : decode cX9_whereAt 17 = .ok (.getfield 34, 3) := by decide +kernel
theorem dX9_whereAt_20 : decode cX9_whereAt 20 = .ok (.iconst 2, 1) := by decide +kernel
theorem dX9_whereAt_21 : decode cX9_whereAt 21 = .ok (.iload 4, 2) := by decide +kernel
theorem dX9_whereAt_23 : decode cX9_whereAt 23 = .ok (.imul, 1) := by decide +kernel
theorem dX9_whereAt_24 : decode cX9_whereAt 24 = .ok (.iaload, 1) := by decide +kernel
theorem dX9_whereAt_25 : decode cX9_whereAt 25 = .ok (.i2l, 1) := by decide +kernel
theorem dX9_whereAt_26 : decode cX9_whereAt 26 = .ok (.iload_n 2, 1) := by decide +kernel
theorem dX9_whereAt_27 : decode cX9_whereAt 27 = .ok (.i2l, 1) := by decide +kernel
theorem dX9_whereAt_28 : decode cX9_whereAt 28 = .ok (.iload_n 1, 1) := by decide +kernel
theorem dX9_whereAt_29 : decode cX9_whereAt 29 = .ok (.i2l, 1) := by decide +kernel
theorem dX9_whereAt_30 : decode cX9_whereAt 30 = .ok (.invokestatic 70, 3) := by decide +kernel
theorem dX9_whereAt_33 : decode cX9_whereAt 33 = .ok (.ifCond .eq 25, 3) := by decide +kernel
theorem dX9_whereAt_36 : decode cX9_whereAt 36 = .ok (.aload_n 0, 1) := by decide +kernel
theorem dX9_whereAt_37 : decode cX9_whereAt 37 = .ok (.getfield 34, 3) := by decide +kernel
theorem dX9_whereAt_40 : decode cX9_whereAt 40 = .ok (.iconst 2, 1) := by decide +kernel
theorem dX9_whereAt_41 : decode cX9_whereAt 41 = .ok (.iload 4, 2) := by decide +kernel
theorem dX9_whereAt_43 : decode cX9_whereAt 43 = .ok (.imul, 1) := by decide +kernel
theorem dX9_whereAt_44 : decode cX9_whereAt 44 = .ok (.iaload, 1) := by decide +kernel
theorem dX9_whereAt_45 : decode cX9_whereAt 45 = .ok (.istore_n 2, 1) := by decide +kernel
theorem dX9_whereAt_46 : decode cX9_whereAt 46 = .ok (.aload_n 0, 1) := by decide +kernel
theorem dX9_whereAt_47 : decode cX9_whereAt 47 = .ok (.getfield 34, 3) := by decide +kernel
theorem dX9_whereAt_50 : decode cX9_whereAt 50 = .ok (.iconst 2, 1) := by decide +kernel
theorem dX9_whereAt_51 : decode cX9_whereAt 51 = .ok (.iload 4, 2) := by decide +kernel
theorem dX9_whereAt_53 : decode cX9_whereAt 53 = .ok (.imul, 1) := by decide +kernel
theorem dX9_whereAt_54 : decode cX9_whereAt 54 = .ok (.iconst 1, 1) := by decide +kernel
theorem dX9_whereAt_55 : decode cX9_whereAt 55 = .ok (.iadd, 1) := by decide +kernel
theorem dX9_whereAt_56 : decode cX9_whereAt 56 = .ok (.iaload, 1) := by decide +kernel
theorem dX9_whereAt_57 : decode cX9_whereAt 57 = .ok (.istore_n 3, 1) := by decide +kernel
theorem dX9_whereAt_58 : decode cX9_whereAt 58 = .ok (.iinc 4 1, 3) := by decide +kernel
theorem dX9_whereAt_61 : decode cX9_whereAt 61 = .ok (.goto (-54), 3) := by decide +kernel
theorem dX9_whereAt_64 : decode cX9_whereAt 64 = .ok (.iload_n 3, 1) := by decide +kernel
theorem dX9_whereAt_65 : decode cX9_whereAt 65 = .ok (.ireturn, 1) := by decide +kernel
theorem dX9_plain_0 : decode cX9_plain 0 = .ok (.aload_n 0, 1) := by decide +kernel
theorem dX9_plain_1 : decode cX9_plain 1 = .ok (.invokevirtual 130, 3) := by decide +kernel
theorem dX9_plain_4 : decode cX9_plain 4 = .ok (.iconst 0, 1) := by decide +kernel
theorem dX9_plain_5 : decode cX9_plain 5 = .ok (.istore_n 1, 1) := by decide +kernel
theorem dX9_plain_6 : decode cX9_plain 6 = .ok (.iload_n 1, 1) := by decide +kernel
theorem dX9_plain_7 : decode cX9_plain 7 = .ok (.bipush 40, 2) := by decide +kernel
theorem dX9_plain_9 : decode cX9_plain 9 = .ok (.if_icmp .ge 27, 3) := by decide +kernel
theorem dX9_plain_12 : decode cX9_plain 12 = .ok (.aload_n 0, 1) := by decide +kernel
theorem dX9_plain_13 : decode cX9_plain 13 = .ok (.getfield 43, 3) := by decide +kernel
theorem dX9_plain_16 : decode cX9_plain 16 = .ok (.iload_n 1, 1) := by decide +kernel
theorem dX9_plain_17 : decode cX9_plain 17 = .ok (.iconst 0, 1) := by decide +kernel
theorem dX9_plain_18 : decode cX9_plain 18 = .ok (.iastore, 1) := by decide +kernel
theorem dX9_plain_19 : decode cX9_plain 19 = .ok (.aload_n 0, 1) := by decide +kernel
theorem dX9_plain_20 : decode cX9_plain 20 = .ok (.getfield 46, 3) := by decide +kernel
theorem dX9_plain_23 : decode cX9_plain 23 = .ok (.iload_n 1, 1) := by decide +kernel
theorem dX9_plain_24 : decode cX9_plain 24 = .ok (.aload_n 0, 1) := by decide +kernel
theorem dX9_plain_25 : decode cX9_plain 25 = .ok (.iload_n 1, 1) := by decide +kernel
theorem dX9_plain_26 : decode cX9_plain 26 = .ok (.invokevirtual 162, 3) := by decide +kernel
theorem dX9_plain_29 : decode cX9_plain 29 = .ok (.iastore, 1) := by decide +kernel
theorem dX9_plain_30 : decode cX9_plain 30 = .ok (.iinc 1 1, 3) := by decide +kernel
theorem dX9_plain_33 : decode cX9_plain 33 = .ok (.goto (-27), 3) := by decide +kernel
theorem dX9_plain_36 : decode cX9_plain 36 = .ok (.iconst 0, 1) := by decide +kernel
theorem dX9_plain_37 : decode cX9_plain 37 = .ok (.istore_n 1, 1) := by decide +kernel
theorem dX9_plain_38 : decode cX9_plain 38 = .ok (.iload_n 1, 1) := by decide +kernel
theorem dX9_plain_39 : decode cX9_plain 39 = .ok (.aload_n 0, 1) := by decide +kernel
theorem dX9_plain_40 : decode cX9_plain 40 = .ok (.getfield 154, 3) := by decide +kernel
theorem dX9_plain_43 : decode cX9_plain 43 = .ok (.if_icmp .ge 37, 3) := by decide +kernel
theorem dX9_plain_46 : decode cX9_plain 46 = .ok (.aload_n 0, 1) := by decide +kernel
theorem dX9_plain_47 : decode cX9_plain 47 = .ok (.getfield 43, 3) := by decide +kernel
theorem dX9_plain_50 : decode cX9_plain 50 = .ok (.aload_n 0, 1) := by decide +kernel
theorem dX9_plain_51 : decode cX9_plain 51 = .ok (.getfield 37, 3) := by decide +kernel
theorem dX9_plain_54 : decode cX9_plain 54 = .ok (.iconst 2, 1) := by decide +kernel
theorem dX9_plain_55 : decode cX9_plain 55 = .ok (.iload_n 1, 1) := by decide +kernel
theorem dX9_plain_56 : decode cX9_plain 56 = .ok (.imul, 1) := by decide +kernel
theorem dX9_plain_57 : decode cX9_plain 57 = .ok (.iaload, 1) := by decide +kernel
theorem dX9_plain_58 : decode cX9_plain 58 = .ok (.dup2, 1) := by decide +kernel
theorem dX9_plain_59 : decode cX9_plain 59 = .ok (.iaload, 1) := by decide +kernel
theorem dX9_plain_60 : decode cX9_plain 60 = .ok (.iconst 1, 1) := by decide +kernel
theorem dX9_plain_61 : decode cX9_plain 61 = .ok (.aload_n 0, 1) := by decide +kernel
theorem dX9_plain_62 : decode cX9_plain 62 = .ok (.getfield 37, 3) := by decide +kernel
theorem dX9_plain_65 : decode cX9_plain 65 = .ok (.iconst 2, 1) := by decide +kernel
theorem dX9_plain_66 : decode cX9_plain 66 = .ok (.iload_n 1, 1) := by decide +kernel
theorem dX9_plain_67 : decode cX9_plain 67 = .ok (.imul, 1) := by decide +kernel
theorem dX9_plain_68 : decode cX9_plain 68 = .ok (.iconst 1, 1) := by decide +kernel
theorem dX9_plain_69 : decode cX9_plain 69 = .ok (.iadd, 1) := by decide +kernel
theorem dX9_plain_70 : decode cX9_plain 70 = .ok (.iaload, 1) := by decide +kernel
theorem dX9_plain_71 : decode cX9_plain 71 = .ok (.ishl, 1) := by decide +kernel
theorem dX9_plain_72 : decode cX9_plain 72 = .ok (.ior, 1) := by decide +kernel
theorem dX9_plain_73 : decode cX9_plain 73 = .ok (.iastore, 1) := by decide +kernel
theorem dX9_plain_74 : decode cX9_plain 74 = .ok (.iinc 1 1, 3) := by decide +kernel
theorem dX9_plain_77 : decode cX9_plain 77 = .ok (.goto (-39), 3) := by decide +kernel
theorem dX9_plain_80 : decode cX9_plain 80 = .ok (.return_, 1) := by decide +kernel
theorem dX9_habitOf_0 : decode cX9_habitOf 0 = .ok (.aload_n 0, 1) := by decide +kernel
theorem dX9_habitOf_1 : decode cX9_habitOf 1 = .ok (.getfield 31, 3) := by decide +kernel
theorem dX9_habitOf_4 : decode cX9_habitOf 4 = .ok (.iconst 4, 1) := by decide +kernel
theorem dX9_habitOf_5 : decode cX9_habitOf 5 = .ok (.iload_n 1, 1) := by decide +kernel
theorem dX9_habitOf_6 : decode cX9_habitOf 6 = .ok (.imul, 1) := by decide +kernel
theorem dX9_habitOf_7 : decode cX9_habitOf 7 = .ok (.iconst 3, 1) := by decide +kernel
theorem dX9_habitOf_8 : decode cX9_habitOf 8 = .ok (.iadd, 1) := by decide +kernel
theorem dX9_habitOf_9 : decode cX9_habitOf 9 = .ok (.iaload, 1) := by decide +kernel
theorem dX9_habitOf_10 : decode cX9_habitOf 10 = .ok (.istore_n 3, 1) := by decide +kernel
theorem dX9_habitOf_11 : decode cX9_habitOf 11 = .ok (.aload_n 0, 1) := by decide +kernel
theorem dX9_habitOf_12 : decode cX9_habitOf 12 = .ok (.iload_n 2, 1) := by decide +kernel
theorem dX9_habitOf_13 : decode cX9_habitOf 13 = .ok (.iconst 1, 1) := by decide +kernel
theorem dX9_habitOf_14 : decode cX9_habitOf 14 = .ok (.invokevirtual 141, 3) := by decide +kernel
theorem dX9_habitOf_17 : decode cX9_habitOf 17 = .ok (.istore 4, 2) := by decide +kernel
theorem dX9_habitOf_19 : decode cX9_habitOf 19 = .ok (.aload_n 0, 1) := by decide +kernel
theorem dX9_habitOf_20 : decode cX9_habitOf 20 = .ok (.getfield 31, 3) := by decide +kernel
theorem dX9_habitOf_23 : decode cX9_habitOf 23 = .ok (.iconst 4, 1) := by decide +kernel
theorem dX9_habitOf_24 : decode cX9_habitOf 24 = .ok (.iload_n 1, 1) := by decide +kernel
theorem dX9_habitOf_25 : decode cX9_habitOf 25 = .ok (.imul, 1) := by decide +kernel
theorem dX9_habitOf_26 : decode cX9_habitOf 26 = .ok (.iconst 2, 1) := by decide +kernel
theorem dX9_habitOf_27 : decode cX9_habitOf 27 = .ok (.iadd, 1) := by decide +kernel
theorem dX9_habitOf_28 : decode cX9_habitOf 28 = .ok (.iaload, 1) := by decide +kernel
theorem dX9_habitOf_29 : decode cX9_habitOf 29 = .ok (.tableswitch 44 0 2 #[27, 30, 32], 27) := by decide +kernel
theorem dX9_habitOf_56 : decode cX9_habitOf 56 = .ok (.iload 4, 2) := by decide +kernel
theorem dX9_habitOf_58 : decode cX9_habitOf 58 = .ok (.ireturn, 1) := by decide +kernel
theorem dX9_habitOf_59 : decode cX9_habitOf 59 = .ok (.iload_n 2, 1) := by decide +kernel
theorem dX9_habitOf_60 : decode cX9_habitOf 60 = .ok (.ireturn, 1) := by decide +kernel
theorem dX9_habitOf_61 : decode cX9_habitOf 61 = .ok (.iload_n 2, 1) := by decide +kernel
theorem dX9_habitOf_62 : decode cX9_habitOf 62 = .ok (.iload_n 3, 1) := by decide +kernel
theorem dX9_habitOf_63 : decode cX9_habitOf 63 = .ok (.if_icmp .ne 8, 3) := by decide +kernel
theorem dX9_habitOf_66 : decode cX9_habitOf 66 = .ok (.iload 4, 2) := by decide +kernel
theorem dX9_habitOf_68 : decode cX9_habitOf 68 = .ok (.goto 4, 3) := by decide +kernel
theorem dX9_habitOf_71 : decode cX9_habitOf 71 = .ok (.iload_n 3, 1) := by decide +kernel
theorem dX9_habitOf_72 : decode cX9_habitOf 72 = .ok (.ireturn, 1) := by decide +kernel
theorem dX9_habitOf_73 : decode cX9_habitOf 73 = .ok (.iload 4, 2) := by decide +kernel
theorem dX9_habitOf_75 : decode cX9_habitOf 75 = .ok (.iload_n 3, 1) := by decide +kernel
theorem dX9_habitOf_76 : decode cX9_habitOf 76 = .ok (.if_icmp .eq 13, 3) := by decide +kernel
theorem dX9_habitOf_79 : decode cX9_habitOf 79 = .ok (.aload_n 0, 1) := by decide +kernel
theorem dX9_habitOf_80 : decode cX9_habitOf 80 = .ok (.iload_n 2, 1) := by decide +kernel
theorem dX9_habitOf_81 : decode cX9_habitOf 81 = .ok (.iconst (-1), 1) := by decide +kernel
theorem dX9_habitOf_82 : decode cX9_habitOf 82 = .ok (.invokevirtual 141, 3) := by decide +kernel
theorem dX9_habitOf_85 : decode cX9_habitOf 85 = .ok (.iload_n 3, 1) := by decide +kernel
theorem dX9_habitOf_86 : decode cX9_habitOf 86 = .ok (.if_icmp .ne 7, 3) := by decide +kernel
theorem dX9_habitOf_89 : decode cX9_habitOf 89 = .ok (.iload_n 3, 1) := by decide +kernel
theorem dX9_habitOf_90 : decode cX9_habitOf 90 = .ok (.goto 4, 3) := by decide +kernel
theorem dX9_habitOf_93 : decode cX9_habitOf 93 = .ok (.iload_n 2, 1) := by decide +kernel
theorem dX9_habitOf_94 : decode cX9_habitOf 94 = .ok (.ireturn, 1) := by decide +kernel
theorem dX9_whispersNow_0 : decode cX9_whispersNow 0 = .ok (.aload_n 0, 1) := by decide +kernel
theorem dX9_whispersNow_1 : decode cX9_whispersNow 1 = .ok (.iload_n 1, 1) := by decide +kernel
theorem dX9_whispersNow_2 : decode cX9_whispersNow 2 = .ok (.invokevirtual 165, 3) := by decide +kernel
theorem dX9_whispersNow_5 : decode cX9_whispersNow 5 = .ok (.ifCond .ne 10, 3) := by decide +kernel
theorem dX9_whispersNow_8 : decode cX9_whispersNow 8 = .ok (.aload_n 0, 1) := by decide +kernel
theorem dX9_whispersNow_9 : decode cX9_whispersNow 9 = .ok (.getfield 103, 3) := by decide +kernel
theorem dX9_whispersNow_12 : decode cX9_whispersNow 12 = .ok (.ifCond .ne 5, 3) := by decide +kernel
theorem dX9_whispersNow_15 : decode cX9_whispersNow 15 = .ok (.iconst (-1), 1) := by decide +kernel
theorem dX9_whispersNow_16 : decode cX9_whispersNow 16 = .ok (.ireturn, 1) := by decide +kernel
theorem dX9_whispersNow_17 : decode cX9_whispersNow 17 = .ok (.aload_n 0, 1) := by decide +kernel
theorem dX9_whispersNow_18 : decode cX9_whispersNow 18 = .ok (.getfield 31, 3) := by decide +kernel
theorem dX9_whispersNow_21 : decode cX9_whispersNow 21 = .ok (.iconst 4, 1) := by decide +kernel
theorem dX9_whispersNow_22 : decode cX9_whispersNow 22 = .ok (.iload_n 2, 1) := by decide +kernel
theorem dX9_whispersNow_23 : decode cX9_whispersNow 23 = .ok (.imul, 1) := by decide +kernel
theorem dX9_whispersNow_24 : decode cX9_whispersNow 24 = .ok (.iconst 1, 1) := by decide +kernel
theorem dX9_whispersNow_25 : decode cX9_whispersNow 25 = .ok (.iadd, 1) := by decide +kernel
theorem dX9_whispersNow_26 : decode cX9_whispersNow 26 = .ok (.iaload, 1) := by decide +kernel
theorem dX9_whispersNow_27 : decode cX9_whispersNow 27 = .ok (.iload_n 2, 1) := by decide +kernel
theorem dX9_whispersNow_28 : decode cX9_whispersNow 28 = .ok (.aload_n 0, 1) := by decide +kernel
theorem dX9_whispersNow_29 : decode cX9_whispersNow 29 = .ok (.getfield 61, 3) := by decide +kernel
theorem dX9_whispersNow_32 : decode cX9_whispersNow 32 = .ok (.if_icmp .ne 7, 3) := by decide +kernel
theorem dX9_whispersNow_35 : decode cX9_whispersNow 35 = .ok (.iconst 1, 1) := by decide +kernel
theorem dX9_whispersNow_36 : decode cX9_whispersNow 36 = .ok (.goto 4, 3) := by decide +kernel
theorem dX9_whispersNow_39 : decode cX9_whispersNow 39 = .ok (.iconst 0, 1) := by decide +kernel
theorem dX9_whispersNow_40 : decode cX9_whispersNow 40 = .ok (.iadd, 1) := by decide +kernel
theorem dX9_whispersNow_41 : decode cX9_whispersNow 41 = .ok (.istore_n 3, 1) := by decide +kernel
theorem dX9_whispersNow_42 : decode cX9_whispersNow 42 = .ok (.aload_n 0, 1) := by decide +kernel
theorem dX9_whispersNow_43 : decode cX9_whispersNow 43 = .ok (.getfield 46, 3) := by decide +kernel
theorem dX9_whispersNow_46 : decode cX9_whispersNow 46 = .ok (.iload_n 1, 1) := by decide +kernel
theorem dX9_whispersNow_47 : decode cX9_whispersNow 47 = .ok (.iconst 1, 1) := by decide +kernel
theorem dX9_whispersNow_48 : decode cX9_whispersNow 48 = .ok (.isub, 1) := by decide +kernel
theorem dX9_whispersNow_49 : decode cX9_whispersNow 49 = .ok (.iaload, 1) := by decide +kernel
theorem dX9_whispersNow_50 : decode cX9_whispersNow 50 = .ok (.aload_n 0, 1) := by decide +kernel
theorem dX9_whispersNow_51 : decode cX9_whispersNow 51 = .ok (.getfield 31, 3) := by decide +kernel
theorem dX9_whispersNow_54 : decode cX9_whispersNow 54 = .ok (.iconst 4, 1) := by decide +kernel
theorem dX9_whispersNow_55 : decode cX9_whispersNow 55 = .ok (.iload_n 2, 1) := by decide +kernel
theorem dX9_whispersNow_56 : decode cX9_whispersNow 56 = .ok (.imul, 1) := by decide +kernel
theorem dX9_whispersNow_57 : decode cX9_whispersNow 57 = .ok (.iaload, 1) := by decide +kernel
theorem dX9_whispersNow_58 : decode cX9_whispersNow 58 = .ok (.isub, 1) := by decide +kernel
theorem dX9_whispersNow_59 : decode cX9_whispersNow 59 = .ok (.invokestatic 168, 3) := by decide +kernel
theorem dX9_whispersNow_62 : decode cX9_whispersNow 62 = .ok (.iload_n 3, 1) := by decide +kernel
theorem dX9_whispersNow_63 : decode cX9_whispersNow 63 = .ok (.if_icmp .le 5, 3) := by decide +kernel
theorem dX9_whispersNow_66 : decode cX9_whispersNow 66 = .ok (.iconst (-1), 1) := by decide +kernel
theorem dX9_whispersNow_67 : decode cX9_whispersNow 67 = .ok (.ireturn, 1) := by decide +kernel
theorem dX9_whispersNow_68 : decode cX9_whispersNow 68 = .ok (.aload_n 0, 1) := by decide +kernel
theorem dX9_whispersNow_69 : decode cX9_whispersNow 69 = .ok (.iload_n 2, 1) := by decide +kernel
theorem dX9_whispersNow_70 : decode cX9_whispersNow 70 = .ok (.aload_n 0, 1) := by decide +kernel
theorem dX9_whispersNow_71 : decode cX9_whispersNow 71 = .ok (.getfield 49, 3) := by decide +kernel
theorem dX9_whispersNow_74 : decode cX9_whispersNow 74 = .ok (.iload_n 1, 1) := by decide +kernel
theorem dX9_whispersNow_75 : decode cX9_whispersNow 75 = .ok (.iconst 1, 1) := by decide +kernel
theorem dX9_whispersNow_76 : decode cX9_whispersNow 76 = .ok (.isub, 1) := by decide +kernel
theorem dX9_whispersNow_77 : decode cX9_whispersNow 77 = .ok (.iaload, 1) := by decide +kernel
theorem dX9_whispersNow_78 : decode cX9_whispersNow 78 = .ok (.invokevirtual 171, 3) := by decide +kernel
theorem dX9_whispersNow_81 : decode cX9_whispersNow 81 = .ok (.istore 4, 2) := by decide +kernel
theorem dX9_whispersNow_83 : decode cX9_whispersNow 83 = .ok (.aload_n 0, 1) := by decide +kernel
theorem dX9_whispersNow_84 : decode cX9_whispersNow 84 = .ok (.getfield 43, 3) := by decide +kernel
theorem dX9_whispersNow_87 : decode cX9_whispersNow 87 = .ok (.iload_n 1, 1) := by decide +kernel
theorem dX9_whispersNow_88 : decode cX9_whispersNow 88 = .ok (.iaload, 1) := by decide +kernel
theorem dX9_whispersNow_89 : decode cX9_whispersNow 89 = .ok (.iload_n 2, 1) := by decide +kernel
theorem dX9_whispersNow_90 : decode cX9_whispersNow 90 = .ok (.invokestatic 174, 3) := by decide +kernel
theorem dX9_whispersNow_93 : decode cX9_whispersNow 93 = .ok (.ifCond .eq 13, 3) := by decide +kernel
theorem dX9_whispersNow_96 : decode cX9_whispersNow 96 = .ok (.iload 4, 2) := by decide +kernel
theorem dX9_whispersNow_98 : decode cX9_whispersNow 98 = .ok (.iconst 1, 1) := by decide +kernel
theorem dX9_whispersNow_99 : decode cX9_whispersNow 99 = .ok (.iadd, 1) := by decide +kernel
theorem dX9_whispersNow_100 : decode cX9_whispersNow 100 = .ok (.bipush 8, 2) := by decide +kernel
theorem dX9_whispersNow_102 : decode cX9_whispersNow 102 = .ok (.irem, 1) := by decide +kernel
theorem dX9_whispersNow_103 : decode cX9_whispersNow 103 = .ok (.goto 5, 3) := by decide +kernel
theorem dX9_whispersNow_106 : decode cX9_whispersNow 106 = .ok (.iload 4, 2) := by decide +kernel
theorem dX9_whispersNow_108 : decode cX9_whispersNow 108 = .ok (.ireturn, 1) := by decide +kernel
theorem dX9_plays_0 : decode cX9_plays 0 = .ok (.aload_n 0, 1) := by decide +kernel
theorem dX9_plays_1 : decode cX9_plays 1 = .ok (.getfield 52, 3) := by decide +kernel
theorem dX9_plays_4 : decode cX9_plays 4 = .ok (.iload_n 1, 1) := by decide +kernel
theorem dX9_plays_5 : decode cX9_plays 5 = .ok (.iconst (-1), 1) := by decide +kernel
theorem dX9_plays_6 : decode cX9_plays 6 = .ok (.iastore, 1) := by decide +kernel
theorem dX9_plays_7 : decode cX9_plays 7 = .ok (.aload_n 0, 1) := by decide +kernel
theorem dX9_plays_8 : decode cX9_plays 8 = .ok (.getfield 103, 3) := by decide +kernel
theorem dX9_plays_11 : decode cX9_plays 11 = .ok (.ifCond .ne 13, 3) := by decide +kernel
theorem dX9_plays_14 : decode cX9_plays 14 = .ok (.aload_n 0, 1) := by decide +kernel
theorem dX9_plays_15 : decode cX9_plays 15 = .ok (.getfield 49, 3) := by decide +kernel
theorem dX9_plays_18 : decode cX9_plays 18 = .ok (.iload_n 1, 1) := by decide +kernel
theorem dX9_plays_19 : decode cX9_plays 19 = .ok (.iconst (-1), 1) := by decide +kernel
theorem dX9_plays_20 : decode cX9_plays 20 = .ok (.iastore, 1) := by decide +kernel
theorem dX9_plays_21 : decode cX9_plays 21 = .ok (.goto 143, 3) := by decide +kernel
theorem dX9_plays_24 : decode cX9_plays 24 = .ok (.iload_n 1, 1) := by decide +kernel
theorem dX9_plays_25 : decode cX9_plays 25 = .ok (.aload_n 0, 1) := by decide +kernel
theorem dX9_plays_26 : decode cX9_plays 26 = .ok (.getfield 65, 3) := by decide +kernel
theorem dX9_plays_29 : decode cX9_plays 29 = .ok (.if_icmp .ne 16, 3) := by decide +kernel
theorem dX9_plays_32 : decode cX9_plays 32 = .ok (.aload_n 0, 1) := by decide +kernel
theorem dX9_plays_33 : decode cX9_plays 33 = .ok (.getfield 49, 3) := by decide +kernel
theorem dX9_plays_36 : decode cX9_plays 36 = .ok (.iload_n 1, 1) := by decide +kernel
theorem dX9_plays_37 : decode cX9_plays 37 = .ok (.aload_n 0, 1) := by decide +kernel
theorem dX9_plays_38 : decode cX9_plays 38 = .ok (.getfield 178, 3) := by decide +kernel
theorem dX9_plays_41 : decode cX9_plays 41 = .ok (.iastore, 1) := by decide +kernel
theorem dX9_plays_42 : decode cX9_plays 42 = .ok (.goto 122, 3) := by decide +kernel
theorem dX9_plays_45 : decode cX9_plays 45 = .ok (.aload_n 0, 1) := by decide +kernel
theorem dX9_plays_46 : decode cX9_plays 46 = .ok (.iload_n 1, 1) := by decide +kernel
theorem dX9_plays_47 : decode cX9_plays 47 = .ok (.invokevirtual 165, 3) := by decide +kernel
theorem dX9_plays_50 : decode cX9_plays 50 = .ok (.ifCond .eq 18, 3) := by decide +kernel
theorem dX9_plays_53 : decode cX9_plays 53 = .ok (.aload_n 0, 1) := by decide +kernel
theorem dX9_plays_54 : decode cX9_plays 54 = .ok (.getfield 49, 3) := by decide +kernel
theorem dX9_plays_57 : decode cX9_plays 57 = .ok (.iload_n 1, 1) := by decide +kernel
theorem dX9_plays_58 : decode cX9_plays 58 = .ok (.aload_n 0, 1) := by decide +kernel
theorem dX9_plays_59 : decode cX9_plays 59 = .ok (.getfield 28, 3) := by decide +kernel
theorem dX9_plays_62 : decode cX9_plays 62 = .ok (.iconst 0, 1) := by decide +kernel
theorem dX9_plays_63 : decode cX9_plays 63 = .ok (.iaload, 1) := by decide +kernel
theorem dX9_plays_64 : decode cX9_plays 64 = .ok (.iastore, 1) := by decide +kernel
theorem dX9_plays_65 : decode cX9_plays 65 = .ok (.goto 99, 3) := by decide +kernel
theorem dX9_plays_68 : decode cX9_plays 68 = .ok (.aload_n 0, 1) := by decide +kernel
theorem dX9_plays_69 : decode cX9_plays 69 = .ok (.getfield 49, 3) := by decide +kernel
theorem dX9_plays_72 : decode cX9_plays 72 = .ok (.iload_n 1, 1) := by decide +kernel
theorem dX9_plays_73 : decode cX9_plays 73 = .ok (.aload_n 0, 1) := by decide +kernel
theorem dX9_plays_74 : decode cX9_plays 74 = .ok (.aload_n 0, 1) := by decide +kernel
theorem dX9_plays_75 : decode cX9_plays 75 = .ok (.getfield 49, 3) := by decide +kernel
theorem dX9_plays_78 : decode cX9_plays 78 = .ok (.iload_n 1, 1) := by decide +kernel
theorem dX9_plays_79 : decode cX9_plays 79 = .ok (.iconst 1, 1) := by decide +kernel
theorem dX9_plays_80 : decode cX9_plays 80 = .ok (.isub, 1) := by decide +kernel
theorem dX9_plays_81 : decode cX9_plays 81 = .ok (.iaload, 1) := by decide +kernel
theorem dX9_plays_82 : decode cX9_plays 82 = .ok (.iconst 1, 1) := by decide +kernel
theorem dX9_plays_83 : decode cX9_plays 83 = .ok (.invokevirtual 141, 3) := by decide +kernel
theorem dX9_plays_86 : decode cX9_plays 86 = .ok (.iastore, 1) := by decide +kernel
theorem dX9_plays_87 : decode cX9_plays 87 = .ok (.bipush 99, 2) := by decide +kernel
theorem dX9_plays_89 : decode cX9_plays 89 = .ok (.istore_n 2, 1) := by decide +kernel
theorem dX9_plays_90 : decode cX9_plays 90 = .ok (.iconst 0, 1) := by decide +kernel
theorem dX9_plays_91 : decode cX9_plays 91 = .ok (.istore_n 3, 1) := by decide +kernel
theorem dX9_plays_92 : decode cX9_plays 92 = .ok (.iload_n 3, 1) := by decide +kernel
theorem dX9_plays_93 : decode cX9_plays 93 = .ok (.aload_n 0, 1) := by decide +kernel
theorem dX9_plays_94 : decode cX9_plays 94 = .ok (.getfield 113, 3) := by decide +kernel
theorem dX9_plays_97 : decode cX9_plays 97 = .ok (.if_icmp .ge 67, 3) := by decide +kernel
theorem dX9_plays_100 : decode cX9_plays 100 = .ok (.aload_n 0, 1) := by decide +kernel
theorem dX9_plays_101 : decode cX9_plays 101 = .ok (.iload_n 1, 1) := by decide +kernel
theorem dX9_plays_102 : decode cX9_plays 102 = .ok (.iload_n 3, 1) := by decide +kernel
theorem dX9_plays_103 : decode cX9_plays 103 = .ok (.invokevirtual 181, 3) := by decide +kernel
theorem dX9_plays_106 : decode cX9_plays 106 = .ok (.istore 4, 2) := by decide +kernel
theorem dX9_plays_108 : decode cX9_plays 108 = .ok (.aload_n 0, 1) := by decide +kernel
theorem dX9_plays_109 : decode cX9_plays 109 = .ok (.getfield 46, 3) := by decide +kernel
theorem dX9_plays_112 : decode cX9_plays 112 = .ok (.iload_n 1, 1) := by decide +kernel
theorem dX9_plays_113 : decode cX9_plays 113 = .ok (.iaload, 1) := by decide +kernel
theorem dX9_plays_114 : decode cX9_plays 114 = .ok (.aload_n 0, 1) := by decide +kernel
theorem dX9_plays_115 : decode cX9_plays 115 = .ok (.getfield 31, 3) := by decide +kernel
theorem dX9_plays_118 : decode cX9_plays 118 = .ok (.iconst 4, 1) := by decide +kernel
theorem dX9_plays_119 : decode cX9_plays 119 = .ok (.iload_n 3, 1) := by decide +kernel
theorem dX9_plays_120 : decode cX9_plays 120 = .ok (.imul, 1) := by decide +kernel
theorem dX9_plays_121 : decode cX9_plays 121 = .ok (.iaload, 1) := by decide +kernel
theorem dX9_plays_122 : decode cX9_plays 122 = .ok (.isub, 1) := by decide +kernel
theorem dX9_plays_123 : decode cX9_plays 123 = .ok (.invokestatic 168, 3) := by decide +kernel
theorem dX9_plays_126 : decode cX9_plays 126 = .ok (.istore 5, 2) := by decide +kernel
theorem dX9_plays_128 : decode cX9_plays 128 = .ok (.iload 4, 2) := by decide +kernel
theorem dX9_plays_130 : decode cX9_plays 130 = .ok (.iconst (-1), 1) := by decide +kernel
theorem dX9_plays_131 : decode cX9_plays 131 = .ok (.if_icmp .eq 27, 3) := by decide +kernel
theorem dX9_plays_134 : decode cX9_plays 134 = .ok (.iload 5, 2) := by decide +kernel
theorem dX9_plays_136 : decode cX9_plays 136 = .ok (.iload_n 2, 1) := by decide +kernel
theorem dX9_plays_137 : decode cX9_plays 137 = .ok (.if_icmp .ge 21, 3) := by decide +kernel
theorem dX9_plays_140 : decode cX9_plays 140 = .ok (.iload 5, 2) := by decide +kernel
theorem dX9_plays_142 : decode cX9_plays 142 = .ok (.istore_n 2, 1) := by decide +kernel
theorem dX9_plays_143 : decode cX9_plays 143 = .ok (.aload_n 0, 1) := by decide +kernel
theorem dX9_plays_144 : decode cX9_plays 144 = .ok (.getfield 49, 3) := by decide +kernel
theorem dX9_plays_147 : decode cX9_plays 147 = .ok (.iload_n 1, 1) := by decide +kernel
theorem dX9_plays_148 : decode cX9_plays 148 = .ok (.iload 4, 2) := by decide +kernel
theorem dX9_plays_150 : decode cX9_plays 150 = .ok (.iastore, 1) := by decide +kernel
theorem dX9_plays_151 : decode cX9_plays 151 = .ok (.aload_n 0, 1) := by decide +kernel
theorem dX9_plays_152 : decode cX9_plays 152 = .ok (.getfield 52, 3) := by decide +kernel
theorem dX9_plays_155 : decode cX9_plays 155 = .ok (.iload_n 1, 1) := by decide +kernel
theorem dX9_plays_156 : decode cX9_plays 156 = .ok (.iload_n 3, 1) := by decide +kernel
theorem dX9_plays_157 : decode cX9_plays 157 = .ok (.iastore, 1) := by decide +kernel
theorem dX9_plays_158 : decode cX9_plays 158 = .ok (.iinc 3 1, 3) := by decide +kernel
theorem dX9_plays_161 : decode cX9_plays 161 = .ok (.goto (-69), 3) := by decide +kernel
theorem dX9_plays_164 : decode cX9_plays 164 = .ok (.return_, 1) := by decide +kernel
theorem dX9_lives_0 : decode cX9_lives 0 = .ok (.iload_n 1, 1) := by decide +kernel
theorem dX9_lives_1 : decode cX9_lives 1 = .ok (.istore_n 3, 1) := by decide +kernel
theorem dX9_lives_2 : decode cX9_lives 2 = .ok (.iload_n 3, 1) := by decide +kernel
theorem dX9_lives_3 : decode cX9_lives 3 = .ok (.iload_n 2, 1) := by decide +kernel
theorem dX9_lives_4 : decode cX9_lives 4 = .ok (.if_icmp .gt 14, 3) := by decide +kernel
theorem dX9_lives_7 : decode cX9_lives 7 = .ok (.aload_n 0, 1) := by decide +kernel
theorem dX9_lives_8 : decode cX9_lives 8 = .ok (.iload_n 3, 1) := by decide +kernel
theorem dX9_lives_9 : decode cX9_lives 9 = .ok (.invokevirtual 184, 3) := by decide +kernel
theorem dX9_lives_12 : decode cX9_lives 12 = .ok (.iinc 3 1, 3) := by decide +kernel
theorem dX9_lives_15 : decode cX9_lives 15 = .ok (.goto (-13), 3) := by decide +kernel
theorem dX9_lives_18 : decode cX9_lives 18 = .ok (.return_, 1) := by decide +kernel
theorem dX9_find_0 : decode cX9_find 0 = .ok (.aload_n 0, 1) := by decide +kernel
theorem dX9_find_1 : decode cX9_find 1 = .ok (.invokevirtual 188, 3) := by decide +kernel
theorem dX9_find_4 : decode cX9_find 4 = .ok (.aload_n 0, 1) := by decide +kernel
theorem dX9_find_5 : decode cX9_find 5 = .ok (.iconst 0, 1) := by decide +kernel
theorem dX9_find_6 : decode cX9_find 6 = .ok (.bipush 39, 2) := by decide +kernel
theorem dX9_find_8 : decode cX9_find 8 = .ok (.invokevirtual 191, 3) := by decide +kernel
theorem dX9_find_11 : decode cX9_find 11 = .ok (.return_, 1) := by decide +kernel
theorem dX9_printedIn_0 : decode cX9_printedIn 0 = .ok (.aload_n 0, 1) := by decide +kernel
theorem dX9_printedIn_1 : decode cX9_printedIn 1 = .ok (.getfield 103, 3) := by decide +kernel
theorem dX9_printedIn_4 : decode cX9_printedIn 4 = .ok (.ifCond .ne 7, 3) := by decide +kernel
theorem dX9_printedIn_7 : decode cX9_printedIn 7 = .ok (.iconst (-1), 1) := by decide +kernel
theorem dX9_printedIn_8 : decode cX9_printedIn 8 = .ok (.goto 14, 3) := by decide +kernel
theorem dX9_printedIn_11 : decode cX9_printedIn 11 = .ok (.aload_n 0, 1) := by decide +kernel
theorem dX9_printedIn_12 : decode cX9_printedIn 12 = .ok (.getfield 28, 3) := by decide +kernel
theorem dX9_printedIn_15 : decode cX9_printedIn 15 = .ok (.iload_n 1, 1) := by decide +kernel
theorem dX9_printedIn_16 : decode cX9_printedIn 16 = .ok (.aload_n 0, 1) := by decide +kernel
theorem dX9_printedIn_17 : decode cX9_printedIn 17 = .ok (.getfield 103, 3) := by decide +kernel
theorem dX9_printedIn_20 : decode cX9_printedIn 20 = .ok (.irem, 1) := by decide +kernel
theorem dX9_printedIn_21 : decode cX9_printedIn 21 = .ok (.iaload, 1) := by decide +kernel
theorem dX9_printedIn_22 : decode cX9_printedIn 22 = .ok (.ireturn, 1) := by decide +kernel
theorem dX9_stepOf_0 : decode cX9_stepOf 0 = .ok (.iload_n 2, 1) := by decide +kernel
theorem dX9_stepOf_1 : decode cX9_stepOf 1 = .ok (.ifCond .ne 12, 3) := by decide +kernel
theorem dX9_stepOf_4 : decode cX9_stepOf 4 = .ok (.aload_n 0, 1) := by decide +kernel
theorem dX9_stepOf_5 : decode cX9_stepOf 5 = .ok (.getfield 49, 3) := by decide +kernel
theorem dX9_stepOf_8 : decode cX9_stepOf 8 = .ok (.iload_n 1, 1) := by decide +kernel
theorem dX9_stepOf_9 : decode cX9_stepOf 9 = .ok (.iaload, 1) := by decide +kernel
theorem dX9_stepOf_10 : decode cX9_stepOf 10 = .ok (.goto 36, 3) := by decide +kernel
theorem dX9_stepOf_13 : decode cX9_stepOf 13 = .ok (.iload_n 2, 1) := by decide +kernel
theorem dX9_stepOf_14 : decode cX9_stepOf 14 = .ok (.iconst 1, 1) := by decide +kernel
theorem dX9_stepOf_15 : decode cX9_stepOf 15 = .ok (.if_icmp .ne 12, 3) := by decide +kernel
theorem dX9_stepOf_18 : decode cX9_stepOf 18 = .ok (.aload_n 0, 1) := by decide +kernel
theorem dX9_stepOf_19 : decode cX9_stepOf 19 = .ok (.getfield 52, 3) := by decide +kernel
theorem dX9_stepOf_22 : decode cX9_stepOf 22 = .ok (.iload_n 1, 1) := by decide +kernel
theorem dX9_stepOf_23 : decode cX9_stepOf 23 = .ok (.iaload, 1) := by decide +kernel
theorem dX9_stepOf_24 : decode cX9_stepOf 24 = .ok (.goto 22, 3) := by decide +kernel
theorem dX9_stepOf_27 : decode cX9_stepOf 27 = .ok (.iload_n 2, 1) := by decide +kernel
theorem dX9_stepOf_28 : decode cX9_stepOf 28 = .ok (.iconst 2, 1) := by decide +kernel
theorem dX9_stepOf_29 : decode cX9_stepOf 29 = .ok (.if_icmp .ne 12, 3) := by decide +kernel
theorem dX9_stepOf_32 : decode cX9_stepOf 32 = .ok (.aload_n 0, 1) := by decide +kernel
theorem dX9_stepOf_33 : decode cX9_stepOf 33 = .ok (.getfield 46, 3) := by decide +kernel
theorem dX9_stepOf_36 : decode cX9_stepOf 36 = .ok (.iload_n 1, 1) := by decide +kernel
theorem dX9_stepOf_37 : decode cX9_stepOf 37 = .ok (.iaload, 1) := by decide +kernel
theorem dX9_stepOf_38 : decode cX9_stepOf 38 = .ok (.goto 8, 3) := by decide +kernel
theorem dX9_stepOf_41 : decode cX9_stepOf 41 = .ok (.aload_n 0, 1) := by decide +kernel
theorem dX9_stepOf_42 : decode cX9_stepOf 42 = .ok (.iload_n 1, 1) := by decide +kernel
theorem dX9_stepOf_43 : decode cX9_stepOf 43 = .ok (.invokevirtual 195, 3) := by decide +kernel
theorem dX9_stepOf_46 : decode cX9_stepOf 46 = .ok (.ireturn, 1) := by decide +kernel
theorem dX9_step_0 : decode cX9_step 0 = .ok (.aload_n 0, 1) := by decide +kernel
theorem dX9_step_1 : decode cX9_step 1 = .ok (.invokevirtual 198, 3) := by decide +kernel
theorem dX9_step_4 : decode cX9_step 4 = .ok (.iload_n 1, 1) := by decide +kernel
theorem dX9_step_5 : decode cX9_step 5 = .ok (.invokestatic 144, 3) := by decide +kernel
theorem dX9_step_8 : decode cX9_step 8 = .ok (.ifCond .eq 24, 3) := by decide +kernel
theorem dX9_step_11 : decode cX9_step 11 = .ok (.iload_n 2, 1) := by decide +kernel
theorem dX9_step_12 : decode cX9_step 12 = .ok (.i2l, 1) := by decide +kernel
theorem dX9_step_13 : decode cX9_step 13 = .ok (.lconst 0, 1) := by decide +kernel
theorem dX9_step_14 : decode cX9_step 14 = .ok (.ldc2_w 77, 3) := by decide +kernel
theorem dX9_step_17 : decode cX9_step 17 = .ok (.invokestatic 70, 3) := by decide +kernel
theorem dX9_step_20 : decode cX9_step 20 = .ok (.ifCond .eq 12, 3) := by decide +kernel
theorem dX9_step_23 : decode cX9_step 23 = .ok (.aload_n 0, 1) := by decide +kernel
theorem dX9_step_24 : decode cX9_step 24 = .ok (.iload_n 1, 1) := by decide +kernel
theorem dX9_step_25 : decode cX9_step 25 = .ok (.iload_n 2, 1) := by decide +kernel
theorem dX9_step_26 : decode cX9_step 26 = .ok (.invokevirtual 201, 3) := by decide +kernel
theorem dX9_step_29 : decode cX9_step 29 = .ok (.goto 5, 3) := by decide +kernel
theorem dX9_step_32 : decode cX9_step 32 = .ok (.bipush (-2), 2) := by decide +kernel
theorem dX9_step_34 : decode cX9_step 34 = .ok (.ireturn, 1) := by decide +kernel
theorem dX9_whispers_0 : decode cX9_whispers 0 = .ok (.aload_n 0, 1) := by decide +kernel
theorem dX9_whispers_1 : decode cX9_whispers 1 = .ok (.invokevirtual 198, 3) := by decide +kernel
theorem dX9_whispers_4 : decode cX9_whispers 4 = .ok (.iload_n 1, 1) := by decide +kernel
theorem dX9_whispers_5 : decode cX9_whispers 5 = .ok (.invokestatic 144, 3) := by decide +kernel
theorem dX9_whispers_8 : decode cX9_whispers 8 = .ok (.ifCond .eq 20, 3) := by decide +kernel
theorem dX9_whispers_11 : decode cX9_whispers 11 = .ok (.aload_n 0, 1) := by decide +kernel
theorem dX9_whispers_12 : decode cX9_whispers 12 = .ok (.iload_n 2, 1) := by decide +kernel
theorem dX9_whispers_13 : decode cX9_whispers 13 = .ok (.invokevirtual 135, 3) := by decide +kernel
theorem dX9_whispers_16 : decode cX9_whispers 16 = .ok (.ifCond .eq 12, 3) := by decide +kernel
theorem dX9_whispers_19 : decode cX9_whispers 19 = .ok (.aload_n 0, 1) := by decide +kernel
theorem dX9_whispers_20 : decode cX9_whispers 20 = .ok (.iload_n 1, 1) := by decide +kernel
theorem dX9_whispers_21 : decode cX9_whispers 21 = .ok (.iload_n 2, 1) := by decide +kernel
theorem dX9_whispers_22 : decode cX9_whispers 22 = .ok (.invokevirtual 181, 3) := by decide +kernel
theorem dX9_whispers_25 : decode cX9_whispers 25 = .ok (.goto 5, 3) := by decide +kernel
theorem dX9_whispers_28 : decode cX9_whispers 28 = .ok (.bipush (-2), 2) := by decide +kernel
theorem dX9_whispers_30 : decode cX9_whispers 30 = .ok (.ireturn, 1) := by decide +kernel
theorem dX9_driftTo_0 : decode cX9_driftTo 0 = .ok (.iconst 0, 1) := by decide +kernel
theorem dX9_driftTo_1 : decode cX9_driftTo 1 = .ok (.istore_n 2, 1) := by decide +kernel
theorem dX9_driftTo_2 : decode cX9_driftTo 2 = .ok (.iconst 0, 1) := by decide +kernel
theorem dX9_driftTo_3 : decode cX9_driftTo 3 = .ok (.istore_n 3, 1) := by decide +kernel
theorem dX9_driftTo_4 : decode cX9_driftTo 4 = .ok (.iload_n 3, 1) := by decide +kernel
theorem dX9_driftTo_5 : decode cX9_driftTo 5 = .ok (.iload_n 1, 1) := by decide +kernel
theorem dX9_driftTo_6 : decode cX9_driftTo 6 = .ok (.if_icmp .gt 31, 3) := by decide +kernel
theorem dX9_driftTo_9 : decode cX9_driftTo 9 = .ok (.iload_n 2, 1) := by decide +kernel
theorem dX9_driftTo_10 : decode cX9_driftTo 10 = .ok (.aload_n 0, 1) := by decide +kernel
theorem dX9_driftTo_11 : decode cX9_driftTo 11 = .ok (.getfield 49, 3) := by decide +kernel
theorem dX9_driftTo_14 : decode cX9_driftTo 14 = .ok (.iload_n 3, 1) := by decide +kernel
theorem dX9_driftTo_15 : decode cX9_driftTo 15 = .ok (.iaload, 1) := by decide +kernel
theorem dX9_driftTo_16 : decode cX9_driftTo 16 = .ok (.aload_n 0, 1) := by decide +kernel
theorem dX9_driftTo_17 : decode cX9_driftTo 17 = .ok (.iload_n 3, 1) := by decide +kernel
theorem dX9_driftTo_18 : decode cX9_driftTo 18 = .ok (.invokevirtual 195, 3) := by decide +kernel
theorem dX9_driftTo_21 : decode cX9_driftTo 21 = .ok (.if_icmp .eq 7, 3) := by decide +kernel
theorem dX9_driftTo_24 : decode cX9_driftTo 24 = .ok (.iconst 1, 1) := by decide +kernel
theorem dX9_driftTo_25 : decode cX9_driftTo 25 = .ok (.goto 4, 3) := by decide +kernel
theorem dX9_driftTo_28 : decode cX9_driftTo 28 = .ok (.iconst 0, 1) := by decide +kernel
theorem dX9_driftTo_29 : decode cX9_driftTo 29 = .ok (.iadd, 1) := by decide +kernel
theorem dX9_driftTo_30 : decode cX9_driftTo 30 = .ok (.istore_n 2, 1) := by decide +kernel
theorem dX9_driftTo_31 : decode cX9_driftTo 31 = .ok (.iinc 3 1, 3) := by decide +kernel
theorem dX9_driftTo_34 : decode cX9_driftTo 34 = .ok (.goto (-30), 3) := by decide +kernel
theorem dX9_driftTo_37 : decode cX9_driftTo 37 = .ok (.iload_n 2, 1) := by decide +kernel
theorem dX9_driftTo_38 : decode cX9_driftTo 38 = .ok (.ireturn, 1) := by decide +kernel
theorem dX9_driftOf_0 : decode cX9_driftOf 0 = .ok (.iconst 0, 1) := by decide +kernel
theorem dX9_driftOf_1 : decode cX9_driftOf 1 = .ok (.istore_n 2, 1) := by decide +kernel
theorem dX9_driftOf_2 : decode cX9_driftOf 2 = .ok (.iload_n 2, 1) := by decide +kernel
theorem dX9_driftOf_3 : decode cX9_driftOf 3 = .ok (.bipush 40, 2) := by decide +kernel
theorem dX9_driftOf_5 : decode cX9_driftOf 5 = .ok (.if_icmp .ge 38, 3) := by decide +kernel
theorem dX9_driftOf_8 : decode cX9_driftOf 8 = .ok (.aload_n 0, 1) := by decide +kernel
theorem dX9_driftOf_9 : decode cX9_driftOf 9 = .ok (.getfield 49, 3) := by decide +kernel
theorem dX9_driftOf_12 : decode cX9_driftOf 12 = .ok (.iload_n 2, 1) := by decide +kernel
theorem dX9_driftOf_13 : decode cX9_driftOf 13 = .ok (.iaload, 1) := by decide +kernel
theorem dX9_driftOf_14 : decode cX9_driftOf 14 = .ok (.aload_n 0, 1) := by decide +kernel
theorem dX9_driftOf_15 : decode cX9_driftOf 15 = .ok (.iload_n 2, 1) := by decide +kernel
theorem dX9_driftOf_16 : decode cX9_driftOf 16 = .ok (.invokevirtual 195, 3) := by decide +kernel
theorem dX9_driftOf_19 : decode cX9_driftOf 19 = .ok (.if_icmp .eq 18, 3) := by decide +kernel
theorem dX9_driftOf_22 : decode cX9_driftOf 22 = .ok (.iload_n 1, 1) := by decide +kernel
theorem dX9_driftOf_23 : decode cX9_driftOf 23 = .ok (.ifCond .ne 7, 3) := by decide +kernel
theorem dX9_driftOf_26 : decode cX9_driftOf 26 = .ok (.iload_n 2, 1) := by decide +kernel
theorem dX9_driftOf_27 : decode cX9_driftOf 27 = .ok (.goto 9, 3) := by decide +kernel
theorem dX9_driftOf_30 : decode cX9_driftOf 30 = .ok (.aload_n 0, 1) := by decide +kernel
theorem dX9_driftOf_31 : decode cX9_driftOf 31 = .ok (.bipush 39, 2) := by decide +kernel
theorem dX9_driftOf_33 : decode cX9_driftOf 33 = .ok (.invokevirtual 204, 3) := by decide +kernel
theorem dX9_driftOf_36 : decode cX9_driftOf 36 = .ok (.ireturn, 1) := by decide +kernel
theorem dX9_driftOf_37 : decode cX9_driftOf 37 = .ok (.iinc 2 1, 3) := by decide +kernel
theorem dX9_driftOf_40 : decode cX9_driftOf 40 = .ok (.goto (-38), 3) := by decide +kernel
theorem dX9_driftOf_43 : decode cX9_driftOf 43 = .ok (.iconst (-1), 1) := by decide +kernel
theorem dX9_driftOf_44 : decode cX9_driftOf 44 = .ok (.ireturn, 1) := by decide +kernel
theorem dX9_drift_0 : decode cX9_drift 0 = .ok (.aload_n 0, 1) := by decide +kernel
theorem dX9_drift_1 : decode cX9_drift 1 = .ok (.invokevirtual 198, 3) := by decide +kernel
theorem dX9_drift_4 : decode cX9_drift 4 = .ok (.iload_n 1, 1) := by decide +kernel
theorem dX9_drift_5 : decode cX9_drift 5 = .ok (.invokestatic 98, 3) := by decide +kernel
theorem dX9_drift_8 : decode cX9_drift 8 = .ok (.ifCond .eq 11, 3) := by decide +kernel
theorem dX9_drift_11 : decode cX9_drift 11 = .ok (.aload_n 0, 1) := by decide +kernel
theorem dX9_drift_12 : decode cX9_drift 12 = .ok (.iload_n 1, 1) := by decide +kernel
theorem dX9_drift_13 : decode cX9_drift 13 = .ok (.invokevirtual 207, 3) := by decide +kernel
theorem dX9_drift_16 : decode cX9_drift 16 = .ok (.goto 5, 3) := by decide +kernel
theorem dX9_drift_19 : decode cX9_drift 19 = .ok (.bipush (-2), 2) := by decide +kernel
theorem dX9_drift_21 : decode cX9_drift 21 = .ok (.ireturn, 1) := by decide +kernel
theorem dX9_roundNow_0 : decode cX9_roundNow 0 = .ok (.iconst 1, 1) := by decide +kernel
theorem dX9_roundNow_1 : decode cX9_roundNow 1 = .ok (.istore_n 1, 1) := by decide +kernel
theorem dX9_roundNow_2 : decode cX9_roundNow 2 = .ok (.iload_n 1, 1) := by decide +kernel
theorem dX9_roundNow_3 : decode cX9_roundNow 3 = .ok (.bipush 13, 2) := by decide +kernel
theorem dX9_roundNow_5 : decode cX9_roundNow 5 = .ok (.if_icmp .ge 61, 3) := by decide +kernel
theorem dX9_roundNow_8 : decode cX9_roundNow 8 = .ok (.iconst 1, 1) := by decide +kernel
theorem dX9_roundNow_9 : decode cX9_roundNow 9 = .ok (.istore_n 2, 1) := by decide +kernel
theorem dX9_roundNow_10 : decode cX9_roundNow 10 = .ok (.bipush 16, 2) := by decide +kernel
theorem dX9_roundNow_12 : decode cX9_roundNow 12 = .ok (.istore_n 3, 1) := by decide +kernel
theorem dX9_roundNow_13 : decode cX9_roundNow 13 = .ok (.iload_n 3, 1) := by decide +kernel
theorem dX9_roundNow_14 : decode cX9_roundNow 14 = .ok (.iload_n 1, 1) := by decide +kernel
theorem dX9_roundNow_15 : decode cX9_roundNow 15 = .ok (.iadd, 1) := by decide +kernel
theorem dX9_roundNow_16 : decode cX9_roundNow 16 = .ok (.bipush 40, 2) := by decide +kernel
theorem dX9_roundNow_18 : decode cX9_roundNow 18 = .ok (.if_icmp .ge 36, 3) := by decide +kernel
theorem dX9_roundNow_21 : decode cX9_roundNow 21 = .ok (.iload_n 2, 1) := by decide +kernel
theorem dX9_roundNow_22 : decode cX9_roundNow 22 = .ok (.ifCond .eq 24, 3) := by decide +kernel
theorem dX9_roundNow_25 : decode cX9_roundNow 25 = .ok (.aload_n 0, 1) := by decide +kernel
theorem dX9_roundNow_26 : decode cX9_roundNow 26 = .ok (.getfield 49, 3) := by decide +kernel
theorem dX9_roundNow_29 : decode cX9_roundNow 29 = .ok (.iload_n 3, 1) := by decide +kernel
theorem dX9_roundNow_30 : decode cX9_roundNow 30 = .ok (.iaload, 1) := by decide +kernel
theorem dX9_roundNow_31 : decode cX9_roundNow 31 = .ok (.aload_n 0, 1) := by decide +kernel
theorem dX9_roundNow_32 : decode cX9_roundNow 32 = .ok (.getfield 49, 3) := by decide +kernel
theorem dX9_roundNow_35 : decode cX9_roundNow 35 = .ok (.iload_n 3, 1) := by decide +kernel
theorem dX9_roundNow_36 : decode cX9_roundNow 36 = .ok (.iload_n 1, 1) := by decide +kernel
theorem dX9_roundNow_37 : decode cX9_roundNow 37 = .ok (.iadd, 1) := by decide +kernel
theorem dX9_roundNow_38 : decode cX9_roundNow 38 = .ok (.iaload, 1) := by decide +kernel
theorem dX9_roundNow_39 : decode cX9_roundNow 39 = .ok (.if_icmp .ne 7, 3) := by decide +kernel
theorem dX9_roundNow_42 : decode cX9_roundNow 42 = .ok (.iconst 1, 1) := by decide +kernel
theorem dX9_roundNow_43 : decode cX9_roundNow 43 = .ok (.goto 4, 3) := by decide +kernel
theorem dX9_roundNow_46 : decode cX9_roundNow 46 = .ok (.iconst 0, 1) := by decide +kernel
theorem dX9_roundNow_47 : decode cX9_roundNow 47 = .ok (.istore_n 2, 1) := by decide +kernel
theorem dX9_roundNow_48 : decode cX9_roundNow 48 = .ok (.iinc 3 1, 3) := by decide +kernel
theorem dX9_roundNow_51 : decode cX9_roundNow 51 = .ok (.goto (-38), 3) := by decide +kernel
theorem dX9_roundNow_54 : decode cX9_roundNow 54 = .ok (.iload_n 2, 1) := by decide +kernel
theorem dX9_roundNow_55 : decode cX9_roundNow 55 = .ok (.ifCond .eq 5, 3) := by decide +kernel
theorem dX9_roundNow_58 : decode cX9_roundNow 58 = .ok (.iload_n 1, 1) := by decide +kernel
theorem dX9_roundNow_59 : decode cX9_roundNow 59 = .ok (.ireturn, 1) := by decide +kernel
theorem dX9_roundNow_60 : decode cX9_roundNow 60 = .ok (.iinc 1 1, 3) := by decide +kernel
theorem dX9_roundNow_63 : decode cX9_roundNow 63 = .ok (.goto (-61), 3) := by decide +kernel
theorem dX9_roundNow_66 : decode cX9_roundNow 66 = .ok (.iconst (-1), 1) := by decide +kernel
theorem dX9_roundNow_67 : decode cX9_roundNow 67 = .ok (.ireturn, 1) := by decide +kernel
theorem dX9_round_0 : decode cX9_round 0 = .ok (.aload_n 0, 1) := by decide +kernel
theorem dX9_round_1 : decode cX9_round 1 = .ok (.invokevirtual 198, 3) := by decide +kernel
theorem dX9_round_4 : decode cX9_round 4 = .ok (.aload_n 0, 1) := by decide +kernel
theorem dX9_round_5 : decode cX9_round 5 = .ok (.invokevirtual 210, 3) := by decide +kernel
theorem dX9_round_8 : decode cX9_round 8 = .ok (.ireturn, 1) := by decide +kernel
theorem dX9_oftenOf_0 : decode cX9_oftenOf 0 = .ok (.iconst 0, 1) := by decide +kernel
theorem dX9_oftenOf_1 : decode cX9_oftenOf 1 = .ok (.istore_n 3, 1) := by decide +kernel
theorem dX9_oftenOf_2 : decode cX9_oftenOf 2 = .ok (.iconst (-1), 1) := by decide +kernel
theorem dX9_oftenOf_3 : decode cX9_oftenOf 3 = .ok (.istore 4, 2) := by decide +kernel
theorem dX9_oftenOf_5 : decode cX9_oftenOf 5 = .ok (.iconst 0, 1) := by decide +kernel
theorem dX9_oftenOf_6 : decode cX9_oftenOf 6 = .ok (.istore 5, 2) := by decide +kernel
theorem dX9_oftenOf_8 : decode cX9_oftenOf 8 = .ok (.iload 5, 2) := by decide +kernel
theorem dX9_oftenOf_10 : decode cX9_oftenOf 10 = .ok (.bipush 40, 2) := by decide +kernel
theorem dX9_oftenOf_12 : decode cX9_oftenOf 12 = .ok (.if_icmp .ge 48, 3) := by decide +kernel
theorem dX9_oftenOf_15 : decode cX9_oftenOf 15 = .ok (.iload_n 3, 1) := by decide +kernel
theorem dX9_oftenOf_16 : decode cX9_oftenOf 16 = .ok (.aload_n 0, 1) := by decide +kernel
theorem dX9_oftenOf_17 : decode cX9_oftenOf 17 = .ok (.getfield 49, 3) := by decide +kernel
theorem dX9_oftenOf_20 : decode cX9_oftenOf 20 = .ok (.iload 5, 2) := by decide +kernel
theorem dX9_oftenOf_22 : decode cX9_oftenOf 22 = .ok (.iaload, 1) := by decide +kernel
theorem dX9_oftenOf_23 : decode cX9_oftenOf 23 = .ok (.iload_n 1, 1) := by decide +kernel
theorem dX9_oftenOf_24 : decode cX9_oftenOf 24 = .ok (.if_icmp .ne 7, 3) := by decide +kernel
theorem dX9_oftenOf_27 : decode cX9_oftenOf 27 = .ok (.iconst 1, 1) := by decide +kernel
theorem dX9_oftenOf_28 : decode cX9_oftenOf 28 = .ok (.goto 4, 3) := by decide +kernel
theorem dX9_oftenOf_31 : decode cX9_oftenOf 31 = .ok (.iconst 0, 1) := by decide +kernel
theorem dX9_oftenOf_32 : decode cX9_oftenOf 32 = .ok (.iadd, 1) := by decide +kernel
theorem dX9_oftenOf_33 : decode cX9_oftenOf 33 = .ok (.istore_n 3, 1) := by decide +kernel
theorem dX9_oftenOf_34 : decode cX9_oftenOf 34 = .ok (.aload_n 0, 1) := by decide +kernel
theorem dX9_oftenOf_35 : decode cX9_oftenOf 35 = .ok (.getfield 49, 3) := by decide +kernel
theorem dX9_oftenOf_38 : decode cX9_oftenOf 38 = .ok (.iload 5, 2) := by decide +kernel
theorem dX9_oftenOf_40 : decode cX9_oftenOf 40 = .ok (.iaload, 1) := by decide +kernel
theorem dX9_oftenOf_41 : decode cX9_oftenOf 41 = .ok (.iload_n 1, 1) := by decide +kernel
theorem dX9_oftenOf_42 : decode cX9_oftenOf 42 = .ok (.if_icmp .ne 8, 3) := by decide +kernel
theorem dX9_oftenOf_45 : decode cX9_oftenOf 45 = .ok (.iload 5, 2) := by decide +kernel
theorem dX9_oftenOf_47 : decode cX9_oftenOf 47 = .ok (.goto 5, 3) := by decide +kernel
theorem dX9_oftenOf_50 : decode cX9_oftenOf 50 = .ok (.iload 4, 2) := by decide +kernel
theorem dX9_oftenOf_52 : decode cX9_oftenOf 52 = .ok (.istore 4, 2) := by decide +kernel
theorem dX9_oftenOf_54 : decode cX9_oftenOf 54 = .ok (.iinc 5 1, 3) := by decide +kernel
theorem dX9_oftenOf_57 : decode cX9_oftenOf 57 = .ok (.goto (-49), 3) := by decide +kernel
theorem dX9_oftenOf_60 : decode cX9_oftenOf 60 = .ok (.iload_n 2, 1) := by decide +kernel
theorem dX9_oftenOf_61 : decode cX9_oftenOf 61 = .ok (.ifCond .ne 7, 3) := by decide +kernel
theorem dX9_oftenOf_64 : decode cX9_oftenOf 64 = .ok (.iload_n 3, 1) := by decide +kernel
theorem dX9_oftenOf_65 : decode cX9_oftenOf 65 = .ok (.goto 5, 3) := by decide +kernel
theorem dX9_oftenOf_68 : decode cX9_oftenOf 68 = .ok (.iload 4, 2) := by decide +kernel
theorem dX9_oftenOf_70 : decode cX9_oftenOf 70 = .ok (.ireturn, 1) := by decide +kernel
theorem dX9_often_0 : decode cX9_often 0 = .ok (.aload_n 0, 1) := by decide +kernel
theorem dX9_often_1 : decode cX9_often 1 = .ok (.invokevirtual 198, 3) := by decide +kernel
theorem dX9_often_4 : decode cX9_often 4 = .ok (.iload_n 1, 1) := by decide +kernel
theorem dX9_often_5 : decode cX9_often 5 = .ok (.invokestatic 138, 3) := by decide +kernel
theorem dX9_often_8 : decode cX9_often 8 = .ok (.ifCond .eq 19, 3) := by decide +kernel
theorem dX9_often_11 : decode cX9_often 11 = .ok (.iload_n 2, 1) := by decide +kernel
theorem dX9_often_12 : decode cX9_often 12 = .ok (.invokestatic 98, 3) := by decide +kernel
theorem dX9_often_15 : decode cX9_often 15 = .ok (.ifCond .eq 12, 3) := by decide +kernel
theorem dX9_often_18 : decode cX9_often 18 = .ok (.aload_n 0, 1) := by decide +kernel
theorem dX9_often_19 : decode cX9_often 19 = .ok (.iload_n 1, 1) := by decide +kernel
theorem dX9_often_20 : decode cX9_often 20 = .ok (.iload_n 2, 1) := by decide +kernel
theorem dX9_often_21 : decode cX9_often 21 = .ok (.invokevirtual 213, 3) := by decide +kernel
theorem dX9_often_24 : decode cX9_often 24 = .ok (.goto 5, 3) := by decide +kernel
theorem dX9_often_27 : decode cX9_often 27 = .ok (.bipush (-2), 2) := by decide +kernel
theorem dX9_often_29 : decode cX9_often 29 = .ok (.ireturn, 1) := by decide +kernel
theorem dX9_mayOf_0 : decode cX9_mayOf 0 = .ok (.aload_n 0, 1) := by decide +kernel
theorem dX9_mayOf_1 : decode cX9_mayOf 1 = .ok (.getfield 43, 3) := by decide +kernel
theorem dX9_mayOf_4 : decode cX9_mayOf 4 = .ok (.iload_n 1, 1) := by decide +kernel
theorem dX9_mayOf_5 : decode cX9_mayOf 5 = .ok (.iaload, 1) := by decide +kernel
theorem dX9_mayOf_6 : decode cX9_mayOf 6 = .ok (.istore_n 3, 1) := by decide +kernel
theorem dX9_mayOf_7 : decode cX9_mayOf 7 = .ok (.iconst 0, 1) := by decide +kernel
theorem dX9_mayOf_8 : decode cX9_mayOf 8 = .ok (.istore 4, 2) := by decide +kernel
theorem dX9_mayOf_10 : decode cX9_mayOf 10 = .ok (.iconst 0, 1) := by decide +kernel
theorem dX9_mayOf_11 : decode cX9_mayOf 11 = .ok (.istore 5, 2) := by decide +kernel
theorem dX9_mayOf_13 : decode cX9_mayOf 13 = .ok (.iload 5, 2) := by decide +kernel
theorem dX9_mayOf_15 : decode cX9_mayOf 15 = .ok (.iconst 1, 1) := by decide +kernel
theorem dX9_mayOf_16 : decode cX9_mayOf 16 = .ok (.aload_n 0, 1) := by decide +kernel
theorem dX9_mayOf_17 : decode cX9_mayOf 17 = .ok (.getfield 113, 3) := by decide +kernel
theorem dX9_mayOf_20 : decode cX9_mayOf 20 = .ok (.ishl, 1) := by decide +kernel
theorem dX9_mayOf_21 : decode cX9_mayOf 21 = .ok (.if_icmp .ge 49, 3) := by decide +kernel
theorem dX9_mayOf_24 : decode cX9_mayOf 24 = .ok (.aload_n 0, 1) := by decide +kernel
theorem dX9_mayOf_25 : decode cX9_mayOf 25 = .ok (.getfield 43, 3) := by decide +kernel
theorem dX9_mayOf_28 : decode cX9_mayOf 28 = .ok (.iload_n 1, 1) := by decide +kernel
theorem dX9_mayOf_29 : decode cX9_mayOf 29 = .ok (.iload_n 3, 1) := by decide +kernel
theorem dX9_mayOf_30 : decode cX9_mayOf 30 = .ok (.iload 5, 2) := by decide +kernel
theorem dX9_mayOf_32 : decode cX9_mayOf 32 = .ok (.ior, 1) := by decide +kernel
theorem dX9_mayOf_33 : decode cX9_mayOf 33 = .ok (.iastore, 1) := by decide +kernel
theorem dX9_mayOf_34 : decode cX9_mayOf 34 = .ok (.aload_n 0, 1) := by decide +kernel
theorem dX9_mayOf_35 : decode cX9_mayOf 35 = .ok (.iconst 0, 1) := by decide +kernel
theorem dX9_mayOf_36 : decode cX9_mayOf 36 = .ok (.iload_n 2, 1) := by decide +kernel
theorem dX9_mayOf_37 : decode cX9_mayOf 37 = .ok (.invokevirtual 191, 3) := by decide +kernel
theorem dX9_mayOf_40 : decode cX9_mayOf 40 = .ok (.iload 4, 2) := by decide +kernel
theorem dX9_mayOf_42 : decode cX9_mayOf 42 = .ok (.aload_n 0, 1) := by decide +kernel
theorem dX9_mayOf_43 : decode cX9_mayOf 43 = .ok (.getfield 103, 3) := by decide +kernel
theorem dX9_mayOf_46 : decode cX9_mayOf 46 = .ok (.ifCond .ne 7, 3) := by decide +kernel
theorem dX9_mayOf_49 : decode cX9_mayOf 49 = .ok (.iconst 0, 1) := by decide +kernel
theorem dX9_mayOf_50 : decode cX9_mayOf 50 = .ok (.goto 11, 3) := by decide +kernel
theorem dX9_mayOf_53 : decode cX9_mayOf 53 = .ok (.iconst 1, 1) := by decide +kernel
theorem dX9_mayOf_54 : decode cX9_mayOf 54 = .ok (.aload_n 0, 1) := by decide +kernel
theorem dX9_mayOf_55 : decode cX9_mayOf 55 = .ok (.getfield 49, 3) := by decide +kernel
theorem dX9_mayOf_58 : decode cX9_mayOf 58 = .ok (.iload_n 2, 1) := by decide +kernel
theorem dX9_mayOf_59 : decode cX9_mayOf 59 = .ok (.iaload, 1) := by decide +kernel
theorem dX9_mayOf_60 : decode cX9_mayOf 60 = .ok (.ishl, 1) := by decide +kernel
theorem dX9_mayOf_61 : decode cX9_mayOf 61 = .ok (.ior, 1) := by decide +kernel
theorem dX9_mayOf_62 : decode cX9_mayOf 62 = .ok (.istore 4, 2) := by decide +kernel
theorem dX9_mayOf_64 : decode cX9_mayOf 64 = .ok (.iinc 5 1, 3) := by decide +kernel
theorem dX9_mayOf_67 : decode cX9_mayOf 67 = .ok (.goto (-54), 3) := by decide +kernel
theorem dX9_mayOf_70 : decode cX9_mayOf 70 = .ok (.aload_n 0, 1) := by decide +kernel
theorem dX9_mayOf_71 : decode cX9_mayOf 71 = .ok (.getfield 43, 3) := by decide +kernel
theorem dX9_mayOf_74 : decode cX9_mayOf 74 = .ok (.iload_n 1, 1) := by decide +kernel
theorem dX9_mayOf_75 : decode cX9_mayOf 75 = .ok (.iload_n 3, 1) := by decide +kernel
theorem dX9_mayOf_76 : decode cX9_mayOf 76 = .ok (.iastore, 1) := by decide +kernel
theorem dX9_mayOf_77 : decode cX9_mayOf 77 = .ok (.aload_n 0, 1) := by decide +kernel
theorem dX9_mayOf_78 : decode cX9_mayOf 78 = .ok (.iconst 0, 1) := by decide +kernel
theorem dX9_mayOf_79 : decode cX9_mayOf 79 = .ok (.bipush 39, 2) := by decide +kernel
theorem dX9_mayOf_81 : decode cX9_mayOf 81 = .ok (.invokevirtual 191, 3) := by decide +kernel
theorem dX9_mayOf_84 : decode cX9_mayOf 84 = .ok (.iload 4, 2) := by decide +kernel
theorem dX9_mayOf_86 : decode cX9_mayOf 86 = .ok (.ireturn, 1) := by decide +kernel
theorem dX9_may_0 : decode cX9_may 0 = .ok (.aload_n 0, 1) := by decide +kernel
theorem dX9_may_1 : decode cX9_may 1 = .ok (.invokevirtual 198, 3) := by decide +kernel
theorem dX9_may_4 : decode cX9_may 4 = .ok (.iload_n 1, 1) := by decide +kernel
theorem dX9_may_5 : decode cX9_may 5 = .ok (.invokestatic 144, 3) := by decide +kernel
theorem dX9_may_8 : decode cX9_may 8 = .ok (.ifCond .eq 19, 3) := by decide +kernel
theorem dX9_may_11 : decode cX9_may 11 = .ok (.iload_n 2, 1) := by decide +kernel
theorem dX9_may_12 : decode cX9_may 12 = .ok (.invokestatic 144, 3) := by decide +kernel
theorem dX9_may_15 : decode cX9_may 15 = .ok (.ifCond .eq 12, 3) := by decide +kernel
theorem dX9_may_18 : decode cX9_may 18 = .ok (.aload_n 0, 1) := by decide +kernel
theorem dX9_may_19 : decode cX9_may 19 = .ok (.iload_n 1, 1) := by decide +kernel
theorem dX9_may_20 : decode cX9_may 20 = .ok (.iload_n 2, 1) := by decide +kernel
theorem dX9_may_21 : decode cX9_may 21 = .ok (.invokevirtual 216, 3) := by decide +kernel
theorem dX9_may_24 : decode cX9_may 24 = .ok (.goto 5, 3) := by decide +kernel
theorem dX9_may_27 : decode cX9_may 27 = .ok (.bipush (-2), 2) := by decide +kernel
theorem dX9_may_29 : decode cX9_may 29 = .ok (.ireturn, 1) := by decide +kernel
theorem dX9_promptOf_0 : decode cX9_promptOf 0 = .ok (.iconst (-1), 1) := by decide +kernel
theorem dX9_promptOf_1 : decode cX9_promptOf 1 = .ok (.istore 5, 2) := by decide +kernel
theorem dX9_promptOf_3 : decode cX9_promptOf 3 = .ok (.iconst (-1), 1) := by decide +kernel
theorem dX9_promptOf_4 : decode cX9_promptOf 4 = .ok (.istore 6, 2) := by decide +kernel
theorem dX9_promptOf_6 : decode cX9_promptOf 6 = .ok (.iconst 0, 1) := by decide +kernel
theorem dX9_promptOf_7 : decode cX9_promptOf 7 = .ok (.istore 7, 2) := by decide +kernel
theorem dX9_promptOf_9 : decode cX9_promptOf 9 = .ok (.iload_n 1, 1) := by decide +kernel
theorem dX9_promptOf_10 : decode cX9_promptOf 10 = .ok (.istore 8, 2) := by decide +kernel
theorem dX9_promptOf_12 : decode cX9_promptOf 12 = .ok (.iload 8, 2) := by decide +kernel
theorem dX9_promptOf_14 : decode cX9_promptOf 14 = .ok (.iload_n 2, 1) := by decide +kernel
theorem dX9_promptOf_15 : decode cX9_promptOf 15 = .ok (.if_icmp .ge 100, 3) := by decide +kernel
theorem dX9_promptOf_18 : decode cX9_promptOf 18 = .ok (.aload_n 0, 1) := by decide +kernel
theorem dX9_promptOf_19 : decode cX9_promptOf 19 = .ok (.getfield 103, 3) := by decide +kernel
theorem dX9_promptOf_22 : decode cX9_promptOf 22 = .ok (.ifCond .le 93, 3) := by decide +kernel
theorem dX9_promptOf_25 : decode cX9_promptOf 25 = .ok (.iconst 0, 1) := by decide +kernel
theorem dX9_promptOf_26 : decode cX9_promptOf 26 = .ok (.istore 9, 2) := by decide +kernel
theorem dX9_promptOf_28 : decode cX9_promptOf 28 = .ok (.iload 9, 2) := by decide +kernel
theorem dX9_promptOf_30 : decode cX9_promptOf 30 = .ok (.bipush 8, 2) := by decide +kernel
theorem dX9_promptOf_32 : decode cX9_promptOf 32 = .ok (.if_icmp .ge 65, 3) := by decide +kernel
theorem dX9_promptOf_35 : decode cX9_promptOf 35 = .ok (.aload_n 0, 1) := by decide +kernel
theorem dX9_promptOf_36 : decode cX9_promptOf 36 = .ok (.iload 8, 2) := by decide +kernel
theorem dX9_promptOf_38 : decode cX9_promptOf 38 = .ok (.putfield 65, 3) := by decide +kernel
theorem dX9_promptOf_41 : decode cX9_promptOf 41 = .ok (.aload_n 0, 1) := by decide +kernel
theorem dX9_promptOf_42 : decode cX9_promptOf 42 = .ok (.iload 9, 2) := by decide +kernel
theorem dX9_promptOf_44 : decode cX9_promptOf 44 = .ok (.putfield 178, 3) := by decide +kernel
theorem dX9_promptOf_47 : decode cX9_promptOf 47 = .ok (.aload_n 0, 1) := by decide +kernel
theorem dX9_promptOf_48 : decode cX9_promptOf 48 = .ok (.iload 8, 2) := by decide +kernel
theorem dX9_promptOf_50 : decode cX9_promptOf 50 = .ok (.iload_n 2, 1) := by decide +kernel
theorem dX9_promptOf_51 : decode cX9_promptOf 51 = .ok (.invokevirtual 191, 3) := by decide +kernel
theorem dX9_promptOf_54 : decode cX9_promptOf 54 = .ok (.aload_n 0, 1) := by decide +kernel
theorem dX9_promptOf_55 : decode cX9_promptOf 55 = .ok (.getfield 49, 3) := by decide +kernel
theorem dX9_promptOf_58 : decode cX9_promptOf 58 = .ok (.iload_n 2, 1) := by decide +kernel
theorem dX9_promptOf_59 : decode cX9_promptOf 59 = .ok (.iaload, 1) := by decide +kernel
theorem dX9_promptOf_60 : decode cX9_promptOf 60 = .ok (.iload_n 3, 1) := by decide +kernel
theorem dX9_promptOf_61 : decode cX9_promptOf 61 = .ok (.if_icmp .ne 30, 3) := by decide +kernel
theorem dX9_promptOf_64 : decode cX9_promptOf 64 = .ok (.iload 7, 2) := by decide +kernel
theorem dX9_promptOf_66 : decode cX9_promptOf 66 = .ok (.ifCond .ne 14, 3) := by decide +kernel
theorem dX9_promptOf_69 : decode cX9_promptOf 69 = .ok (.bipush 8, 2) := by decide +kernel
theorem dX9_promptOf_71 : decode cX9_promptOf 71 = .ok (.iload 8, 2) := by decide +kernel
theorem dX9_promptOf_73 : decode cX9_promptOf 73 = .ok (.imul, 1) := by decide +kernel
theorem dX9_promptOf_74 : decode cX9_promptOf 74 = .ok (.iload 9, 2) := by decide +kernel
theorem dX9_promptOf_76 : decode cX9_promptOf 76 = .ok (.iadd, 1) := by decide +kernel
theorem dX9_promptOf_77 : decode cX9_promptOf 77 = .ok (.goto 5, 3) := by decide +kernel
theorem dX9_promptOf_80 : decode cX9_promptOf 80 = .ok (.iload 5, 2) := by decide +kernel
theorem dX9_promptOf_82 : decode cX9_promptOf 82 = .ok (.istore 5, 2) := by decide +kernel
theorem dX9_promptOf_84 : decode cX9_promptOf 84 = .ok (.iload 8, 2) := by decide +kernel
theorem dX9_promptOf_86 : decode cX9_promptOf 86 = .ok (.istore 6, 2) := by decide +kernel
theorem dX9_promptOf_88 : decode cX9_promptOf 88 = .ok (.iinc 7 1, 3) := by decide +kernel
theorem dX9_promptOf_91 : decode cX9_promptOf 91 = .ok (.iinc 9 1, 3) := by decide +kernel
theorem dX9_promptOf_94 : decode cX9_promptOf 94 = .ok (.goto (-66), 3) := by decide +kernel
theorem dX9_promptOf_97 : decode cX9_promptOf 97 = .ok (.aload_n 0, 1) := by decide +kernel
theorem dX9_promptOf_98 : decode cX9_promptOf 98 = .ok (.iconst (-1), 1) := by decide +kernel
theorem dX9_promptOf_99 : decode cX9_promptOf 99 = .ok (.putfield 65, 3) := by decide +kernel
theorem dX9_promptOf_102 : decode cX9_promptOf 102 = .ok (.aload_n 0, 1) := by decide +kernel
theorem dX9_promptOf_103 : decode cX9_promptOf 103 = .ok (.iload 8, 2) := by decide +kernel
theorem dX9_promptOf_105 : decode cX9_promptOf 105 = .ok (.iload_n 2, 1) := by decide +kernel
theorem dX9_promptOf_106 : decode cX9_promptOf 106 = .ok (.invokevirtual 191, 3) := by decide +kernel
theorem dX9_promptOf_109 : decode cX9_promptOf 109 = .ok (.iinc 8 1, 3) := by decide +kernel
theorem dX9_promptOf_112 : decode cX9_promptOf 112 = .ok (.goto (-100), 3) := by decide +kernel
theorem dX9_promptOf_115 : decode cX9_promptOf 115 = .ok (.aload_n 0, 1) := by decide +kernel
theorem dX9_promptOf_116 : decode cX9_promptOf 116 = .ok (.iconst (-1), 1) := by decide +kernel
theorem dX9_promptOf_117 : decode cX9_promptOf 117 = .ok (.putfield 65, 3) := by decide +kernel
theorem dX9_promptOf_120 : decode cX9_promptOf 120 = .ok (.aload_n 0, 1) := by decide +kernel
theorem dX9_promptOf_121 : decode cX9_promptOf 121 = .ok (.iconst 0, 1) := by decide +kernel
theorem dX9_promptOf_122 : decode cX9_promptOf 122 = .ok (.bipush 39, 2) := by decide +kernel
theorem dX9_promptOf_124 : decode cX9_promptOf 124 = .ok (.invokevirtual 191, 3) := by decide +kernel
theorem dX9_promptOf_127 : decode cX9_promptOf 127 = .ok (.iload 4, 2) := by decide +kernel
theorem dX9_promptOf_129 : decode cX9_promptOf 129 = .ok (.ifCond .ne 8, 3) := by decide +kernel
theorem dX9_promptOf_132 : decode cX9_promptOf 132 = .ok (.iload 5, 2) := by decide +kernel
theorem dX9_promptOf_134 : decode cX9_promptOf 134 = .ok (.goto 16, 3) := by decide +kernel
theorem dX9_promptOf_137 : decode cX9_promptOf 137 = .ok (.iload 4, 2) := by decide +kernel
theorem dX9_promptOf_139 : decode cX9_promptOf 139 = .ok (.iconst 1, 1) := by decide +kernel
theorem dX9_promptOf_140 : decode cX9_promptOf 140 = .ok (.if_icmp .ne 8, 3) := by decide +kernel
theorem dX9_promptOf_143 : decode cX9_promptOf 143 = .ok (.iload 6, 2) := by decide +kernel
theorem dX9_promptOf_145 : decode cX9_promptOf 145 = .ok (.goto 5, 3) := by decide +kernel
theorem dX9_promptOf_148 : decode cX9_promptOf 148 = .ok (.iload 7, 2) := by decide +kernel
theorem dX9_promptOf_150 : decode cX9_promptOf 150 = .ok (.ireturn, 1) := by decide +kernel
theorem dX9_prompt_0 : decode cX9_prompt 0 = .ok (.aload_n 0, 1) := by decide +kernel
theorem dX9_prompt_1 : decode cX9_prompt 1 = .ok (.invokevirtual 198, 3) := by decide +kernel
theorem dX9_prompt_4 : decode cX9_prompt 4 = .ok (.iload_n 1, 1) := by decide +kernel
theorem dX9_prompt_5 : decode cX9_prompt 5 = .ok (.ifCond .le 47, 3) := by decide +kernel
theorem dX9_prompt_8 : decode cX9_prompt 8 = .ok (.iload_n 2, 1) := by decide +kernel
theorem dX9_prompt_9 : decode cX9_prompt 9 = .ok (.invokestatic 144, 3) := by decide +kernel
theorem dX9_prompt_12 : decode cX9_prompt 12 = .ok (.ifCond .eq 40, 3) := by decide +kernel
theorem dX9_prompt_15 : decode cX9_prompt 15 = .ok (.iload_n 2, 1) := by decide +kernel
theorem dX9_prompt_16 : decode cX9_prompt 16 = .ok (.iload_n 1, 1) := by decide +kernel
theorem dX9_prompt_17 : decode cX9_prompt 17 = .ok (.if_icmp .le 35, 3) := by decide +kernel
theorem dX9_prompt_20 : decode cX9_prompt 20 = .ok (.iload_n 3, 1) := by decide +kernel
theorem dX9_prompt_21 : decode cX9_prompt 21 = .ok (.invokestatic 138, 3) := by decide +kernel
theorem dX9_prompt_24 : decode cX9_prompt 24 = .ok (.ifCond .eq 28, 3) := by decide +kernel
theorem dX9_prompt_27 : decode cX9_prompt 27 = .ok (.iload 4, 2) := by decide +kernel
theorem dX9_prompt_29 : decode cX9_prompt 29 = .ok (.i2l, 1) := by decide +kernel
theorem dX9_prompt_30 : decode cX9_prompt 30 = .ok (.lconst 0, 1) := by decide +kernel
theorem dX9_prompt_31 : decode cX9_prompt 31 = .ok (.ldc2_w 83, 3) := by decide +kernel
theorem dX9_prompt_34 : decode cX9_prompt 34 = .ok (.invokestatic 70, 3) := by decide +kernel
theorem dX9_prompt_37 : decode cX9_prompt 37 = .ok (.ifCond .eq 15, 3) := by decide +kernel
theorem dX9_prompt_40 : decode cX9_prompt 40 = .ok (.aload_n 0, 1) := by decide +kernel
theorem dX9_prompt_41 : decode cX9_prompt 41 = .ok (.iload_n 1, 1) := by decide +kernel
theorem dX9_prompt_42 : decode cX9_prompt 42 = .ok (.iload_n 2, 1) := by decide +kernel
theorem dX9_prompt_43 : decode cX9_prompt 43 = .ok (.iload_n 3, 1) := by decide +kernel
theorem dX9_prompt_44 : decode cX9_prompt 44 = .ok (.iload 4, 2) := by decide +kernel
theorem dX9_prompt_46 : decode cX9_prompt 46 = .ok (.invokevirtual 219, 3) := by decide +kernel
theorem dX9_prompt_49 : decode cX9_prompt 49 = .ok (.goto 5, 3) := by decide +kernel
theorem dX9_prompt_52 : decode cX9_prompt 52 = .ok (.bipush (-2), 2) := by decide +kernel
theorem dX9_prompt_54 : decode cX9_prompt 54 = .ok (.ireturn, 1) := by decide +kernel
theorem dX9_seen_0 : decode cX9_seen 0 = .ok (.iload_n 1, 1) := by decide +kernel
theorem dX9_seen_1 : decode cX9_seen 1 = .ok (.invokestatic 144, 3) := by decide +kernel
theorem dX9_seen_4 : decode cX9_seen 4 = .ok (.ifCond .eq 10, 3) := by decide +kernel
theorem dX9_seen_7 : decode cX9_seen 7 = .ok (.iload_n 2, 1) := by decide +kernel
theorem dX9_seen_8 : decode cX9_seen 8 = .ok (.invokestatic 138, 3) := by decide +kernel
theorem dX9_seen_11 : decode cX9_seen 11 = .ok (.ifCond .ne 6, 3) := by decide +kernel
theorem dX9_seen_14 : decode cX9_seen 14 = .ok (.bipush (-2), 2) := by decide +kernel
theorem dX9_seen_16 : decode cX9_seen 16 = .ok (.ireturn, 1) := by decide +kernel
theorem dX9_seen_17 : decode cX9_seen 17 = .ok (.aload_n 0, 1) := by decide +kernel
theorem dX9_seen_18 : decode cX9_seen 18 = .ok (.getfield 223, 3) := by decide +kernel
theorem dX9_seen_21 : decode cX9_seen 21 = .ok (.bipush 8, 2) := by decide +kernel
theorem dX9_seen_23 : decode cX9_seen 23 = .ok (.if_icmp .ne 6, 3) := by decide +kernel
theorem dX9_seen_26 : decode cX9_seen 26 = .ok (.bipush (-4), 2) := by decide +kernel
theorem dX9_seen_28 : decode cX9_seen 28 = .ok (.ireturn, 1) := by decide +kernel
theorem dX9_seen_29 : decode cX9_seen 29 = .ok (.aload_n 0, 1) := by decide +kernel
theorem dX9_seen_30 : decode cX9_seen 30 = .ok (.getfield 55, 3) := by decide +kernel
theorem dX9_seen_33 : decode cX9_seen 33 = .ok (.iconst 2, 1) := by decide +kernel
theorem dX9_seen_34 : decode cX9_seen 34 = .ok (.aload_n 0, 1) := by decide +kernel
theorem dX9_seen_35 : decode cX9_seen 35 = .ok (.getfield 223, 3) := by decide +kernel
theorem dX9_seen_38 : decode cX9_seen 38 = .ok (.imul, 1) := by decide +kernel
theorem dX9_seen_39 : decode cX9_seen 39 = .ok (.iload_n 1, 1) := by decide +kernel
theorem dX9_seen_40 : decode cX9_seen 40 = .ok (.iastore, 1) := by decide +kernel
theorem dX9_seen_41 : decode cX9_seen 41 = .ok (.aload_n 0, 1) := by decide +kernel
theorem dX9_seen_42 : decode cX9_seen 42 = .ok (.getfield 55, 3) := by decide +kernel
theorem dX9_seen_45 : decode cX9_seen 45 = .ok (.iconst 2, 1) := by decide +kernel
theorem dX9_seen_46 : decode cX9_seen 46 = .ok (.aload_n 0, 1) := by decide +kernel
theorem dX9_seen_47 : decode cX9_seen 47 = .ok (.getfield 223, 3) := by decide +kernel
theorem dX9_seen_50 : decode cX9_seen 50 = .ok (.imul, 1) := by decide +kernel
theorem dX9_seen_51 : decode cX9_seen 51 = .ok (.iconst 1, 1) := by decide +kernel
theorem dX9_seen_52 : decode cX9_seen 52 = .ok (.iadd, 1) := by decide +kernel
theorem dX9_seen_53 : decode cX9_seen 53 = .ok (.iload_n 2, 1) := by decide +kernel
theorem dX9_seen_54 : decode cX9_seen 54 = .ok (.iastore, 1) := by decide +kernel
theorem dX9_seen_55 : decode cX9_seen 55 = .ok (.aload_n 0, 1) := by decide +kernel
theorem dX9_seen_56 : decode cX9_seen 56 = .ok (.dup, 1) := by decide +kernel
theorem dX9_seen_57 : decode cX9_seen 57 = .ok (.getfield 223, 3) := by decide +kernel
theorem dX9_seen_60 : decode cX9_seen 60 = .ok (.iconst 1, 1) := by decide +kernel
theorem dX9_seen_61 : decode cX9_seen 61 = .ok (.iadd, 1) := by decide +kernel
theorem dX9_seen_62 : decode cX9_seen 62 = .ok (.putfield 223, 3) := by decide +kernel
theorem dX9_seen_65 : decode cX9_seen 65 = .ok (.aload_n 0, 1) := by decide +kernel
theorem dX9_seen_66 : decode cX9_seen 66 = .ok (.getfield 223, 3) := by decide +kernel
theorem dX9_seen_69 : decode cX9_seen 69 = .ok (.ireturn, 1) := by decide +kernel
theorem dX9_forget_0 : decode cX9_forget 0 = .ok (.aload_n 0, 1) := by decide +kernel
theorem dX9_forget_1 : decode cX9_forget 1 = .ok (.getfield 223, 3) := by decide +kernel
theorem dX9_forget_4 : decode cX9_forget 4 = .ok (.istore_n 1, 1) := by decide +kernel
theorem dX9_forget_5 : decode cX9_forget 5 = .ok (.aload_n 0, 1) := by decide +kernel
theorem dX9_forget_6 : decode cX9_forget 6 = .ok (.iconst 0, 1) := by decide +kernel
theorem dX9_forget_7 : decode cX9_forget 7 = .ok (.putfield 223, 3) := by decide +kernel
theorem dX9_forget_10 : decode cX9_forget 10 = .ok (.iload_n 1, 1) := by decide +kernel
theorem dX9_forget_11 : decode cX9_forget 11 = .ok (.ireturn, 1) := by decide +kernel
theorem dX9_isSeen_0 : decode cX9_isSeen 0 = .ok (.aload_n 0, 1) := by decide +kernel
theorem dX9_isSeen_1 : decode cX9_isSeen 1 = .ok (.iconst 0, 1) := by decide +kernel
theorem dX9_isSeen_2 : decode cX9_isSeen 2 = .ok (.bipush 39, 2) := by decide +kernel
theorem dX9_isSeen_4 : decode cX9_isSeen 4 = .ok (.invokevirtual 191, 3) := by decide +kernel
theorem dX9_isSeen_7 : decode cX9_isSeen 7 = .ok (.iconst 1, 1) := by decide +kernel
theorem dX9_isSeen_8 : decode cX9_isSeen 8 = .ok (.istore_n 1, 1) := by decide +kernel
theorem dX9_isSeen_9 : decode cX9_isSeen 9 = .ok (.iconst 0, 1) := by decide +kernel
theorem dX9_isSeen_10 : decode cX9_isSeen 10 = .ok (.istore_n 2, 1) := by decide +kernel
theorem dX9_isSeen_11 : decode cX9_isSeen 11 = .ok (.iload_n 2, 1) := by decide +kernel
theorem dX9_isSeen_12 : decode cX9_isSeen 12 = .ok (.aload_n 0, 1) := by decide +kernel
theorem dX9_isSeen_13 : decode cX9_isSeen 13 = .ok (.getfield 223, 3) := by decide +kernel
theorem dX9_isSeen_16 : decode cX9_isSeen 16 = .ok (.if_icmp .ge 45, 3) := by decide +kernel
theorem dX9_isSeen_19 : decode cX9_isSeen 19 = .ok (.iload_n 1, 1) := by decide +kernel
theorem dX9_isSeen_20 : decode cX9_isSeen 20 = .ok (.ifCond .eq 33, 3) := by decide +kernel
theorem dX9_isSeen_23 : decode cX9_isSeen 23 = .ok (.aload_n 0, 1) := by decide +kernel
theorem dX9_isSeen_24 : decode cX9_isSeen 24 = .ok (.getfield 49, 3) := by decide +kernel
theorem dX9_isSeen_27 : decode cX9_isSeen 27 = .ok (.aload_n 0, 1) := by decide +kernel
theorem dX9_isSeen_28 : decode cX9_isSeen 28 = .ok (.getfield 55, 3) := by decide +kernel
theorem dX9_isSeen_31 : decode cX9_isSeen 31 = .ok (.iconst 2, 1) := by decide +kernel
theorem dX9_isSeen_32 : decode cX9_isSeen 32 = .ok (.iload_n 2, 1) := by decide +kernel
theorem dX9_isSeen_33 : decode cX9_isSeen 33 = .ok (.imul, 1) := by decide +kernel
theorem dX9_isSeen_34 : decode cX9_isSeen 34 = .ok (.iaload, 1) := by decide +kernel
theorem dX9_isSeen_35 : decode cX9_isSeen 35 = .ok (.iaload, 1) := by decide +kernel
theorem dX9_isSeen_36 : decode cX9_isSeen 36 = .ok (.aload_n 0, 1) := by decide +kernel
theorem dX9_isSeen_37 : decode cX9_isSeen 37 = .ok (.getfield 55, 3) := by decide +kernel
theorem dX9_isSeen_40 : decode cX9_isSeen 40 = .ok (.iconst 2, 1) := by decide +kernel
theorem dX9_isSeen_41 : decode cX9_isSeen 41 = .ok (.iload_n 2, 1) := by decide +kernel
theorem dX9_isSeen_42 : decode cX9_isSeen 42 = .ok (.imul, 1) := by decide +kernel
theorem dX9_isSeen_43 : decode cX9_isSeen 43 = .ok (.iconst 1, 1) := by decide +kernel
theorem dX9_isSeen_44 : decode cX9_isSeen 44 = .ok (.iadd, 1) := by decide +kernel
theorem dX9_isSeen_45 : decode cX9_isSeen 45 = .ok (.iaload, 1) := by decide +kernel
theorem dX9_isSeen_46 : decode cX9_isSeen 46 = .ok (.if_icmp .ne 7, 3) := by decide +kernel
theorem dX9_isSeen_49 : decode cX9_isSeen 49 = .ok (.iconst 1, 1) := by decide +kernel
theorem dX9_isSeen_50 : decode cX9_isSeen 50 = .ok (.goto 4, 3) := by decide +kernel
theorem dX9_isSeen_53 : decode cX9_isSeen 53 = .ok (.iconst 0, 1) := by decide +kernel
theorem dX9_isSeen_54 : decode cX9_isSeen 54 = .ok (.istore_n 1, 1) := by decide +kernel
theorem dX9_isSeen_55 : decode cX9_isSeen 55 = .ok (.iinc 2 1, 3) := by decide +kernel
theorem dX9_isSeen_58 : decode cX9_isSeen 58 = .ok (.goto (-47), 3) := by decide +kernel
theorem dX9_isSeen_61 : decode cX9_isSeen 61 = .ok (.iload_n 1, 1) := by decide +kernel
theorem dX9_isSeen_62 : decode cX9_isSeen 62 = .ok (.ireturn, 1) := by decide +kernel
theorem dX9_filedNow_0 : decode cX9_filedNow 0 = .ok (.iconst 0, 1) := by decide +kernel
theorem dX9_filedNow_1 : decode cX9_filedNow 1 = .ok (.istore_n 1, 1) := by decide +kernel
theorem dX9_filedNow_2 : decode cX9_filedNow 2 = .ok (.iconst 0, 1) := by decide +kernel
theorem dX9_filedNow_3 : decode cX9_filedNow 3 = .ok (.istore_n 2, 1) := by decide +kernel
theorem dX9_filedNow_4 : decode cX9_filedNow 4 = .ok (.iload_n 2, 1) := by decide +kernel
theorem dX9_filedNow_5 : decode cX9_filedNow 5 = .ok (.aload_n 0, 1) := by decide +kernel
theorem dX9_filedNow_6 : decode cX9_filedNow 6 = .ok (.getfield 113, 3) := by decide +kernel
theorem dX9_filedNow_9 : decode cX9_filedNow 9 = .ok (.if_icmp .ge 31, 3) := by decide +kernel
theorem dX9_filedNow_12 : decode cX9_filedNow 12 = .ok (.aload_n 0, 1) := by decide +kernel
theorem dX9_filedNow_13 : decode cX9_filedNow 13 = .ok (.iload_n 2, 1) := by decide +kernel
theorem dX9_filedNow_14 : decode cX9_filedNow 14 = .ok (.putfield 61, 3) := by decide +kernel
theorem dX9_filedNow_17 : decode cX9_filedNow 17 = .ok (.iload_n 1, 1) := by decide +kernel
theorem dX9_filedNow_18 : decode cX9_filedNow 18 = .ok (.aload_n 0, 1) := by decide +kernel
theorem dX9_filedNow_19 : decode cX9_filedNow 19 = .ok (.invokevirtual 226, 3) := by decide +kernel
theorem dX9_filedNow_22 : decode cX9_filedNow 22 = .ok (.ifCond .eq 9, 3) := by decide +kernel
theorem dX9_filedNow_25 : decode cX9_filedNow 25 = .ok (.iconst 1, 1) := by decide +kernel
theorem dX9_filedNow_26 : decode cX9_filedNow 26 = .ok (.iload_n 2, 1) := by decide +kernel
theorem dX9_filedNow_27 : decode cX9_filedNow 27 = .ok (.ishl, 1) := by decide +kernel
theorem dX9_filedNow_28 : decode cX9_filedNow 28 = .ok (.goto 4, 3) := by decide +kernel
theorem dX9_filedNow_31 : decode cX9_filedNow 31 = .ok (.iconst 0, 1) := by decide +kernel
theorem dX9_filedNow_32 : decode cX9_filedNow 32 = .ok (.ior, 1) := by decide +kernel
theorem dX9_filedNow_33 : decode cX9_filedNow 33 = .ok (.istore_n 1, 1) := by decide +kernel
theorem dX9_filedNow_34 : decode cX9_filedNow 34 = .ok (.iinc 2 1, 3) := by decide +kernel
theorem dX9_filedNow_37 : decode cX9_filedNow 37 = .ok (.goto (-33), 3) := by decide +kernel
theorem dX9_filedNow_40 : decode cX9_filedNow 40 = .ok (.aload_n 0, 1) := by decide +kernel
theorem dX9_filedNow_41 : decode cX9_filedNow 41 = .ok (.iconst (-1), 1) := by decide +kernel
theorem dX9_filedNow_42 : decode cX9_filedNow 42 = .ok (.putfield 61, 3) := by decide +kernel
theorem dX9_filedNow_45 : decode cX9_filedNow 45 = .ok (.aload_n 0, 1) := by decide +kernel
theorem dX9_filedNow_46 : decode cX9_filedNow 46 = .ok (.iconst 0, 1) := by decide +kernel
theorem dX9_filedNow_47 : decode cX9_filedNow 47 = .ok (.bipush 39, 2) := by decide +kernel
theorem dX9_filedNow_49 : decode cX9_filedNow 49 = .ok (.invokevirtual 191, 3) := by decide +kernel
theorem dX9_filedNow_52 : decode cX9_filedNow 52 = .ok (.iload_n 1, 1) := by decide +kernel
theorem dX9_filedNow_53 : decode cX9_filedNow 53 = .ok (.ireturn, 1) := by decide +kernel
