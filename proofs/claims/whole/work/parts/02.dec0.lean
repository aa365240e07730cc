theorem dX0_init_0 : decode cX0_init 0 = .ok (.aload_n 0, 1) := by decide +kernel
theorem dX0_init_1 : decode cX0_init 1 = .ok (.invokespecial 3, 3) := by decide +kernel
theorem dX0_init_4 : decode cX0_init 4 = .ok (.aload_n 0, 1) := by decide +kernel
theorem dX0_init_5 : decode cX0_init 5 = .ok (.bipush 8, 2) := by decide +kernel
theorem dX0_init_7 : decode cX0_init 7 = .ok (.newarray .long, 2) := by decide +kernel
theorem dX0_init_9 : decode cX0_init 9 = .ok (.putfield 9, 3) := by decide +kernel
theorem dX0_init_12 : decode cX0_init 12 = .ok (.aload_n 0, 1) := by decide +kernel
theorem dX0_init_13 : decode cX0_init 13 = .ok (.bipush 8, 2) := by decide +kernel
theorem dX0_init_15 : decode cX0_init 15 = .ok (.newarray .long, 2) := by decide +kernel
theorem dX0_init_17 : decode cX0_init 17 = .ok (.putfield 15, 3) := by decide +kernel
theorem dX0_init_20 : decode cX0_init 20 = .ok (.aload_n 0, 1) := by decide +kernel
theorem dX0_init_21 : decode cX0_init 21 = .ok (.lconst 1, 1) := by decide +kernel
theorem dX0_init_22 : decode cX0_init 22 = .ok (.putfield 18, 3) := by decide +kernel
theorem dX0_init_25 : decode cX0_init 25 = .ok (.aload_n 0, 1) := by decide +kernel
theorem dX0_init_26 : decode cX0_init 26 = .ok (.lconst 0, 1) := by decide +kernel
theorem dX0_init_27 : decode cX0_init 27 = .ok (.putfield 22, 3) := by decide +kernel
theorem dX0_init_30 : decode cX0_init 30 = .ok (.aload_n 0, 1) := by decide +kernel
theorem dX0_init_31 : decode cX0_init 31 = .ok (.lconst 1, 1) := by decide +kernel
theorem dX0_init_32 : decode cX0_init 32 = .ok (.putfield 25, 3) := by decide +kernel
theorem dX0_init_35 : decode cX0_init 35 = .ok (.return_, 1) := by decide +kernel
theorem dX0_begin_0 : decode cX0_begin 0 = .ok (.iconst 0, 1) := by decide +kernel
theorem dX0_begin_1 : decode cX0_begin 1 = .ok (.istore_n 2, 1) := by decide +kernel
theorem dX0_begin_2 : decode cX0_begin 2 = .ok (.iload_n 2, 1) := by decide +kernel
theorem dX0_begin_3 : decode cX0_begin 3 = .ok (.bipush 8, 2) := by decide +kernel
theorem dX0_begin_5 : decode cX0_begin 5 = .ok (.if_icmp .ge 25, 3) := by decide +kernel
theorem dX0_begin_8 : decode cX0_begin 8 = .ok (.aload_n 0, 1) := by decide +kernel
theorem dX0_begin_9 : decode cX0_begin 9 = .ok (.getfield 9, 3) := by decide +kernel
theorem dX0_begin_12 : decode cX0_begin 12 = .ok (.iload_n 2, 1) := by decide +kernel
theorem dX0_begin_13 : decode cX0_begin 13 = .ok (.iload_n 2, 1) := by decide +kernel
theorem dX0_begin_14 : decode cX0_begin 14 = .ok (.iload_n 1, 1) := by decide +kernel
theorem dX0_begin_15 : decode cX0_begin 15 = .ok (.if_icmp .ne 7, 3) := by decide +kernel
theorem dX0_begin_18 : decode cX0_begin 18 = .ok (.lconst 1, 1) := by decide +kernel
theorem dX0_begin_19 : decode cX0_begin 19 = .ok (.goto 4, 3) := by decide +kernel
theorem dX0_begin_22 : decode cX0_begin 22 = .ok (.lconst 0, 1) := by decide +kernel
theorem dX0_begin_23 : decode cX0_begin 23 = .ok (.lastore, 1) := by decide +kernel
theorem dX0_begin_24 : decode cX0_begin 24 = .ok (.iinc 2 1, 3) := by decide +kernel
theorem dX0_begin_27 : decode cX0_begin 27 = .ok (.goto (-25), 3) := by decide +kernel
theorem dX0_begin_30 : decode cX0_begin 30 = .ok (.aload_n 0, 1) := by decide +kernel
theorem dX0_begin_31 : decode cX0_begin 31 = .ok (.lconst 1, 1) := by decide +kernel
theorem dX0_begin_32 : decode cX0_begin 32 = .ok (.putfield 18, 3) := by decide +kernel
theorem dX0_begin_35 : decode cX0_begin 35 = .ok (.return_, 1) := by decide +kernel
theorem dX0_goOn_0 : decode cX0_goOn 0 = .ok (.iconst 0, 1) := by decide +kernel
theorem dX0_goOn_1 : decode cX0_goOn 1 = .ok (.istore 5, 2) := by decide +kernel
theorem dX0_goOn_3 : decode cX0_goOn 3 = .ok (.iload 5, 2) := by decide +kernel
theorem dX0_goOn_5 : decode cX0_goOn 5 = .ok (.bipush 8, 2) := by decide +kernel
theorem dX0_goOn_7 : decode cX0_goOn 7 = .ok (.if_icmp .ge 31, 3) := by decide +kernel
theorem dX0_goOn_10 : decode cX0_goOn 10 = .ok (.aload_n 0, 1) := by decide +kernel
theorem dX0_goOn_11 : decode cX0_goOn 11 = .ok (.getfield 15, 3) := by decide +kernel
theorem dX0_goOn_14 : decode cX0_goOn 14 = .ok (.iload 5, 2) := by decide +kernel
theorem dX0_goOn_16 : decode cX0_goOn 16 = .ok (.aload_n 0, 1) := by decide +kernel
theorem dX0_goOn_17 : decode cX0_goOn 17 = .ok (.getfield 9, 3) := by decide +kernel
theorem dX0_goOn_20 : decode cX0_goOn 20 = .ok (.iload 5, 2) := by decide +kernel
theorem dX0_goOn_22 : decode cX0_goOn 22 = .ok (.laload, 1) := by decide +kernel
theorem dX0_goOn_23 : decode cX0_goOn 23 = .ok (.lastore, 1) := by decide +kernel
theorem dX0_goOn_24 : decode cX0_goOn 24 = .ok (.aload_n 0, 1) := by decide +kernel
theorem dX0_goOn_25 : decode cX0_goOn 25 = .ok (.getfield 9, 3) := by decide +kernel
theorem dX0_goOn_28 : decode cX0_goOn 28 = .ok (.iload 5, 2) := by decide +kernel
theorem dX0_goOn_30 : decode cX0_goOn 30 = .ok (.lconst 0, 1) := by decide +kernel
theorem dX0_goOn_31 : decode cX0_goOn 31 = .ok (.lastore, 1) := by decide +kernel
theorem dX0_goOn_32 : decode cX0_goOn 32 = .ok (.iinc 5 1, 3) := by decide +kernel
theorem dX0_goOn_35 : decode cX0_goOn 35 = .ok (.goto (-32), 3) := by decide +kernel
theorem dX0_goOn_38 : decode cX0_goOn 38 = .ok (.iconst 1, 1) := by decide +kernel
theorem dX0_goOn_39 : decode cX0_goOn 39 = .ok (.iload_n 3, 1) := by decide +kernel
theorem dX0_goOn_40 : decode cX0_goOn 40 = .ok (.ishl, 1) := by decide +kernel
theorem dX0_goOn_41 : decode cX0_goOn 41 = .ok (.istore 5, 2) := by decide +kernel
theorem dX0_goOn_43 : decode cX0_goOn 43 = .ok (.aload_n 1, 1) := by decide +kernel
theorem dX0_goOn_44 : decode cX0_goOn 44 = .ok (.iload_n 2, 1) := by decide +kernel
theorem dX0_goOn_45 : decode cX0_goOn 45 = .ok (.invokevirtual 28, 3) := by decide +kernel
theorem dX0_goOn_48 : decode cX0_goOn 48 = .ok (.iload 5, 2) := by decide +kernel
theorem dX0_goOn_50 : decode cX0_goOn 50 = .ok (.iconst (-1), 1) := by decide +kernel
theorem dX0_goOn_51 : decode cX0_goOn 51 = .ok (.ixor, 1) := by decide +kernel
theorem dX0_goOn_52 : decode cX0_goOn 52 = .ok (.iand, 1) := by decide +kernel
theorem dX0_goOn_53 : decode cX0_goOn 53 = .ok (.istore 6, 2) := by decide +kernel
theorem dX0_goOn_55 : decode cX0_goOn 55 = .ok (.aload_n 1, 1) := by decide +kernel
theorem dX0_goOn_56 : decode cX0_goOn 56 = .ok (.iload_n 2, 1) := by decide +kernel
theorem dX0_goOn_57 : decode cX0_goOn 57 = .ok (.invokevirtual 34, 3) := by decide +kernel
theorem dX0_goOn_60 : decode cX0_goOn 60 = .ok (.istore 7, 2) := by decide +kernel
theorem dX0_goOn_62 : decode cX0_goOn 62 = .ok (.iconst 0, 1) := by decide +kernel
theorem dX0_goOn_63 : decode cX0_goOn 63 = .ok (.istore 8, 2) := by decide +kernel
theorem dX0_goOn_65 : decode cX0_goOn 65 = .ok (.iload 8, 2) := by decide +kernel
theorem dX0_goOn_67 : decode cX0_goOn 67 = .ok (.bipush 8, 2) := by decide +kernel
theorem dX0_goOn_69 : decode cX0_goOn 69 = .ok (.if_icmp .ge 79, 3) := by decide +kernel
theorem dX0_goOn_72 : decode cX0_goOn 72 = .ok (.aload_n 0, 1) := by decide +kernel
theorem dX0_goOn_73 : decode cX0_goOn 73 = .ok (.getfield 15, 3) := by decide +kernel
theorem dX0_goOn_76 : decode cX0_goOn 76 = .ok (.iload 8, 2) := by decide +kernel
theorem dX0_goOn_78 : decode cX0_goOn 78 = .ok (.laload, 1) := by decide +kernel
theorem dX0_goOn_79 : decode cX0_goOn 79 = .ok (.lconst 0, 1) := by decide +kernel
theorem dX0_goOn_80 : decode cX0_goOn 80 = .ok (.lcmp, 1) := by decide +kernel
theorem dX0_goOn_81 : decode cX0_goOn 81 = .ok (.ifCond .eq 61, 3) := by decide +kernel
theorem dX0_goOn_84 : decode cX0_goOn 84 = .ok (.aload_n 0, 1) := by decide +kernel
theorem dX0_goOn_85 : decode cX0_goOn 85 = .ok (.aload_n 1, 1) := by decide +kernel
theorem dX0_goOn_86 : decode cX0_goOn 86 = .ok (.iload_n 2, 1) := by decide +kernel
theorem dX0_goOn_87 : decode cX0_goOn 87 = .ok (.iload 7, 2) := by decide +kernel
theorem dX0_goOn_89 : decode cX0_goOn 89 = .ok (.iload 8, 2) := by decide +kernel
theorem dX0_goOn_91 : decode cX0_goOn 91 = .ok (.iload 6, 2) := by decide +kernel
theorem dX0_goOn_93 : decode cX0_goOn 93 = .ok (.invokevirtual 37, 3) := by decide +kernel
theorem dX0_goOn_96 : decode cX0_goOn 96 = .ok (.aload_n 0, 1) := by decide +kernel
theorem dX0_goOn_97 : decode cX0_goOn 97 = .ok (.getfield 15, 3) := by decide +kernel
theorem dX0_goOn_100 : decode cX0_goOn 100 = .ok (.iload 8, 2) := by decide +kernel
theorem dX0_goOn_102 : decode cX0_goOn 102 = .ok (.laload, 1) := by decide +kernel
theorem dX0_goOn_103 : decode cX0_goOn 103 = .ok (.bipush 16, 2) := by decide +kernel
theorem dX0_goOn_105 : decode cX0_goOn 105 = .ok (.iload 4, 2) := by decide +kernel
theorem dX0_goOn_107 : decode cX0_goOn 107 = .ok (.isub, 1) := by decide +kernel
theorem dX0_goOn_108 : decode cX0_goOn 108 = .ok (.i2l, 1) := by decide +kernel
theorem dX0_goOn_109 : decode cX0_goOn 109 = .ok (.lmul, 1) := by decide +kernel
theorem dX0_goOn_110 : decode cX0_goOn 110 = .ok (.invokevirtual 41, 3) := by decide +kernel
theorem dX0_goOn_113 : decode cX0_goOn 113 = .ok (.aload_n 0, 1) := by decide +kernel
theorem dX0_goOn_114 : decode cX0_goOn 114 = .ok (.aload_n 1, 1) := by decide +kernel
theorem dX0_goOn_115 : decode cX0_goOn 115 = .ok (.iload_n 2, 1) := by decide +kernel
theorem dX0_goOn_116 : decode cX0_goOn 116 = .ok (.iload 7, 2) := by decide +kernel
theorem dX0_goOn_118 : decode cX0_goOn 118 = .ok (.iload 8, 2) := by decide +kernel
theorem dX0_goOn_120 : decode cX0_goOn 120 = .ok (.iload 6, 2) := by decide +kernel
theorem dX0_goOn_122 : decode cX0_goOn 122 = .ok (.iload 5, 2) := by decide +kernel
theorem dX0_goOn_124 : decode cX0_goOn 124 = .ok (.ior, 1) := by decide +kernel
theorem dX0_goOn_125 : decode cX0_goOn 125 = .ok (.invokevirtual 37, 3) := by decide +kernel
theorem dX0_goOn_128 : decode cX0_goOn 128 = .ok (.aload_n 0, 1) := by decide +kernel
theorem dX0_goOn_129 : decode cX0_goOn 129 = .ok (.getfield 15, 3) := by decide +kernel
theorem dX0_goOn_132 : decode cX0_goOn 132 = .ok (.iload 8, 2) := by decide +kernel
theorem dX0_goOn_134 : decode cX0_goOn 134 = .ok (.laload, 1) := by decide +kernel
theorem dX0_goOn_135 : decode cX0_goOn 135 = .ok (.iload 4, 2) := by decide +kernel
theorem dX0_goOn_137 : decode cX0_goOn 137 = .ok (.i2l, 1) := by decide +kernel
theorem dX0_goOn_138 : decode cX0_goOn 138 = .ok (.lmul, 1) := by decide +kernel
theorem dX0_goOn_139 : decode cX0_goOn 139 = .ok (.invokevirtual 41, 3) := by decide +kernel
theorem dX0_goOn_142 : decode cX0_goOn 142 = .ok (.iinc 8 1, 3) := by decide +kernel
theorem dX0_goOn_145 : decode cX0_goOn 145 = .ok (.goto (-80), 3) := by decide +kernel
theorem dX0_goOn_148 : decode cX0_goOn 148 = .ok (.aload_n 0, 1) := by decide +kernel
theorem dX0_goOn_149 : decode cX0_goOn 149 = .ok (.dup, 1) := by decide +kernel
theorem dX0_goOn_150 : decode cX0_goOn 150 = .ok (.getfield 18, 3) := by decide +kernel
theorem dX0_goOn_153 : decode cX0_goOn 153 = .ok (.ldc2_w 45, 3) := by decide +kernel
theorem dX0_goOn_156 : decode cX0_goOn 156 = .ok (.lmul, 1) := by decide +kernel
theorem dX0_goOn_157 : decode cX0_goOn 157 = .ok (.putfield 18, 3) := by decide +kernel
theorem dX0_goOn_160 : decode cX0_goOn 160 = .ok (.return_, 1) := by decide +kernel
theorem dX0_put_0 : decode cX0_put 0 = .ok (.iload_n 1, 1) := by decide +kernel
theorem dX0_put_1 : decode cX0_put 1 = .ok (.bipush 8, 2) := by decide +kernel
theorem dX0_put_3 : decode cX0_put 3 = .ok (.invokestatic 47, 3) := by decide +kernel
theorem dX0_put_6 : decode cX0_put 6 = .ok (.ifCond .eq 13, 3) := by decide +kernel
theorem dX0_put_9 : decode cX0_put 9 = .ok (.aload_n 0, 1) := by decide +kernel
theorem dX0_put_10 : decode cX0_put 10 = .ok (.getfield 9, 3) := by decide +kernel
theorem dX0_put_13 : decode cX0_put 13 = .ok (.iload_n 1, 1) := by decide +kernel
theorem dX0_put_14 : decode cX0_put 14 = .ok (.dup2, 1) := by decide +kernel
theorem dX0_put_15 : decode cX0_put 15 = .ok (.laload, 1) := by decide +kernel
theorem dX0_put_16 : decode cX0_put 16 = .ok (.lload_n 2, 1) := by decide +kernel
theorem dX0_put_17 : decode cX0_put 17 = .ok (.ladd, 1) := by decide +kernel
theorem dX0_put_18 : decode cX0_put 18 = .ok (.lastore, 1) := by decide +kernel
theorem dX0_put_19 : decode cX0_put 19 = .ok (.return_, 1) := by decide +kernel
theorem dX0_reduce_0 : decode cX0_reduce 0 = .ok (.aload_n 0, 1) := by decide +kernel
theorem dX0_reduce_1 : decode cX0_reduce 1 = .ok (.iload_n 1, 1) := by decide +kernel
theorem dX0_reduce_2 : decode cX0_reduce 2 = .ok (.bipush 8, 2) := by decide +kernel
theorem dX0_reduce_4 : decode cX0_reduce 4 = .ok (.invokestatic 47, 3) := by decide +kernel
theorem dX0_reduce_7 : decode cX0_reduce 7 = .ok (.ifCond .eq 12, 3) := by decide +kernel
theorem dX0_reduce_10 : decode cX0_reduce 10 = .ok (.aload_n 0, 1) := by decide +kernel
theorem dX0_reduce_11 : decode cX0_reduce 11 = .ok (.getfield 9, 3) := by decide +kernel
theorem dX0_reduce_14 : decode cX0_reduce 14 = .ok (.iload_n 1, 1) := by decide +kernel
theorem dX0_reduce_15 : decode cX0_reduce 15 = .ok (.laload, 1) := by decide +kernel
theorem dX0_reduce_16 : decode cX0_reduce 16 = .ok (.goto 4, 3) := by decide +kernel
theorem dX0_reduce_19 : decode cX0_reduce 19 = .ok (.lconst 0, 1) := by decide +kernel
theorem dX0_reduce_20 : decode cX0_reduce 20 = .ok (.putfield 22, 3) := by decide +kernel
theorem dX0_reduce_23 : decode cX0_reduce 23 = .ok (.aload_n 0, 1) := by decide +kernel
theorem dX0_reduce_24 : decode cX0_reduce 24 = .ok (.aload_n 0, 1) := by decide +kernel
theorem dX0_reduce_25 : decode cX0_reduce 25 = .ok (.getfield 22, 3) := by decide +kernel
theorem dX0_reduce_28 : decode cX0_reduce 28 = .ok (.lconst 0, 1) := by decide +kernel
theorem dX0_reduce_29 : decode cX0_reduce 29 = .ok (.lcmp, 1) := by decide +kernel
theorem dX0_reduce_30 : decode cX0_reduce 30 = .ok (.ifCond .ne 7, 3) := by decide +kernel
theorem dX0_reduce_33 : decode cX0_reduce 33 = .ok (.lconst 1, 1) := by decide +kernel
theorem dX0_reduce_34 : decode cX0_reduce 34 = .ok (.goto 7, 3) := by decide +kernel
theorem dX0_reduce_37 : decode cX0_reduce 37 = .ok (.aload_n 0, 1) := by decide +kernel
theorem dX0_reduce_38 : decode cX0_reduce 38 = .ok (.getfield 18, 3) := by decide +kernel
theorem dX0_reduce_41 : decode cX0_reduce 41 = .ok (.putfield 25, 3) := by decide +kernel
theorem dX0_reduce_44 : decode cX0_reduce 44 = .ok (.iconst 0, 1) := by decide +kernel
theorem dX0_reduce_45 : decode cX0_reduce 45 = .ok (.istore_n 2, 1) := by decide +kernel
theorem dX0_reduce_46 : decode cX0_reduce 46 = .ok (.iload_n 2, 1) := by decide +kernel
theorem dX0_reduce_47 : decode cX0_reduce 47 = .ok (.bipush 64, 2) := by decide +kernel
theorem dX0_reduce_49 : decode cX0_reduce 49 = .ok (.if_icmp .ge 55, 3) := by decide +kernel
theorem dX0_reduce_52 : decode cX0_reduce 52 = .ok (.aload_n 0, 1) := by decide +kernel
theorem dX0_reduce_53 : decode cX0_reduce 53 = .ok (.getfield 22, 3) := by decide +kernel
theorem dX0_reduce_56 : decode cX0_reduce 56 = .ok (.lconst 1, 1) := by decide +kernel
theorem dX0_reduce_57 : decode cX0_reduce 57 = .ok (.land, 1) := by decide +kernel
theorem dX0_reduce_58 : decode cX0_reduce 58 = .ok (.lconst 0, 1) := by decide +kernel
theorem dX0_reduce_59 : decode cX0_reduce 59 = .ok (.lcmp, 1) := by decide +kernel
theorem dX0_reduce_60 : decode cX0_reduce 60 = .ok (.ifCond .ne 44, 3) := by decide +kernel
theorem dX0_reduce_63 : decode cX0_reduce 63 = .ok (.aload_n 0, 1) := by decide +kernel
theorem dX0_reduce_64 : decode cX0_reduce 64 = .ok (.getfield 25, 3) := by decide +kernel
theorem dX0_reduce_67 : decode cX0_reduce 67 = .ok (.lconst 1, 1) := by decide +kernel
theorem dX0_reduce_68 : decode cX0_reduce 68 = .ok (.land, 1) := by decide +kernel
theorem dX0_reduce_69 : decode cX0_reduce 69 = .ok (.lconst 0, 1) := by decide +kernel
theorem dX0_reduce_70 : decode cX0_reduce 70 = .ok (.lcmp, 1) := by decide +kernel
theorem dX0_reduce_71 : decode cX0_reduce 71 = .ok (.ifCond .ne 33, 3) := by decide +kernel
theorem dX0_reduce_74 : decode cX0_reduce 74 = .ok (.aload_n 0, 1) := by decide +kernel
theorem dX0_reduce_75 : decode cX0_reduce 75 = .ok (.dup, 1) := by decide +kernel
theorem dX0_reduce_76 : decode cX0_reduce 76 = .ok (.getfield 22, 3) := by decide +kernel
theorem dX0_reduce_79 : decode cX0_reduce 79 = .ok (.ldc2_w 51, 3) := by decide +kernel
theorem dX0_reduce_82 : decode cX0_reduce 82 = .ok (.ldiv, 1) := by decide +kernel
theorem dX0_reduce_83 : decode cX0_reduce 83 = .ok (.putfield 22, 3) := by decide +kernel
theorem dX0_reduce_86 : decode cX0_reduce 86 = .ok (.aload_n 0, 1) := by decide +kernel
theorem dX0_reduce_87 : decode cX0_reduce 87 = .ok (.dup, 1) := by decide +kernel
theorem dX0_reduce_88 : decode cX0_reduce 88 = .ok (.getfield 25, 3) := by decide +kernel
theorem dX0_reduce_91 : decode cX0_reduce 91 = .ok (.ldc2_w 51, 3) := by decide +kernel
theorem dX0_reduce_94 : decode cX0_reduce 94 = .ok (.ldiv, 1) := by decide +kernel
theorem dX0_reduce_95 : decode cX0_reduce 95 = .ok (.putfield 25, 3) := by decide +kernel
theorem dX0_reduce_98 : decode cX0_reduce 98 = .ok (.iinc 2 1, 3) := by decide +kernel
theorem dX0_reduce_101 : decode cX0_reduce 101 = .ok (.goto (-55), 3) := by decide +kernel
theorem dX0_reduce_104 : decode cX0_reduce 104 = .ok (.return_, 1) := by decide +kernel
theorem dX1_init_0 : decode cX1_init 0 = .ok (.aload_n 0, 1) := by decide +kernel
theorem dX1_init_1 : decode cX1_init 1 = .ok (.invokespecial 3, 3) := by decide +kernel
theorem dX1_init_4 : decode cX1_init 4 = .ok (.aload_n 0, 1) := by decide +kernel
theorem dX1_init_5 : decode cX1_init 5 = .ok (.bipush 9, 2) := by decide +kernel
theorem dX1_init_7 : decode cX1_init 7 = .ok (.newarray .int, 2) := by decide +kernel
theorem dX1_init_9 : decode cX1_init 9 = .ok (.putfield 9, 3) := by decide +kernel
theorem dX1_init_12 : decode cX1_init 12 = .ok (.aload_n 0, 1) := by decide +kernel
theorem dX1_init_13 : decode cX1_init 13 = .ok (.bipush 9, 2) := by decide +kernel
theorem dX1_init_15 : decode cX1_init 15 = .ok (.newarray .int, 2) := by decide +kernel
theorem dX1_init_17 : decode cX1_init 17 = .ok (.putfield 15, 3) := by decide +kernel
theorem dX1_init_20 : decode cX1_init 20 = .ok (.aload_n 0, 1) := by decide +kernel
theorem dX1_init_21 : decode cX1_init 21 = .ok (.bipush 9, 2) := by decide +kernel
theorem dX1_init_23 : decode cX1_init 23 = .ok (.newarray .int, 2) := by decide +kernel
theorem dX1_init_25 : decode cX1_init 25 = .ok (.putfield 18, 3) := by decide +kernel
theorem dX1_init_28 : decode cX1_init 28 = .ok (.aload_n 0, 1) := by decide +kernel
theorem dX1_init_29 : decode cX1_init 29 = .ok (.bipush 9, 2) := by decide +kernel
theorem dX1_init_31 : decode cX1_init 31 = .ok (.newarray .int, 2) := by decide +kernel
theorem dX1_init_33 : decode cX1_init 33 = .ok (.putfield 21, 3) := by decide +kernel
theorem dX1_init_36 : decode cX1_init 36 = .ok (.aload_n 0, 1) := by decide +kernel
theorem dX1_init_37 : decode cX1_init 37 = .ok (.bipush 72, 2) := by decide +kernel
theorem dX1_init_39 : decode cX1_init 39 = .ok (.newarray .int, 2) := by decide +kernel
theorem dX1_init_41 : decode cX1_init 41 = .ok (.putfield 24, 3) := by decide +kernel
theorem dX1_init_44 : decode cX1_init 44 = .ok (.aload_n 0, 1) := by decide +kernel
theorem dX1_init_45 : decode cX1_init 45 = .ok (.iconst 0, 1) := by decide +kernel
theorem dX1_init_46 : decode cX1_init 46 = .ok (.putfield 27, 3) := by decide +kernel
theorem dX1_init_49 : decode cX1_init 49 = .ok (.aload_n 0, 1) := by decide +kernel
theorem dX1_init_50 : decode cX1_init 50 = .ok (.iconst (-1), 1) := by decide +kernel
theorem dX1_init_51 : decode cX1_init 51 = .ok (.putfield 31, 3) := by decide +kernel
theorem dX1_init_54 : decode cX1_init 54 = .ok (.return_, 1) := by decide +kernel
theorem dX1_parse_0 : decode cX1_parse 0 = .ok (.aload_n 0, 1) := by decide +kernel
theorem dX1_parse_1 : decode cX1_parse 1 = .ok (.aload_n 1, 1) := by decide +kernel
theorem dX1_parse_2 : decode cX1_parse 2 = .ok (.invokestatic 34, 3) := by decide +kernel
theorem dX1_parse_5 : decode cX1_parse 5 = .ok (.putfield 31, 3) := by decide +kernel
theorem dX1_parse_8 : decode cX1_parse 8 = .ok (.aload_n 0, 1) := by decide +kernel
theorem dX1_parse_9 : decode cX1_parse 9 = .ok (.aload_n 0, 1) := by decide +kernel
theorem dX1_parse_10 : decode cX1_parse 10 = .ok (.getfield 31, 3) := by decide +kernel
theorem dX1_parse_13 : decode cX1_parse 13 = .ok (.iconst (-1), 1) := by decide +kernel
theorem dX1_parse_14 : decode cX1_parse 14 = .ok (.if_icmp .ne 19, 3) := by decide +kernel
theorem dX1_parse_17 : decode cX1_parse 17 = .ok (.aload_n 1, 1) := by decide +kernel
theorem dX1_parse_18 : decode cX1_parse 18 = .ok (.invokevirtual 38, 3) := by decide +kernel
theorem dX1_parse_21 : decode cX1_parse 21 = .ok (.iconst 1, 1) := by decide +kernel
theorem dX1_parse_22 : decode cX1_parse 22 = .ok (.iadd, 1) := by decide +kernel
theorem dX1_parse_23 : decode cX1_parse 23 = .ok (.iconst 5, 1) := by decide +kernel
theorem dX1_parse_24 : decode cX1_parse 24 = .ok (.idiv, 1) := by decide +kernel
theorem dX1_parse_25 : decode cX1_parse 25 = .ok (.bipush 9, 2) := by decide +kernel
theorem dX1_parse_27 : decode cX1_parse 27 = .ok (.invokestatic 43, 3) := by decide +kernel
theorem dX1_parse_30 : decode cX1_parse 30 = .ok (.goto 4, 3) := by decide +kernel
theorem dX1_parse_33 : decode cX1_parse 33 = .ok (.iconst 0, 1) := by decide +kernel
theorem dX1_parse_34 : decode cX1_parse 34 = .ok (.putfield 27, 3) := by decide +kernel
theorem dX1_parse_37 : decode cX1_parse 37 = .ok (.iconst 0, 1) := by decide +kernel
theorem dX1_parse_38 : decode cX1_parse 38 = .ok (.istore_n 2, 1) := by decide +kernel
theorem dX1_parse_39 : decode cX1_parse 39 = .ok (.iload_n 2, 1) := by decide +kernel
theorem dX1_parse_40 : decode cX1_parse 40 = .ok (.aload_n 0, 1) := by decide +kernel
theorem dX1_parse_41 : decode cX1_parse 41 = .ok (.getfield 27, 3) := by decide +kernel
theorem dX1_parse_44 : decode cX1_parse 44 = .ok (.if_icmp .ge 75, 3) := by decide +kernel
theorem dX1_parse_47 : decode cX1_parse 47 = .ok (.iload_n 2, 1) := by decide +kernel
theorem dX1_parse_48 : decode cX1_parse 48 = .ok (.iconst 5, 1) := by decide +kernel
theorem dX1_parse_49 : decode cX1_parse 49 = .ok (.imul, 1) := by decide +kernel
theorem dX1_parse_50 : decode cX1_parse 50 = .ok (.istore_n 3, 1) := by decide +kernel
theorem dX1_parse_51 : decode cX1_parse 51 = .ok (.aload_n 0, 1) := by decide +kernel
theorem dX1_parse_52 : decode cX1_parse 52 = .ok (.getfield 9, 3) := by decide +kernel
theorem dX1_parse_55 : decode cX1_parse 55 = .ok (.iload_n 2, 1) := by decide +kernel
theorem dX1_parse_56 : decode cX1_parse 56 = .ok (.aload_n 1, 1) := by decide +kernel
theorem dX1_parse_57 : decode cX1_parse 57 = .ok (.iload_n 3, 1) := by decide +kernel
theorem dX1_parse_58 : decode cX1_parse 58 = .ok (.invokevirtual 49, 3) := by decide +kernel
theorem dX1_parse_61 : decode cX1_parse 61 = .ok (.bipush 97, 2) := by decide +kernel
theorem dX1_parse_63 : decode cX1_parse 63 = .ok (.isub, 1) := by decide +kernel
theorem dX1_parse_64 : decode cX1_parse 64 = .ok (.iastore, 1) := by decide +kernel
theorem dX1_parse_65 : decode cX1_parse 65 = .ok (.aload_n 0, 1) := by decide +kernel
theorem dX1_parse_66 : decode cX1_parse 66 = .ok (.getfield 15, 3) := by decide +kernel
theorem dX1_parse_69 : decode cX1_parse 69 = .ok (.iload_n 2, 1) := by decide +kernel
theorem dX1_parse_70 : decode cX1_parse 70 = .ok (.aload_n 1, 1) := by decide +kernel
theorem dX1_parse_71 : decode cX1_parse 71 = .ok (.iload_n 3, 1) := by decide +kernel
theorem dX1_parse_72 : decode cX1_parse 72 = .ok (.iconst 1, 1) := by decide +kernel
theorem dX1_parse_73 : decode cX1_parse 73 = .ok (.iadd, 1) := by decide +kernel
theorem dX1_parse_74 : decode cX1_parse 74 = .ok (.invokevirtual 49, 3) := by decide +kernel
theorem dX1_parse_77 : decode cX1_parse 77 = .ok (.bipush 48, 2) := by decide +kernel
theorem dX1_parse_79 : decode cX1_parse 79 = .ok (.isub, 1) := by decide +kernel
theorem dX1_parse_80 : decode cX1_parse 80 = .ok (.iastore, 1) := by decide +kernel
theorem dX1_parse_81 : decode cX1_parse 81 = .ok (.aload_n 0, 1) := by decide +kernel
theorem dX1_parse_82 : decode cX1_parse 82 = .ok (.getfield 18, 3) := by decide +kernel
theorem dX1_parse_85 : decode cX1_parse 85 = .ok (.iload_n 2, 1) := by decide +kernel
theorem dX1_parse_86 : decode cX1_parse 86 = .ok (.aload_n 1, 1) := by decide +kernel
theorem dX1_parse_87 : decode cX1_parse 87 = .ok (.iload_n 3, 1) := by decide +kernel
theorem dX1_parse_88 : decode cX1_parse 88 = .ok (.iconst 2, 1) := by decide +kernel
theorem dX1_parse_89 : decode cX1_parse 89 = .ok (.iadd, 1) := by decide +kernel
theorem dX1_parse_90 : decode cX1_parse 90 = .ok (.invokevirtual 49, 3) := by decide +kernel
theorem dX1_parse_93 : decode cX1_parse 93 = .ok (.invokestatic 53, 3) := by decide +kernel
theorem dX1_parse_96 : decode cX1_parse 96 = .ok (.iastore, 1) := by decide +kernel
theorem dX1_parse_97 : decode cX1_parse 97 = .ok (.aload_n 0, 1) := by decide +kernel
theorem dX1_parse_98 : decode cX1_parse 98 = .ok (.getfield 21, 3) := by decide +kernel
theorem dX1_parse_101 : decode cX1_parse 101 = .ok (.iload_n 2, 1) := by decide +kernel
theorem dX1_parse_102 : decode cX1_parse 102 = .ok (.aload_n 1, 1) := by decide +kernel
theorem dX1_parse_103 : decode cX1_parse 103 = .ok (.iload_n 3, 1) := by decide +kernel
theorem dX1_parse_104 : decode cX1_parse 104 = .ok (.iconst 3, 1) := by decide +kernel
theorem dX1_parse_105 : decode cX1_parse 105 = .ok (.iadd, 1) := by decide +kernel
theorem dX1_parse_106 : decode cX1_parse 106 = .ok (.invokevirtual 49, 3) := by decide +kernel
theorem dX1_parse_109 : decode cX1_parse 109 = .ok (.bipush 97, 2) := by decide +kernel
theorem dX1_parse_111 : decode cX1_parse 111 = .ok (.isub, 1) := by decide +kernel
theorem dX1_parse_112 : decode cX1_parse 112 = .ok (.iastore, 1) := by decide +kernel
theorem dX1_parse_113 : decode cX1_parse 113 = .ok (.iinc 2 1, 3) := by decide +kernel
theorem dX1_parse_116 : decode cX1_parse 116 = .ok (.goto (-77), 3) := by decide +kernel
theorem dX1_parse_119 : decode cX1_parse 119 = .ok (.return_, 1) := by decide +kernel
theorem dX1_faultOf_0 : decode cX1_faultOf 0 = .ok (.aload_n 0, 1) := by decide +kernel
theorem dX1_faultOf_1 : decode cX1_faultOf 1 = .ok (.invokevirtual 38, 3) := by decide +kernel
theorem dX1_faultOf_4 : decode cX1_faultOf 4 = .ok (.istore_n 1, 1) := by decide +kernel
theorem dX1_faultOf_5 : decode cX1_faultOf 5 = .ok (.iconst 0, 1) := by decide +kernel
theorem dX1_faultOf_6 : decode cX1_faultOf 6 = .ok (.istore_n 2, 1) := by decide +kernel
theorem dX1_faultOf_7 : decode cX1_faultOf 7 = .ok (.iload_n 2, 1) := by decide +kernel
theorem dX1_faultOf_8 : decode cX1_faultOf 8 = .ok (.iload_n 1, 1) := by decide +kernel
theorem dX1_faultOf_9 : decode cX1_faultOf 9 = .ok (.if_icmp .ge 31, 3) := by decide +kernel
theorem dX1_faultOf_12 : decode cX1_faultOf 12 = .ok (.iload_n 2, 1) := by decide +kernel
theorem dX1_faultOf_13 : decode cX1_faultOf 13 = .ok (.bipush 45, 2) := by decide +kernel
theorem dX1_faultOf_15 : decode cX1_faultOf 15 = .ok (.if_icmp .ge 17, 3) := by decide +kernel
theorem dX1_faultOf_18 : decode cX1_faultOf 18 = .ok (.iload_n 2, 1) := by decide +kernel
theorem dX1_faultOf_19 : decode cX1_faultOf 19 = .ok (.iconst 5, 1) := by decide +kernel
theorem dX1_faultOf_20 : decode cX1_faultOf 20 = .ok (.irem, 1) := by decide +kernel
theorem dX1_faultOf_21 : decode cX1_faultOf 21 = .ok (.aload_n 0, 1) := by decide +kernel
theorem dX1_faultOf_22 : decode cX1_faultOf 22 = .ok (.iload_n 2, 1) := by decide +kernel
theorem dX1_faultOf_23 : decode cX1_faultOf 23 = .ok (.invokevirtual 49, 3) := by decide +kernel
theorem dX1_faultOf_26 : decode cX1_faultOf 26 = .ok (.invokestatic 56, 3) := by decide +kernel
theorem dX1_faultOf_29 : decode cX1_faultOf 29 = .ok (.ifCond .ne 5, 3) := by decide +kernel
theorem dX1_faultOf_32 : decode cX1_faultOf 32 = .ok (.iload_n 2, 1) := by decide +kernel
theorem dX1_faultOf_33 : decode cX1_faultOf 33 = .ok (.ireturn, 1) := by decide +kernel
theorem dX1_faultOf_34 : decode cX1_faultOf 34 = .ok (.iinc 2 1, 3) := by decide +kernel
theorem dX1_faultOf_37 : decode cX1_faultOf 37 = .ok (.goto (-30), 3) := by decide +kernel
theorem dX1_faultOf_40 : decode cX1_faultOf 40 = .ok (.iload_n 1, 1) := by decide +kernel
theorem dX1_faultOf_41 : decode cX1_faultOf 41 = .ok (.ifCond .eq 10, 3) := by decide +kernel
theorem dX1_faultOf_44 : decode cX1_faultOf 44 = .ok (.iload_n 1, 1) := by decide +kernel
theorem dX1_faultOf_45 : decode cX1_faultOf 45 = .ok (.iconst 5, 1) := by decide +kernel
theorem dX1_faultOf_46 : decode cX1_faultOf 46 = .ok (.irem, 1) := by decide +kernel
theorem dX1_faultOf_47 : decode cX1_faultOf 47 = .ok (.iconst 4, 1) := by decide +kernel
theorem dX1_faultOf_48 : decode cX1_faultOf 48 = .ok (.if_icmp .ne 7, 3) := by decide +kernel
theorem dX1_faultOf_51 : decode cX1_faultOf 51 = .ok (.iconst (-1), 1) := by decide +kernel
theorem dX1_faultOf_52 : decode cX1_faultOf 52 = .ok (.goto 4, 3) := by decide +kernel
theorem dX1_faultOf_55 : decode cX1_faultOf 55 = .ok (.iload_n 1, 1) := by decide +kernel
theorem dX1_faultOf_56 : decode cX1_faultOf 56 = .ok (.ireturn, 1) := by decide +kernel
theorem dX1_goesOn_0 : decode cX1_goesOn 0 = .ok (.iload_n 0, 1) := by decide +kernel
theorem dX1_goesOn_1 : decode cX1_goesOn 1 = .ok (.tableswitch 99 0 3 #[31, 49, 67, 81], 31) := by decide +kernel
theorem dX1_goesOn_32 : decode cX1_goesOn 32 = .ok (.iload_n 1, 1) := by decide +kernel
theorem dX1_goesOn_33 : decode cX1_goesOn 33 = .ok (.bipush 97, 2) := by decide +kernel
theorem dX1_goesOn_35 : decode cX1_goesOn 35 = .ok (.if_icmp .lt 13, 3) := by decide +kernel
theorem dX1_goesOn_38 : decode cX1_goesOn 38 = .ok (.iload_n 1, 1) := by decide +kernel
theorem dX1_goesOn_39 : decode cX1_goesOn 39 = .ok (.bipush 106, 2) := by decide +kernel
theorem dX1_goesOn_41 : decode cX1_goesOn 41 = .ok (.if_icmp .gt 7, 3) := by decide +kernel
theorem dX1_goesOn_44 : decode cX1_goesOn 44 = .ok (.iconst 1, 1) := by decide +kernel
theorem dX1_goesOn_45 : decode cX1_goesOn 45 = .ok (.goto 4, 3) := by decide +kernel
theorem dX1_goesOn_48 : decode cX1_goesOn 48 = .ok (.iconst 0, 1) := by decide +kernel
theorem dX1_goesOn_49 : decode cX1_goesOn 49 = .ok (.ireturn, 1) := by decide +kernel
theorem dX1_goesOn_50 : decode cX1_goesOn 50 = .ok (.iload_n 1, 1) := by decide +kernel
theorem dX1_goesOn_51 : decode cX1_goesOn 51 = .ok (.bipush 48, 2) := by decide +kernel
theorem dX1_goesOn_53 : decode cX1_goesOn 53 = .ok (.if_icmp .lt 13, 3) := by decide +kernel
theorem dX1_goesOn_56 : decode cX1_goesOn 56 = .ok (.iload_n 1, 1) := by decide +kernel
theorem dX1_goesOn_57 : decode cX1_goesOn 57 = .ok (.bipush 57, 2) := by decide +kernel
theorem dX1_goesOn_59 : decode cX1_goesOn 59 = .ok (.if_icmp .gt 7, 3) := by decide +kernel
theorem dX1_goesOn_62 : decode cX1_goesOn 62 = .ok (.iconst 1, 1) := by decide +kernel
theorem dX1_goesOn_63 : decode cX1_goesOn 63 = .ok (.goto 4, 3) := by decide +kernel
theorem dX1_goesOn_66 : decode cX1_goesOn 66 = .ok (.iconst 0, 1) := by decide +kernel
theorem dX1_goesOn_67 : decode cX1_goesOn 67 = .ok (.ireturn, 1) := by decide +kernel
theorem dX1_goesOn_68 : decode cX1_goesOn 68 = .ok (.iload_n 1, 1) := by decide +kernel
theorem dX1_goesOn_69 : decode cX1_goesOn 69 = .ok (.invokestatic 53, 3) := by decide +kernel
theorem dX1_goesOn_72 : decode cX1_goesOn 72 = .ok (.iconst (-1), 1) := by decide +kernel
theorem dX1_goesOn_73 : decode cX1_goesOn 73 = .ok (.if_icmp .eq 7, 3) := by decide +kernel
theorem dX1_goesOn_76 : decode cX1_goesOn 76 = .ok (.iconst 1, 1) := by decide +kernel
theorem dX1_goesOn_77 : decode cX1_goesOn 77 = .ok (.goto 4, 3) := by decide +kernel
theorem dX1_goesOn_80 : decode cX1_goesOn 80 = .ok (.iconst 0, 1) := by decide +kernel
theorem dX1_goesOn_81 : decode cX1_goesOn 81 = .ok (.ireturn, 1) := by decide +kernel
theorem dX1_goesOn_82 : decode cX1_goesOn 82 = .ok (.iload_n 1, 1) := by decide +kernel
theorem dX1_goesOn_83 : decode cX1_goesOn 83 = .ok (.bipush 97, 2) := by decide +kernel
theorem dX1_goesOn_85 : decode cX1_goesOn 85 = .ok (.if_icmp .lt 13, 3) := by decide +kernel
theorem dX1_goesOn_88 : decode cX1_goesOn 88 = .ok (.iload_n 1, 1) := by decide +kernel
theorem dX1_goesOn_89 : decode cX1_goesOn 89 = .ok (.bipush 104, 2) := by decide +kernel
theorem dX1_goesOn_91 : decode cX1_goesOn 91 = .ok (.if_icmp .gt 7, 3) := by decide +kernel
theorem dX1_goesOn_94 : decode cX1_goesOn 94 = .ok (.iconst 1, 1) := by decide +kernel
theorem dX1_goesOn_95 : decode cX1_goesOn 95 = .ok (.goto 4, 3) := by decide +kernel
theorem dX1_goesOn_98 : decode cX1_goesOn 98 = .ok (.iconst 0, 1) := by decide +kernel
theorem dX1_goesOn_99 : decode cX1_goesOn 99 = .ok (.ireturn, 1) := by decide +kernel
theorem dX1_goesOn_100 : decode cX1_goesOn 100 = .ok (.iload_n 1, 1) := by decide +kernel
theorem dX1_goesOn_101 : decode cX1_goesOn 101 = .ok (.bipush 59, 2) := by decide +kernel
theorem dX1_goesOn_103 : decode cX1_goesOn 103 = .ok (.if_icmp .ne 7, 3) := by decide +kernel
theorem dX1_goesOn_106 : decode cX1_goesOn 106 = .ok (.iconst 1, 1) := by decide +kernel
theorem dX1_goesOn_107 : decode cX1_goesOn 107 = .ok (.goto 4, 3) := by decide +kernel
theorem dX1_goesOn_110 : decode cX1_goesOn 110 = .ok (.iconst 0, 1) := by decide +kernel
theorem dX1_goesOn_111 : decode cX1_goesOn 111 = .ok (.ireturn, 1) := by decide +kernel
theorem dX1_habitBy_0 : decode cX1_habitBy 0 = .ok (.iload_n 0, 1) := by decide +kernel
theorem dX1_habitBy_1 : decode cX1_habitBy 1 = .ok (.lookupswitch 51 #[(108, 49), (110, 43), (114, 45), (121, 47)], 43) := by decide +kernel
theorem dX1_habitBy_44 : decode cX1_habitBy 44 = .ok (.iconst 0, 1) := by decide +kernel
theorem dX1_habitBy_45 : decode cX1_habitBy 45 = .ok (.ireturn, 1) := by decide +kernel
theorem dX1_habitBy_46 : decode cX1_habitBy 46 = .ok (.iconst 1, 1) := by decide +kernel
theorem dX1_habitBy_47 : decode cX1_habitBy 47 = .ok (.ireturn, 1) := by decide +kernel
theorem dX1_habitBy_48 : decode cX1_habitBy 48 = .ok (.iconst 2, 1) := by decide +kernel
theorem dX1_habitBy_49 : decode cX1_habitBy 49 = .ok (.ireturn, 1) := by decide +kernel
theorem dX1_habitBy_50 : decode cX1_habitBy 50 = .ok (.iconst 3, 1) := by decide +kernel
theorem dX1_habitBy_51 : decode cX1_habitBy 51 = .ok (.ireturn, 1) := by decide +kernel
theorem dX1_habitBy_52 : decode cX1_habitBy 52 = .ok (.iconst (-1), 1) := by decide +kernel
theorem dX1_habitBy_53 : decode cX1_habitBy 53 = .ok (.ireturn, 1) := by decide +kernel
theorem dX1_placeOf_0 : decode cX1_placeOf 0 = .ok (.iload_n 1, 1) := by decide +kernel
theorem dX1_placeOf_1 : decode cX1_placeOf 1 = .ok (.ifCond .lt 18, 3) := by decide +kernel
theorem dX1_placeOf_4 : decode cX1_placeOf 4 = .ok (.iload_n 1, 1) := by decide +kernel
theorem dX1_placeOf_5 : decode cX1_placeOf 5 = .ok (.bipush 9, 2) := by decide +kernel
theorem dX1_placeOf_7 : decode cX1_placeOf 7 = .ok (.if_icmp .ge 12, 3) := by decide +kernel
theorem dX1_placeOf_10 : decode cX1_placeOf 10 = .ok (.aload_n 0, 1) := by decide +kernel
theorem dX1_placeOf_11 : decode cX1_placeOf 11 = .ok (.getfield 9, 3) := by decide +kernel
theorem dX1_placeOf_14 : decode cX1_placeOf 14 = .ok (.iload_n 1, 1) := by decide +kernel
theorem dX1_placeOf_15 : decode cX1_placeOf 15 = .ok (.iaload, 1) := by decide +kernel
theorem dX1_placeOf_16 : decode cX1_placeOf 16 = .ok (.goto 4, 3) := by decide +kernel
theorem dX1_placeOf_19 : decode cX1_placeOf 19 = .ok (.iconst (-1), 1) := by decide +kernel
theorem dX1_placeOf_20 : decode cX1_placeOf 20 = .ok (.ireturn, 1) := by decide +kernel
theorem dX1_hearsOf_0 : decode cX1_hearsOf 0 = .ok (.iload_n 1, 1) := by decide +kernel
theorem dX1_hearsOf_1 : decode cX1_hearsOf 1 = .ok (.ifCond .lt 18, 3) := by decide +kernel
theorem dX1_hearsOf_4 : decode cX1_hearsOf 4 = .ok (.iload_n 1, 1) := by decide +kernel
theorem dX1_hearsOf_5 : decode cX1_hearsOf 5 = .ok (.bipush 9, 2) := by decide +kernel
theorem dX1_hearsOf_7 : decode cX1_hearsOf 7 = .ok (.if_icmp .ge 12, 3) := by decide +kernel
theorem dX1_hearsOf_10 : decode cX1_hearsOf 10 = .ok (.aload_n 0, 1) := by decide +kernel
theorem dX1_hearsOf_11 : decode cX1_hearsOf 11 = .ok (.getfield 15, 3) := by decide +kernel
theorem dX1_hearsOf_14 : decode cX1_hearsOf 14 = .ok (.iload_n 1, 1) := by decide +kernel
theorem dX1_hearsOf_15 : decode cX1_hearsOf 15 = .ok (.iaload, 1) := by decide +kernel
theorem dX1_hearsOf_16 : decode cX1_hearsOf 16 = .ok (.goto 4, 3) := by decide +kernel
theorem dX1_hearsOf_19 : decode cX1_hearsOf 19 = .ok (.iconst (-1), 1) := by decide +kernel
theorem dX1_hearsOf_20 : decode cX1_hearsOf 20 = .ok (.ireturn, 1) := by decide +kernel
theorem dX1_habitOf_0 : decode cX1_habitOf 0 = .ok (.iload_n 1, 1) := by decide +kernel
theorem dX1_habitOf_1 : decode cX1_habitOf 1 = .ok (.ifCond .lt 18, 3) := by decide +kernel
theorem dX1_habitOf_4 : decode cX1_habitOf 4 = .ok (.iload_n 1, 1) := by decide +kernel
theorem dX1_habitOf_5 : decode cX1_habitOf 5 = .ok (.bipush 9, 2) := by decide +kernel
theorem dX1_habitOf_7 : decode cX1_habitOf 7 = .ok (.if_icmp .ge 12, 3) := by decide +kernel
theorem dX1_habitOf_10 : decode cX1_habitOf 10 = .ok (.aload_n 0, 1) := by decide +kernel
theorem dX1_habitOf_11 : decode cX1_habitOf 11 = .ok (.getfield 18, 3) := by decide +kernel
theorem dX1_habitOf_14 : decode cX1_habitOf 14 = .ok (.iload_n 1, 1) := by decide +kernel
theorem dX1_habitOf_15 : decode cX1_habitOf 15 = .ok (.iaload, 1) := by decide +kernel
theorem dX1_habitOf_16 : decode cX1_habitOf 16 = .ok (.goto 4, 3) := by decide +kernel
theorem dX1_habitOf_19 : decode cX1_habitOf 19 = .ok (.iconst (-1), 1) := by decide +kernel
theorem dX1_habitOf_20 : decode cX1_habitOf 20 = .ok (.ireturn, 1) := by decide +kernel
theorem dX1_lineOf_0 : decode cX1_lineOf 0 = .ok (.iload_n 1, 1) := by decide +kernel
theorem dX1_lineOf_1 : decode cX1_lineOf 1 = .ok (.ifCond .lt 18, 3) := by decide +kernel
theorem dX1_lineOf_4 : decode cX1_lineOf 4 = .ok (.iload_n 1, 1) := by decide +kernel
theorem dX1_lineOf_5 : decode cX1_lineOf 5 = .ok (.bipush 9, 2) := by decide +kernel
theorem dX1_lineOf_7 : decode cX1_lineOf 7 = .ok (.if_icmp .ge 12, 3) := by decide +kernel
theorem dX1_lineOf_10 : decode cX1_lineOf 10 = .ok (.aload_n 0, 1) := by decide +kernel
theorem dX1_lineOf_11 : decode cX1_lineOf 11 = .ok (.getfield 21, 3) := by decide +kernel
theorem dX1_lineOf_14 : decode cX1_lineOf 14 = .ok (.iload_n 1, 1) := by decide +kernel
theorem dX1_lineOf_15 : decode cX1_lineOf 15 = .ok (.iaload, 1) := by decide +kernel
theorem dX1_lineOf_16 : decode cX1_lineOf 16 = .ok (.goto 4, 3) := by decide +kernel
theorem dX1_lineOf_19 : decode cX1_lineOf 19 = .ok (.iconst (-1), 1) := by decide +kernel
theorem dX1_lineOf_20 : decode cX1_lineOf 20 = .ok (.ireturn, 1) := by decide +kernel
theorem dX1_think_0 : decode cX1_think 0 = .ok (.iconst 0, 1) := by decide +kernel
theorem dX1_think_1 : decode cX1_think 1 = .ok (.istore_n 2, 1) := by decide +kernel
theorem dX1_think_2 : decode cX1_think 2 = .ok (.iload_n 2, 1) := by decide +kernel
theorem dX1_think_3 : decode cX1_think 3 = .ok (.bipush 9, 2) := by decide +kernel
theorem dX1_think_5 : decode cX1_think 5 = .ok (.if_icmp .ge 58, 3) := by decide +kernel
theorem dX1_think_8 : decode cX1_think 8 = .ok (.iconst 0, 1) := by decide +kernel
theorem dX1_think_9 : decode cX1_think 9 = .ok (.istore_n 3, 1) := by decide +kernel
theorem dX1_think_10 : decode cX1_think 10 = .ok (.iload_n 3, 1) := by decide +kernel
theorem dX1_think_11 : decode cX1_think 11 = .ok (.bipush 8, 2) := by decide +kernel
theorem dX1_think_13 : decode cX1_think 13 = .ok (.if_icmp .ge 44, 3) := by decide +kernel
theorem dX1_think_16 : decode cX1_think 16 = .ok (.aload_n 1, 1) := by decide +kernel
theorem dX1_think_17 : decode cX1_think 17 = .ok (.iload_n 3, 1) := by decide +kernel
theorem dX1_think_18 : decode cX1_think 18 = .ok (.invokevirtual 60, 3) := by decide +kernel
theorem dX1_think_21 : decode cX1_think 21 = .ok (.istore 4, 2) := by decide +kernel
theorem dX1_think_23 : decode cX1_think 23 = .ok (.aload_n 1, 1) := by decide +kernel
theorem dX1_think_24 : decode cX1_think 24 = .ok (.iload_n 3, 1) := by decide +kernel
theorem dX1_think_25 : decode cX1_think 25 = .ok (.invokevirtual 65, 3) := by decide +kernel
theorem dX1_think_28 : decode cX1_think 28 = .ok (.istore 5, 2) := by decide +kernel
theorem dX1_think_30 : decode cX1_think 30 = .ok (.aload_n 0, 1) := by decide +kernel
theorem dX1_think_31 : decode cX1_think 31 = .ok (.getfield 24, 3) := by decide +kernel
theorem dX1_think_34 : decode cX1_think 34 = .ok (.iload_n 2, 1) := by decide +kernel
theorem dX1_think_35 : decode cX1_think 35 = .ok (.bipush 8, 2) := by decide +kernel
theorem dX1_think_37 : decode cX1_think 37 = .ok (.imul, 1) := by decide +kernel
theorem dX1_think_38 : decode cX1_think 38 = .ok (.iload_n 3, 1) := by decide +kernel
theorem dX1_think_39 : decode cX1_think 39 = .ok (.iadd, 1) := by decide +kernel
theorem dX1_think_40 : decode cX1_think 40 = .ok (.aload_n 0, 1) := by decide +kernel
theorem dX1_think_41 : decode cX1_think 41 = .ok (.iload_n 2, 1) := by decide +kernel
theorem dX1_think_42 : decode cX1_think 42 = .ok (.iload_n 3, 1) := by decide +kernel
theorem dX1_think_43 : decode cX1_think 43 = .ok (.iload 4, 2) := by decide +kernel
theorem dX1_think_45 : decode cX1_think 45 = .ok (.iload 5, 2) := by decide +kernel
theorem dX1_think_47 : decode cX1_think 47 = .ok (.invokevirtual 68, 3) := by decide +kernel
theorem dX1_think_50 : decode cX1_think 50 = .ok (.iastore, 1) := by decide +kernel
theorem dX1_think_51 : decode cX1_think 51 = .ok (.iinc 3 1, 3) := by decide +kernel
theorem dX1_think_54 : decode cX1_think 54 = .ok (.goto (-44), 3) := by decide +kernel
theorem dX1_think_57 : decode cX1_think 57 = .ok (.iinc 2 1, 3) := by decide +kernel
theorem dX1_think_60 : decode cX1_think 60 = .ok (.goto (-58), 3) := by decide +kernel
theorem dX1_think_63 : decode cX1_think 63 = .ok (.return_, 1) := by decide +kernel
theorem dX1_byHabit_0 : decode cX1_byHabit 0 = .ok (.aload_n 0, 1) := by decide +kernel
theorem dX1_byHabit_1 : decode cX1_byHabit 1 = .ok (.iload_n 1, 1) := by decide +kernel
theorem dX1_byHabit_2 : decode cX1_byHabit 2 = .ok (.invokevirtual 72, 3) := by decide +kernel
theorem dX1_byHabit_5 : decode cX1_byHabit 5 = .ok (.istore 5, 2) := by decide +kernel
theorem dX1_byHabit_7 : decode cX1_byHabit 7 = .ok (.aload_n 0, 1) := by decide +kernel
theorem dX1_byHabit_8 : decode cX1_byHabit 8 = .ok (.iload_n 1, 1) := by decide +kernel
theorem dX1_byHabit_9 : decode cX1_byHabit 9 = .ok (.invokevirtual 75, 3) := by decide +kernel
theorem dX1_byHabit_12 : decode cX1_byHabit 12 = .ok (.tableswitch 45 0 2 #[28, 30, 32], 28) := by decide +kernel
theorem dX1_byHabit_40 : decode cX1_byHabit 40 = .ok (.iload_n 3, 1) := by decide +kernel
theorem dX1_byHabit_41 : decode cX1_byHabit 41 = .ok (.ireturn, 1) := by decide +kernel
theorem dX1_byHabit_42 : decode cX1_byHabit 42 = .ok (.iload_n 2, 1) := by decide +kernel
theorem dX1_byHabit_43 : decode cX1_byHabit 43 = .ok (.ireturn, 1) := by decide +kernel
theorem dX1_byHabit_44 : decode cX1_byHabit 44 = .ok (.iload_n 2, 1) := by decide +kernel
theorem dX1_byHabit_45 : decode cX1_byHabit 45 = .ok (.iload 5, 2) := by decide +kernel
theorem dX1_byHabit_47 : decode cX1_byHabit 47 = .ok (.if_icmp .ne 7, 3) := by decide +kernel
theorem dX1_byHabit_50 : decode cX1_byHabit 50 = .ok (.iload_n 3, 1) := by decide +kernel
theorem dX1_byHabit_51 : decode cX1_byHabit 51 = .ok (.goto 5, 3) := by decide +kernel
theorem dX1_byHabit_54 : decode cX1_byHabit 54 = .ok (.iload 5, 2) := by decide +kernel
theorem dX1_byHabit_56 : decode cX1_byHabit 56 = .ok (.ireturn, 1) := by decide +kernel
theorem dX1_byHabit_57 : decode cX1_byHabit 57 = .ok (.iload_n 3, 1) := by decide +kernel
theorem dX1_byHabit_58 : decode cX1_byHabit 58 = .ok (.iload 5, 2) := by decide +kernel
theorem dX1_byHabit_60 : decode cX1_byHabit 60 = .ok (.if_icmp .eq 10, 3) := by decide +kernel
theorem dX1_byHabit_63 : decode cX1_byHabit 63 = .ok (.iload 4, 2) := by decide +kernel
theorem dX1_byHabit_65 : decode cX1_byHabit 65 = .ok (.iload 5, 2) := by decide +kernel
theorem dX1_byHabit_67 : decode cX1_byHabit 67 = .ok (.if_icmp .ne 8, 3) := by decide +kernel
theorem dX1_byHabit_70 : decode cX1_byHabit 70 = .ok (.iload 5, 2) := by decide +kernel
theorem dX1_byHabit_72 : decode cX1_byHabit 72 = .ok (.goto 4, 3) := by decide +kernel
theorem dX1_byHabit_75 : decode cX1_byHabit 75 = .ok (.iload_n 2, 1) := by decide +kernel
theorem dX1_byHabit_76 : decode cX1_byHabit 76 = .ok (.ireturn, 1) := by decide +kernel
theorem dX2_init_0 : decode cX2_init 0 = .ok (.aload_n 0, 1) := by decide +kernel
theorem dX2_init_1 : decode cX2_init 1 = .ok (.invokespecial 1, 3) := by decide +kernel
theorem dX2_init_4 : decode cX2_init 4 = .ok (.aload_n 0, 1) := by decide +kernel
theorem dX2_init_5 : decode cX2_init 5 = .ok (.iconst 0, 1) := by decide +kernel
theorem dX2_init_6 : decode cX2_init 6 = .ok (.putfield 7, 3) := by decide +kernel
theorem dX2_init_9 : decode cX2_init 9 = .ok (.return_, 1) := by decide +kernel
theorem dX2_begin_0 : decode cX2_begin 0 = .ok (.aload_n 0, 1) := by decide +kernel
theorem dX2_begin_1 : decode cX2_begin 1 = .ok (.iload_n 1, 1) := by decide +kernel
theorem dX2_begin_2 : decode cX2_begin 2 = .ok (.putfield 7, 3) := by decide +kernel
theorem dX2_begin_5 : decode cX2_begin 5 = .ok (.return_, 1) := by decide +kernel
theorem dX2_draw_0 : decode cX2_draw 0 = .ok (.aload_n 0, 1) := by decide +kernel
theorem dX2_draw_1 : decode cX2_draw 1 = .ok (.ldc 13, 2) := by decide +kernel
theorem dX2_draw_3 : decode cX2_draw 3 = .ok (.aload_n 0, 1) := by decide +kernel
theorem dX2_draw_4 : decode cX2_draw 4 = .ok (.getfield 7, 3) := by decide +kernel
theorem dX2_draw_7 : decode cX2_draw 7 = .ok (.imul, 1) := by decide +kernel
theorem dX2_draw_8 : decode cX2_draw 8 = .ok (.sipush 12345, 3) := by decide +kernel
theorem dX2_draw_11 : decode cX2_draw 11 = .ok (.iadd, 1) := by decide +kernel
theorem dX2_draw_12 : decode cX2_draw 12 = .ok (.putfield 7, 3) := by decide +kernel
theorem dX2_draw_15 : decode cX2_draw 15 = .ok (.iload_n 1, 1) := by decide +kernel
theorem dX2_draw_16 : decode cX2_draw 16 = .ok (.ifCond .le 15, 3) := by decide +kernel
theorem dX2_draw_19 : decode cX2_draw 19 = .ok (.aload_n 0, 1) := by decide +kernel
theorem dX2_draw_20 : decode cX2_draw 20 = .ok (.getfield 7, 3) := by decide +kernel
theorem dX2_draw_23 : decode cX2_draw 23 = .ok (.bipush 16, 2) := by decide +kernel
theorem dX2_draw_25 : decode cX2_draw 25 = .ok (.iushr, 1) := by decide +kernel
theorem dX2_draw_26 : decode cX2_draw 26 = .ok (.iload_n 1, 1) := by decide +kernel
theorem dX2_draw_27 : decode cX2_draw 27 = .ok (.irem, 1) := by decide +kernel
theorem dX2_draw_28 : decode cX2_draw 28 = .ok (.goto 4, 3) := by decide +kernel
theorem dX2_draw_31 : decode cX2_draw 31 = .ok (.iconst 0, 1) := by decide +kernel
theorem dX2_draw_32 : decode cX2_draw 32 = .ok (.ireturn, 1) := by decide +kernel
theorem dX2_drawCough_0 : decode cX2_drawCough 0 = .ok (.iload_n 1, 1) := by decide +kernel
theorem dX2_drawCough_1 : decode cX2_drawCough 1 = .ok (.ifCond .gt 5, 3) := by decide +kernel
theorem dX2_drawCough_4 : decode cX2_drawCough 4 = .ok (.iconst 0, 1) := by decide +kernel
theorem dX2_drawCough_5 : decode cX2_drawCough 5 = .ok (.ireturn, 1) := by decide +kernel
theorem dX2_drawCough_6 : decode cX2_drawCough 6 = .ok (.aload_n 0, 1) := by decide +kernel
theorem dX2_drawCough_7 : decode cX2_drawCough 7 = .ok (.iload_n 1, 1) := by decide +kernel
theorem dX2_drawCough_8 : decode cX2_drawCough 8 = .ok (.invokevirtual 14, 3) := by decide +kernel
theorem dX2_drawCough_11 : decode cX2_drawCough 11 = .ok (.istore_n 2, 1) := by decide +kernel
theorem dX2_drawCough_12 : decode cX2_drawCough 12 = .ok (.aload_n 0, 1) := by decide +kernel
theorem dX2_drawCough_13 : decode cX2_drawCough 13 = .ok (.iconst 4, 1) := by decide +kernel
theorem dX2_drawCough_14 : decode cX2_drawCough 14 = .ok (.invokevirtual 14, 3) := by decide +kernel
theorem dX2_drawCough_17 : decode cX2_drawCough 17 = .ok (.ifCond .ne 9, 3) := by decide +kernel
theorem dX2_drawCough_20 : decode cX2_drawCough 20 = .ok (.iconst 1, 1) := by decide +kernel
theorem dX2_drawCough_21 : decode cX2_drawCough 21 = .ok (.iload_n 2, 1) := by decide +kernel
theorem dX2_drawCough_22 : decode cX2_drawCough 22 = .ok (.ishl, 1) := by decide +kernel
theorem dX2_drawCough_23 : decode cX2_drawCough 23 = .ok (.goto 4, 3) := by decide +kernel
theorem dX2_drawCough_26 : decode cX2_drawCough 26 = .ok (.iconst 0, 1) := by decide +kernel
theorem dX2_drawCough_27 : decode cX2_drawCough 27 = .ok (.ireturn, 1) := by decide +kernel
theorem dX3_init_0 : decode cX3_init 0 = .ok (.aload_n 0, 1) := by decide +kernel
theorem dX3_init_1 : decode cX3_init 1 = .ok (.invokespecial 3, 3) := by decide +kernel
theorem dX3_init_4 : decode cX3_init 4 = .ok (.aload_n 0, 1) := by decide +kernel
theorem dX3_init_5 : decode cX3_init 5 = .ok (.bipush 24, 2) := by decide +kernel
theorem dX3_init_7 : decode cX3_init 7 = .ok (.newarray .int, 2) := by decide +kernel
theorem dX3_init_9 : decode cX3_init 9 = .ok (.putfield 9, 3) := by decide +kernel
theorem dX3_init_12 : decode cX3_init 12 = .ok (.aload_n 0, 1) := by decide +kernel
theorem dX3_init_13 : decode cX3_init 13 = .ok (.bipush 8, 2) := by decide +kernel
theorem dX3_init_15 : decode cX3_init 15 = .ok (.newarray .int, 2) := by decide +kernel
theorem dX3_init_17 : decode cX3_init 17 = .ok (.putfield 15, 3) := by decide +kernel
theorem dX3_init_20 : decode cX3_init 20 = .ok (.aload_n 0, 1) := by decide +kernel
theorem dX3_init_21 : decode cX3_init 21 = .ok (.bipush 8, 2) := by decide +kernel
theorem dX3_init_23 : decode cX3_init 23 = .ok (.newarray .int, 2) := by decide +kernel
theorem dX3_init_25 : decode cX3_init 25 = .ok (.putfield 18, 3) := by decide +kernel
theorem dX3_init_28 : decode cX3_init 28 = .ok (.aload_n 0, 1) := by decide +kernel
theorem dX3_init_29 : decode cX3_init 29 = .ok (.iconst 0, 1) := by decide +kernel
theorem dX3_init_30 : decode cX3_init 30 = .ok (.putfield 21, 3) := by decide +kernel
theorem dX3_init_33 : decode cX3_init 33 = .ok (.aload_n 0, 1) := by decide +kernel
theorem dX3_init_34 : decode cX3_init 34 = .ok (.iconst (-1), 1) := by decide +kernel
theorem dX3_init_35 : decode cX3_init 35 = .ok (.putfield 25, 3) := by decide +kernel
theorem dX3_init_38 : decode cX3_init 38 = .ok (.return_, 1) := by decide +kernel
theorem dX3_parse_0 : decode cX3_parse 0 = .ok (.aload_n 0, 1) := by decide +kernel
theorem dX3_parse_1 : decode cX3_parse 1 = .ok (.aload_n 1, 1) := by decide +kernel
theorem dX3_parse_2 : decode cX3_parse 2 = .ok (.invokestatic 28, 3) := by decide +kernel
theorem dX3_parse_5 : decode cX3_parse 5 = .ok (.putfield 25, 3) := by decide +kernel
theorem dX3_parse_8 : decode cX3_parse 8 = .ok (.aload_n 0, 1) := by decide +kernel
theorem dX3_parse_9 : decode cX3_parse 9 = .ok (.aload_n 0, 1) := by decide +kernel
theorem dX3_parse_10 : decode cX3_parse 10 = .ok (.getfield 25, 3) := by decide +kernel
theorem dX3_parse_13 : decode cX3_parse 13 = .ok (.iconst (-1), 1) := by decide +kernel
theorem dX3_parse_14 : decode cX3_parse 14 = .ok (.if_icmp .ne 15, 3) := by decide +kernel
theorem dX3_parse_17 : decode cX3_parse 17 = .ok (.aload_n 1, 1) := by decide +kernel
theorem dX3_parse_18 : decode cX3_parse 18 = .ok (.invokevirtual 32, 3) := by decide +kernel
theorem dX3_parse_21 : decode cX3_parse 21 = .ok (.bipush 24, 2) := by decide +kernel
theorem dX3_parse_23 : decode cX3_parse 23 = .ok (.invokestatic 38, 3) := by decide +kernel
theorem dX3_parse_26 : decode cX3_parse 26 = .ok (.goto 4, 3) := by decide +kernel
theorem dX3_parse_29 : decode cX3_parse 29 = .ok (.iconst 0, 1) := by decide +kernel
theorem dX3_parse_30 : decode cX3_parse 30 = .ok (.putfield 21, 3) := by decide +kernel
theorem dX3_parse_33 : decode cX3_parse 33 = .ok (.iconst 0, 1) := by decide +kernel
theorem dX3_parse_34 : decode cX3_parse 34 = .ok (.istore_n 2, 1) := by decide +kernel
theorem dX3_parse_35 : decode cX3_parse 35 = .ok (.iload_n 2, 1) := by decide +kernel
theorem dX3_parse_36 : decode cX3_parse 36 = .ok (.aload_n 0, 1) := by decide +kernel
theorem dX3_parse_37 : decode cX3_parse 37 = .ok (.getfield 21, 3) := by decide +kernel
theorem dX3_parse_40 : decode cX3_parse 40 = .ok (.if_icmp .ge 23, 3) := by decide +kernel
theorem dX3_parse_43 : decode cX3_parse 43 = .ok (.aload_n 0, 1) := by decide +kernel
theorem dX3_parse_44 : decode cX3_parse 44 = .ok (.getfield 9, 3) := by decide +kernel
theorem dX3_parse_47 : decode cX3_parse 47 = .ok (.iload_n 2, 1) := by decide +kernel
theorem dX3_parse_48 : decode cX3_parse 48 = .ok (.aload_n 1, 1) := by decide +kernel
theorem dX3_parse_49 : decode cX3_parse 49 = .ok (.iload_n 2, 1) := by decide +kernel
theorem dX3_parse_50 : decode cX3_parse 50 = .ok (.invokevirtual 44, 3) := by decide +kernel
theorem dX3_parse_53 : decode cX3_parse 53 = .ok (.bipush 97, 2) := by decide +kernel
theorem dX3_parse_55 : decode cX3_parse 55 = .ok (.isub, 1) := by decide +kernel
theorem dX3_parse_56 : decode cX3_parse 56 = .ok (.iastore, 1) := by decide +kernel
theorem dX3_parse_57 : decode cX3_parse 57 = .ok (.iinc 2 1, 3) := by decide +kernel
theorem dX3_parse_60 : decode cX3_parse 60 = .ok (.goto (-25), 3) := by decide +kernel
theorem dX3_parse_63 : decode cX3_parse 63 = .ok (.iconst 0, 1) := by decide +kernel
theorem dX3_parse_64 : decode cX3_parse 64 = .ok (.istore_n 2, 1) := by decide +kernel
theorem dX3_parse_65 : decode cX3_parse 65 = .ok (.iload_n 2, 1) := by decide +kernel
theorem dX3_parse_66 : decode cX3_parse 66 = .ok (.bipush 8, 2) := by decide +kernel
theorem dX3_parse_68 : decode cX3_parse 68 = .ok (.if_icmp .ge 31, 3) := by decide +kernel
theorem dX3_parse_71 : decode cX3_parse 71 = .ok (.aload_n 0, 1) := by decide +kernel
theorem dX3_parse_72 : decode cX3_parse 72 = .ok (.getfield 15, 3) := by decide +kernel
theorem dX3_parse_75 : decode cX3_parse 75 = .ok (.iload_n 2, 1) := by decide +kernel
theorem dX3_parse_76 : decode cX3_parse 76 = .ok (.aload_n 0, 1) := by decide +kernel
theorem dX3_parse_77 : decode cX3_parse 77 = .ok (.iconst 0, 1) := by decide +kernel
theorem dX3_parse_78 : decode cX3_parse 78 = .ok (.invokevirtual 48, 3) := by decide +kernel
theorem dX3_parse_81 : decode cX3_parse 81 = .ok (.iastore, 1) := by decide +kernel
theorem dX3_parse_82 : decode cX3_parse 82 = .ok (.aload_n 0, 1) := by decide +kernel
theorem dX3_parse_83 : decode cX3_parse 83 = .ok (.getfield 18, 3) := by decide +kernel
theorem dX3_parse_86 : decode cX3_parse 86 = .ok (.iload_n 2, 1) := by decide +kernel
theorem dX3_parse_87 : decode cX3_parse 87 = .ok (.aload_n 0, 1) := by decide +kernel
theorem dX3_parse_88 : decode cX3_parse 88 = .ok (.iconst 0, 1) := by decide +kernel
theorem dX3_parse_89 : decode cX3_parse 89 = .ok (.invokevirtual 48, 3) := by decide +kernel
theorem dX3_parse_92 : decode cX3_parse 92 = .ok (.iastore, 1) := by decide +kernel
theorem dX3_parse_93 : decode cX3_parse 93 = .ok (.iinc 2 1, 3) := by decide +kernel
theorem dX3_parse_96 : decode cX3_parse 96 = .ok (.goto (-31), 3) := by decide +kernel
theorem dX3_parse_99 : decode cX3_parse 99 = .ok (.aload_n 0, 1) := by decide +kernel
theorem dX3_parse_100 : decode cX3_parse 100 = .ok (.getfield 21, 3) := by decide +kernel
theorem dX3_parse_103 : decode cX3_parse 103 = .ok (.iconst 1, 1) := by decide +kernel
theorem dX3_parse_104 : decode cX3_parse 104 = .ok (.isub, 1) := by decide +kernel
theorem dX3_parse_105 : decode cX3_parse 105 = .ok (.istore_n 2, 1) := by decide +kernel
theorem dX3_parse_106 : decode cX3_parse 106 = .ok (.iload_n 2, 1) := by decide +kernel
theorem dX3_parse_107 : decode cX3_parse 107 = .ok (.ifCond .lt 77, 3) := by decide +kernel
theorem dX3_parse_110 : decode cX3_parse 110 = .ok (.aload_n 0, 1) := by decide +kernel
theorem dX3_parse_111 : decode cX3_parse 111 = .ok (.iload_n 2, 1) := by decide +kernel
theorem dX3_parse_112 : decode cX3_parse 112 = .ok (.invokevirtual 48, 3) := by decide +kernel
theorem dX3_parse_115 : decode cX3_parse 115 = .ok (.istore_n 3, 1) := by decide +kernel
theorem dX3_parse_116 : decode cX3_parse 116 = .ok (.iload_n 3, 1) := by decide +kernel
theorem dX3_parse_117 : decode cX3_parse 117 = .ok (.bipush 8, 2) := by decide +kernel
theorem dX3_parse_119 : decode cX3_parse 119 = .ok (.invokestatic 51, 3) := by decide +kernel
theorem dX3_parse_122 : decode cX3_parse 122 = .ok (.ifCond .eq 56, 3) := by decide +kernel
theorem dX3_parse_125 : decode cX3_parse 125 = .ok (.aload_n 0, 1) := by decide +kernel
theorem dX3_parse_126 : decode cX3_parse 126 = .ok (.getfield 15, 3) := by decide +kernel
theorem dX3_parse_129 : decode cX3_parse 129 = .ok (.iload_n 3, 1) := by decide +kernel
theorem dX3_parse_130 : decode cX3_parse 130 = .ok (.aload_n 0, 1) := by decide +kernel
theorem dX3_parse_131 : decode cX3_parse 131 = .ok (.iload_n 2, 1) := by decide +kernel
theorem dX3_parse_132 : decode cX3_parse 132 = .ok (.aload_n 0, 1) := by decide +kernel
theorem dX3_parse_133 : decode cX3_parse 133 = .ok (.getfield 21, 3) := by decide +kernel
theorem dX3_parse_136 : decode cX3_parse 136 = .ok (.iconst 1, 1) := by decide +kernel
theorem dX3_parse_137 : decode cX3_parse 137 = .ok (.isub, 1) := by decide +kernel
theorem dX3_parse_138 : decode cX3_parse 138 = .ok (.if_icmp .ne 7, 3) := by decide +kernel
theorem dX3_parse_141 : decode cX3_parse 141 = .ok (.iconst 0, 1) := by decide +kernel
theorem dX3_parse_142 : decode cX3_parse 142 = .ok (.goto 6, 3) := by decide +kernel
theorem dX3_parse_145 : decode cX3_parse 145 = .ok (.iload_n 2, 1) := by decide +kernel
theorem dX3_parse_146 : decode cX3_parse 146 = .ok (.iconst 1, 1) := by decide +kernel
theorem dX3_parse_147 : decode cX3_parse 147 = .ok (.iadd, 1) := by decide +kernel
theorem dX3_parse_148 : decode cX3_parse 148 = .ok (.invokevirtual 48, 3) := by decide +kernel
theorem dX3_parse_151 : decode cX3_parse 151 = .ok (.iastore, 1) := by decide +kernel
theorem dX3_parse_152 : decode cX3_parse 152 = .ok (.aload_n 0, 1) := by decide +kernel
theorem dX3_parse_153 : decode cX3_parse 153 = .ok (.getfield 18, 3) := by decide +kernel
theorem dX3_parse_156 : decode cX3_parse 156 = .ok (.iload_n 3, 1) := by decide +kernel
theorem dX3_parse_157 : decode cX3_parse 157 = .ok (.aload_n 0, 1) := by decide +kernel
theorem dX3_parse_158 : decode cX3_parse 158 = .ok (.iload_n 2, 1) := by decide +kernel
theorem dX3_parse_159 : decode cX3_parse 159 = .ok (.ifCond .ne 12, 3) := by decide +kernel
theorem dX3_parse_162 : decode cX3_parse 162 = .ok (.aload_n 0, 1) := by decide +kernel
theorem dX3_parse_163 : decode cX3_parse 163 = .ok (.getfield 21, 3) := by decide +kernel
theorem dX3_parse_166 : decode cX3_parse 166 = .ok (.iconst 1, 1) := by decide +kernel
theorem dX3_parse_167 : decode cX3_parse 167 = .ok (.isub, 1) := by decide +kernel
theorem dX3_parse_168 : decode cX3_parse 168 = .ok (.goto 6, 3) := by decide +kernel
theorem dX3_parse_171 : decode cX3_parse 171 = .ok (.iload_n 2, 1) := by decide +kernel
theorem dX3_parse_172 : decode cX3_parse 172 = .ok (.iconst 1, 1) := by decide +kernel
theorem dX3_parse_173 : decode cX3_parse 173 = .ok (.isub, 1) := by decide +kernel
theorem dX3_parse_174 : decode cX3_parse 174 = .ok (.invokevirtual 48, 3) := by decide +kernel
theorem dX3_parse_177 : decode cX3_parse 177 = .ok (.iastore, 1) := by decide +kernel
theorem dX3_parse_178 : decode cX3_parse 178 = .ok (.iinc 2 (-1), 3) := by decide +kernel
theorem dX3_parse_181 : decode cX3_parse 181 = .ok (.goto (-75), 3) := by decide +kernel
theorem dX3_parse_184 : decode cX3_parse 184 = .ok (.return_, 1) := by decide +kernel
theorem dX3_faultOf_0 : decode cX3_faultOf 0 = .ok (.iconst 0, 1) := by decide +kernel
theorem dX3_faultOf_1 : decode cX3_faultOf 1 = .ok (.istore_n 1, 1) := by decide +kernel
theorem dX3_faultOf_2 : decode cX3_faultOf 2 = .ok (.iload_n 1, 1) := by decide +kernel
theorem dX3_faultOf_3 : decode cX3_faultOf 3 = .ok (.aload_n 0, 1) := by decide +kernel
theorem dX3_faultOf_4 : decode cX3_faultOf 4 = .ok (.invokevirtual 32, 3) := by decide +kernel
theorem dX3_faultOf_7 : decode cX3_faultOf 7 = .ok (.if_icmp .ge 29, 3) := by decide +kernel
theorem dX3_faultOf_10 : decode cX3_faultOf 10 = .ok (.aload_n 0, 1) := by decide +kernel
theorem dX3_faultOf_11 : decode cX3_faultOf 11 = .ok (.iload_n 1, 1) := by decide +kernel
theorem dX3_faultOf_12 : decode cX3_faultOf 12 = .ok (.invokevirtual 44, 3) := by decide +kernel
theorem dX3_faultOf_15 : decode cX3_faultOf 15 = .ok (.istore_n 2, 1) := by decide +kernel
theorem dX3_faultOf_16 : decode cX3_faultOf 16 = .ok (.iload_n 2, 1) := by decide +kernel
theorem dX3_faultOf_17 : decode cX3_faultOf 17 = .ok (.bipush 97, 2) := by decide +kernel
theorem dX3_faultOf_19 : decode cX3_faultOf 19 = .ok (.if_icmp .lt 9, 3) := by decide +kernel
theorem dX3_faultOf_22 : decode cX3_faultOf 22 = .ok (.iload_n 2, 1) := by decide +kernel
theorem dX3_faultOf_23 : decode cX3_faultOf 23 = .ok (.bipush 104, 2) := by decide +kernel
theorem dX3_faultOf_25 : decode cX3_faultOf 25 = .ok (.if_icmp .le 5, 3) := by decide +kernel
theorem dX3_faultOf_28 : decode cX3_faultOf 28 = .ok (.iload_n 1, 1) := by decide +kernel
theorem dX3_faultOf_29 : decode cX3_faultOf 29 = .ok (.ireturn, 1) := by decide +kernel
theorem dX3_faultOf_30 : decode cX3_faultOf 30 = .ok (.iinc 1 1, 3) := by decide +kernel
theorem dX3_faultOf_33 : decode cX3_faultOf 33 = .ok (.goto (-31), 3) := by decide +kernel
theorem dX3_faultOf_36 : decode cX3_faultOf 36 = .ok (.iconst (-1), 1) := by decide +kernel
theorem dX3_faultOf_37 : decode cX3_faultOf 37 = .ok (.ireturn, 1) := by decide +kernel
theorem dX3_lineIn_0 : decode cX3_lineIn 0 = .ok (.iload_n 1, 1) := by decide +kernel
theorem dX3_lineIn_1 : decode cX3_lineIn 1 = .ok (.ifCond .lt 26, 3) := by decide +kernel
theorem dX3_lineIn_4 : decode cX3_lineIn 4 = .ok (.iload_n 1, 1) := by decide +kernel
theorem dX3_lineIn_5 : decode cX3_lineIn 5 = .ok (.aload_n 0, 1) := by decide +kernel
theorem dX3_lineIn_6 : decode cX3_lineIn 6 = .ok (.getfield 21, 3) := by decide +kernel
theorem dX3_lineIn_9 : decode cX3_lineIn 9 = .ok (.if_icmp .ge 18, 3) := by decide +kernel
theorem dX3_lineIn_12 : decode cX3_lineIn 12 = .ok (.iload_n 1, 1) := by decide +kernel
theorem dX3_lineIn_13 : decode cX3_lineIn 13 = .ok (.bipush 24, 2) := by decide +kernel
theorem dX3_lineIn_15 : decode cX3_lineIn 15 = .ok (.if_icmp .ge 12, 3) := by decide +kernel
theorem dX3_lineIn_18 : decode cX3_lineIn 18 = .ok (.aload_n 0, 1) := by decide +kernel
theorem dX3_lineIn_19 : decode cX3_lineIn 19 = .ok (.getfield 9, 3) := by decide +kernel
theorem dX3_lineIn_22 : decode cX3_lineIn 22 = .ok (.iload_n 1, 1) := by decide +kernel
theorem dX3_lineIn_23 : decode cX3_lineIn 23 = .ok (.iaload, 1) := by decide +kernel
theorem dX3_lineIn_24 : decode cX3_lineIn 24 = .ok (.goto 4, 3) := by decide +kernel
theorem dX3_lineIn_27 : decode cX3_lineIn 27 = .ok (.iconst (-1), 1) := by decide +kernel
theorem dX3_lineIn_28 : decode cX3_lineIn 28 = .ok (.ireturn, 1) := by decide +kernel
theorem dX3_nextTo_0 : decode cX3_nextTo 0 = .ok (.iload_n 1, 1) := by decide +kernel
theorem dX3_nextTo_1 : decode cX3_nextTo 1 = .ok (.ifCond .lt 18, 3) := by decide +kernel
theorem dX3_nextTo_4 : decode cX3_nextTo 4 = .ok (.iload_n 1, 1) := by decide +kernel
theorem dX3_nextTo_5 : decode cX3_nextTo 5 = .ok (.bipush 8, 2) := by decide +kernel
theorem dX3_nextTo_7 : decode cX3_nextTo 7 = .ok (.if_icmp .ge 12, 3) := by decide +kernel
theorem dX3_nextTo_10 : decode cX3_nextTo 10 = .ok (.aload_n 0, 1) := by decide +kernel
theorem dX3_nextTo_11 : decode cX3_nextTo 11 = .ok (.getfield 15, 3) := by decide +kernel
theorem dX3_nextTo_14 : decode cX3_nextTo 14 = .ok (.iload_n 1, 1) := by decide +kernel
theorem dX3_nextTo_15 : decode cX3_nextTo 15 = .ok (.iaload, 1) := by decide +kernel
theorem dX3_nextTo_16 : decode cX3_nextTo 16 = .ok (.goto 4, 3) := by decide +kernel
theorem dX3_nextTo_19 : decode cX3_nextTo 19 = .ok (.iconst (-1), 1) := by decide +kernel
theorem dX3_nextTo_20 : decode cX3_nextTo 20 = .ok (.ireturn, 1) := by decide +kernel
theorem dX3_aheadOf_0 : decode cX3_aheadOf 0 = .ok (.iload_n 1, 1) := by decide +kernel
theorem dX3_aheadOf_1 : decode cX3_aheadOf 1 = .ok (.ifCond .lt 18, 3) := by decide +kernel
theorem dX3_aheadOf_4 : decode cX3_aheadOf 4 = .ok (.iload_n 1, 1) := by decide +kernel
theorem dX3_aheadOf_5 : decode cX3_aheadOf 5 = .ok (.bipush 8, 2) := by decide +kernel
theorem dX3_aheadOf_7 : decode cX3_aheadOf 7 = .ok (.if_icmp .ge 12, 3) := by decide +kernel
theorem dX3_aheadOf_10 : decode cX3_aheadOf 10 = .ok (.aload_n 0, 1) := by decide +kernel
theorem dX3_aheadOf_11 : decode cX3_aheadOf 11 = .ok (.getfield 18, 3) := by decide +kernel
theorem dX3_aheadOf_14 : decode cX3_aheadOf 14 = .ok (.iload_n 1, 1) := by decide +kernel
theorem dX3_aheadOf_15 : decode cX3_aheadOf 15 = .ok (.iaload, 1) := by decide +kernel
theorem dX3_aheadOf_16 : decode cX3_aheadOf 16 = .ok (.goto 4, 3) := by decide +kernel
theorem dX3_aheadOf_19 : decode cX3_aheadOf 19 = .ok (.iconst (-1), 1) := by decide +kernel
theorem dX3_aheadOf_20 : decode cX3_aheadOf 20 = .ok (.ireturn, 1) := by decide +kernel
theorem dX3_printedIn_0 : decode cX3_printedIn 0 = .ok (.aload_n 0, 1) := by decide +kernel
theorem dX3_printedIn_1 : decode cX3_printedIn 1 = .ok (.getfield 21, 3) := by decide +kernel
theorem dX3_printedIn_4 : decode cX3_printedIn 4 = .ok (.ifCond .le 16, 3) := by decide +kernel
theorem dX3_printedIn_7 : decode cX3_printedIn 7 = .ok (.aload_n 0, 1) := by decide +kernel
theorem dX3_printedIn_8 : decode cX3_printedIn 8 = .ok (.iload_n 1, 1) := by decide +kernel
theorem dX3_printedIn_9 : decode cX3_printedIn 9 = .ok (.aload_n 0, 1) := by decide +kernel
theorem dX3_printedIn_10 : decode cX3_printedIn 10 = .ok (.getfield 21, 3) := by decide +kernel
theorem dX3_printedIn_13 : decode cX3_printedIn 13 = .ok (.irem, 1) := by decide +kernel
theorem dX3_printedIn_14 : decode cX3_printedIn 14 = .ok (.invokevirtual 48, 3) := by decide +kernel
theorem dX3_printedIn_17 : decode cX3_printedIn 17 = .ok (.goto 4, 3) := by decide +kernel
theorem dX3_printedIn_20 : decode cX3_printedIn 20 = .ok (.iconst (-1), 1) := by decide +kernel
theorem dX3_printedIn_21 : decode cX3_printedIn 21 = .ok (.ireturn, 1) := by decide +kernel
theorem dX4_init_0 : decode cX4_init 0 = .ok (.aload_n 0, 1) := by decide +kernel
theorem dX4_init_1 : decode cX4_init 1 = .ok (.invokespecial 3, 3) := by decide +kernel
theorem dX4_init_4 : decode cX4_init 4 = .ok (.aload_n 0, 1) := by decide +kernel
theorem dX4_init_5 : decode cX4_init 5 = .ok (.iconst 0, 1) := by decide +kernel
theorem dX4_init_6 : decode cX4_init 6 = .ok (.putfield 9, 3) := by decide +kernel
theorem dX4_init_9 : decode cX4_init 9 = .ok (.aload_n 0, 1) := by decide +kernel
theorem dX4_init_10 : decode cX4_init 10 = .ok (.iload_n 1, 1) := by decide +kernel
theorem dX4_init_11 : decode cX4_init 11 = .ok (.iconst 0, 1) := by decide +kernel
theorem dX4_init_12 : decode cX4_init 12 = .ok (.invokestatic 15, 3) := by decide +kernel
theorem dX4_init_15 : decode cX4_init 15 = .ok (.newarray .int, 2) := by decide +kernel
theorem dX4_init_17 : decode cX4_init 17 = .ok (.putfield 21, 3) := by decide +kernel
theorem dX4_init_20 : decode cX4_init 20 = .ok (.return_, 1) := by decide +kernel
theorem dX4_size_0 : decode cX4_size 0 = .ok (.aload_n 0, 1) := by decide +kernel
theorem dX4_size_1 : decode cX4_size 1 = .ok (.getfield 9, 3) := by decide +kernel
theorem dX4_size_4 : decode cX4_size 4 = .ok (.ireturn, 1) := by decide +kernel
theorem dX4_isFull_0 : decode cX4_isFull 0 = .ok (.aload_n 0, 1) := by decide +kernel
theorem dX4_isFull_1 : decode cX4_isFull 1 = .ok (.getfield 9, 3) := by decide +kernel
theorem dX4_isFull_4 : decode cX4_isFull 4 = .ok (.aload_n 0, 1) := by decide +kernel
theorem dX4_isFull_5 : decode cX4_isFull 5 = .ok (.getfield 21, 3) := by decide +kernel
theorem dX4_isFull_8 : decode cX4_isFull 8 = .ok (.arraylength, 1) := by decide +kernel
theorem dX4_isFull_9 : decode cX4_isFull 9 = .ok (.if_icmp .lt 7, 3) := by decide +kernel
theorem dX4_isFull_12 : decode cX4_isFull 12 = .ok (.iconst 1, 1) := by decide +kernel
theorem dX4_isFull_13 : decode cX4_isFull 13 = .ok (.goto 4, 3) := by decide +kernel
theorem dX4_isFull_16 : decode cX4_isFull 16 = .ok (.iconst 0, 1) := by decide +kernel
theorem dX4_isFull_17 : decode cX4_isFull 17 = .ok (.ireturn, 1) := by decide +kernel
theorem dX4_at_0 : decode cX4_at 0 = .ok (.iload_n 1, 1) := by decide +kernel
theorem dX4_at_1 : decode cX4_at 1 = .ok (.ifCond .lt 21, 3) := by decide +kernel
theorem dX4_at_4 : decode cX4_at 4 = .ok (.iload_n 1, 1) := by decide +kernel
theorem dX4_at_5 : decode cX4_at 5 = .ok (.aload_n 0, 1) := by decide +kernel
theorem dX4_at_6 : decode cX4_at 6 = .ok (.getfield 21, 3) := by decide +kernel
theorem dX4_at_9 : decode cX4_at 9 = .ok (.arraylength, 1) := by decide +kernel
theorem dX4_at_10 : decode cX4_at 10 = .ok (.if_icmp .ge 12, 3) := by decide +kernel
theorem dX4_at_13 : decode cX4_at 13 = .ok (.aload_n 0, 1) := by decide +kernel
theorem dX4_at_14 : decode cX4_at 14 = .ok (.getfield 21, 3) := by decide +kernel
theorem dX4_at_17 : decode cX4_at 17 = .ok (.iload_n 1, 1) := by decide +kernel
theorem dX4_at_18 : decode cX4_at 18 = .ok (.iaload, 1) := by decide +kernel
theorem dX4_at_19 : decode cX4_at 19 = .ok (.goto 4, 3) := by decide +kernel
theorem dX4_at_22 : decode cX4_at 22 = .ok (.iconst (-1), 1) := by decide +kernel
theorem dX4_at_23 : decode cX4_at 23 = .ok (.ireturn, 1) := by decide +kernel
theorem dX4_add_0 : decode cX4_add 0 = .ok (.aload_n 0, 1) := by decide +kernel
theorem dX4_add_1 : decode cX4_add 1 = .ok (.getfield 9, 3) := by decide +kernel
theorem dX4_add_4 : decode cX4_add 4 = .ok (.ifCond .lt 35, 3) := by decide +kernel
theorem dX4_add_7 : decode cX4_add 7 = .ok (.aload_n 0, 1) := by decide +kernel
theorem dX4_add_8 : decode cX4_add 8 = .ok (.getfield 9, 3) := by decide +kernel
theorem dX4_add_11 : decode cX4_add 11 = .ok (.aload_n 0, 1) := by decide +kernel
theorem dX4_add_12 : decode cX4_add 12 = .ok (.getfield 21, 3) := by decide +kernel
theorem dX4_add_15 : decode cX4_add 15 = .ok (.arraylength, 1) := by decide +kernel
theorem dX4_add_16 : decode cX4_add 16 = .ok (.if_icmp .ge 23, 3) := by decide +kernel
theorem dX4_add_19 : decode cX4_add 19 = .ok (.aload_n 0, 1) := by decide +kernel
theorem dX4_add_20 : decode cX4_add 20 = .ok (.getfield 21, 3) := by decide +kernel
theorem dX4_add_23 : decode cX4_add 23 = .ok (.aload_n 0, 1) := by decide +kernel
theorem dX4_add_24 : decode cX4_add 24 = .ok (.getfield 9, 3) := by decide +kernel
theorem dX4_add_27 : decode cX4_add 27 = .ok (.iload_n 1, 1) := by decide +kernel
theorem dX4_add_28 : decode cX4_add 28 = .ok (.iastore, 1) := by decide +kernel
theorem dX4_add_29 : decode cX4_add 29 = .ok (.aload_n 0, 1) := by decide +kernel
theorem dX4_add_30 : decode cX4_add 30 = .ok (.dup, 1) := by decide +kernel
theorem dX4_add_31 : decode cX4_add 31 = .ok (.getfield 9, 3) := by decide +kernel
theorem dX4_add_34 : decode cX4_add 34 = .ok (.iconst 1, 1) := by decide +kernel
theorem dX4_add_35 : decode cX4_add 35 = .ok (.iadd, 1) := by decide +kernel
theorem dX4_add_36 : decode cX4_add 36 = .ok (.putfield 9, 3) := by decide +kernel
theorem dX4_add_39 : decode cX4_add 39 = .ok (.return_, 1) := by decide +kernel
theorem dX4_cut_0 : decode cX4_cut 0 = .ok (.aload_n 0, 1) := by decide +kernel
theorem dX4_cut_1 : decode cX4_cut 1 = .ok (.aload_n 0, 1) := by decide +kernel
theorem dX4_cut_2 : decode cX4_cut 2 = .ok (.getfield 9, 3) := by decide +kernel
theorem dX4_cut_5 : decode cX4_cut 5 = .ok (.iconst 1, 1) := by decide +kernel
theorem dX4_cut_6 : decode cX4_cut 6 = .ok (.isub, 1) := by decide +kernel
theorem dX4_cut_7 : decode cX4_cut 7 = .ok (.iconst 0, 1) := by decide +kernel
theorem dX4_cut_8 : decode cX4_cut 8 = .ok (.invokestatic 15, 3) := by decide +kernel
theorem dX4_cut_11 : decode cX4_cut 11 = .ok (.putfield 9, 3) := by decide +kernel
theorem dX4_cut_14 : decode cX4_cut 14 = .ok (.return_, 1) := by decide +kernel
theorem dX4_clear_0 : decode cX4_clear 0 = .ok (.aload_n 0, 1) := by decide +kernel
theorem dX4_clear_1 : decode cX4_clear 1 = .ok (.iconst 0, 1) := by decide +kernel
theorem dX4_clear_2 : decode cX4_clear 2 = .ok (.putfield 9, 3) := by decide +kernel
theorem dX4_clear_5 : decode cX4_clear 5 = .ok (.return_, 1) := by decide +kernel
theorem dX5_init_0 : decode cX5_init 0 = .ok (.aload_n 0, 1) := by decide +kernel
theorem dX5_init_1 : decode cX5_init 1 = .ok (.invokespecial 3, 3) := by decide +kernel
theorem dX5_init_4 : decode cX5_init 4 = .ok (.aload_n 0, 1) := by decide +kernel
theorem dX5_init_5 : decode cX5_init 5 = .ok (.iconst 4, 1) := by decide +kernel
theorem dX5_init_6 : decode cX5_init 6 = .ok (.newarray .int, 2) := by decide +kernel
theorem dX5_init_8 : decode cX5_init 8 = .ok (.dup, 1) := by decide +kernel
theorem dX5_init_9 : decode cX5_init 9 = .ok (.iconst 0, 1) := by decide +kernel
theorem dX5_init_10 : decode cX5_init 10 = .ok (.iconst (-1), 1) := by decide +kernel
theorem dX5_init_11 : decode cX5_init 11 = .ok (.iastore, 1) := by decide +kernel
theorem dX5_init_12 : decode cX5_init 12 = .ok (.dup, 1) := by decide +kernel
theorem dX5_init_13 : decode cX5_init 13 = .ok (.iconst 1, 1) := by decide +kernel
theorem dX5_init_14 : decode cX5_init 14 = .ok (.iconst (-1), 1) := by decide +kernel
theorem dX5_init_15 : decode cX5_init 15 = .ok (.iastore, 1) := by decide +kernel
theorem dX5_init_16 : decode cX5_init 16 = .ok (.dup, 1) := by decide +kernel
theorem dX5_init_17 : decode cX5_init 17 = .ok (.iconst 2, 1) := by decide +kernel
theorem dX5_init_18 : decode cX5_init 18 = .ok (.iconst (-1), 1) := by decide +kernel
theorem dX5_init_19 : decode cX5_init 19 = .ok (.iastore, 1) := by decide +kernel
theorem dX5_init_20 : decode cX5_init 20 = .ok (.dup, 1) := by decide +kernel
theorem dX5_init_21 : decode cX5_init 21 = .ok (.iconst 3, 1) := by decide +kernel
theorem dX5_init_22 : decode cX5_init 22 = .ok (.iconst (-1), 1) := by decide +kernel
theorem dX5_init_23 : decode cX5_init 23 = .ok (.iastore, 1) := by decide +kernel
theorem dX5_init_24 : decode cX5_init 24 = .ok (.putfield 11, 3) := by decide +kernel
theorem dX5_init_27 : decode cX5_init 27 = .ok (.aload_n 0, 1) := by decide +kernel
theorem dX5_init_28 : decode cX5_init 28 = .ok (.iconst 4, 1) := by decide +kernel
theorem dX5_init_29 : decode cX5_init 29 = .ok (.newarray .int, 2) := by decide +kernel
theorem dX5_init_31 : decode cX5_init 31 = .ok (.putfield 15, 3) := by decide +kernel
theorem dX5_init_34 : decode cX5_init 34 = .ok (.aload_n 0, 1) := by decide +kernel
theorem dX5_init_35 : decode cX5_init 35 = .ok (.sipush 240, 3) := by decide +kernel
theorem dX5_init_38 : decode cX5_init 38 = .ok (.newarray .int, 2) := by decide +kernel
theorem dX5_init_40 : decode cX5_init 40 = .ok (.putfield 18, 3) := by decide +kernel
theorem dX5_init_43 : decode cX5_init 43 = .ok (.return_, 1) := by decide +kernel
theorem dX5_isLost_0 : decode cX5_isLost 0 = .ok (.aload_n 0, 1) := by decide +kernel
theorem dX5_isLost_1 : decode cX5_isLost 1 = .ok (.iload_n 1, 1) := by decide +kernel
theorem dX5_isLost_2 : decode cX5_isLost 2 = .ok (.invokevirtual 21, 3) := by decide +kernel
theorem dX5_isLost_5 : decode cX5_isLost 5 = .ok (.iconst (-1), 1) := by decide +kernel
theorem dX5_isLost_6 : decode cX5_isLost 6 = .ok (.if_icmp .ne 7, 3) := by decide +kernel
theorem dX5_isLost_9 : decode cX5_isLost 9 = .ok (.iconst 1, 1) := by decide +kernel
theorem dX5_isLost_10 : decode cX5_isLost 10 = .ok (.goto 4, 3) := by decide +kernel
theorem dX5_isLost_13 : decode cX5_isLost 13 = .ok (.iconst 0, 1) := by decide +kernel
theorem dX5_isLost_14 : decode cX5_isLost 14 = .ok (.ireturn, 1) := by decide +kernel
theorem dX5_formOf_0 : decode cX5_formOf 0 = .ok (.iload_n 1, 1) := by decide +kernel
theorem dX5_formOf_1 : decode cX5_formOf 1 = .ok (.iconst 4, 1) := by decide +kernel
theorem dX5_formOf_2 : decode cX5_formOf 2 = .ok (.invokestatic 25, 3) := by decide +kernel
theorem dX5_formOf_5 : decode cX5_formOf 5 = .ok (.ifCond .eq 12, 3) := by decide +kernel
theorem dX5_formOf_8 : decode cX5_formOf 8 = .ok (.aload_n 0, 1) := by decide +kernel
theorem dX5_formOf_9 : decode cX5_formOf 9 = .ok (.getfield 11, 3) := by decide +kernel
theorem dX5_formOf_12 : decode cX5_formOf 12 = .ok (.iload_n 1, 1) := by decide +kernel
theorem dX5_formOf_13 : decode cX5_formOf 13 = .ok (.iaload, 1) := by decide +kernel
theorem dX5_formOf_14 : decode cX5_formOf 14 = .ok (.goto 4, 3) := by decide +kernel
theorem dX5_formOf_17 : decode cX5_formOf 17 = .ok (.iconst (-1), 1) := by decide +kernel
theorem dX5_formOf_18 : decode cX5_formOf 18 = .ok (.ireturn, 1) := by decide +kernel
theorem dX5_sizeOf_0 : decode cX5_sizeOf 0 = .ok (.iload_n 1, 1) := by decide +kernel
theorem dX5_sizeOf_1 : decode cX5_sizeOf 1 = .ok (.iconst 4, 1) := by decide +kernel
theorem dX5_sizeOf_2 : decode cX5_sizeOf 2 = .ok (.invokestatic 25, 3) := by decide +kernel
theorem dX5_sizeOf_5 : decode cX5_sizeOf 5 = .ok (.ifCond .eq 12, 3) := by decide +kernel
theorem dX5_sizeOf_8 : decode cX5_sizeOf 8 = .ok (.aload_n 0, 1) := by decide +kernel
theorem dX5_sizeOf_9 : decode cX5_sizeOf 9 = .ok (.getfield 15, 3) := by decide +kernel
theorem dX5_sizeOf_12 : decode cX5_sizeOf 12 = .ok (.iload_n 1, 1) := by decide +kernel
theorem dX5_sizeOf_13 : decode cX5_sizeOf 13 = .ok (.iaload, 1) := by decide +kernel
theorem dX5_sizeOf_14 : decode cX5_sizeOf 14 = .ok (.goto 4, 3) := by decide +kernel
theorem dX5_sizeOf_17 : decode cX5_sizeOf 17 = .ok (.iconst 0, 1) := by decide +kernel
theorem dX5_sizeOf_18 : decode cX5_sizeOf 18 = .ok (.ireturn, 1) := by decide +kernel
theorem dX5_item_0 : decode cX5_item 0 = .ok (.iload_n 1, 1) := by decide +kernel
theorem dX5_item_1 : decode cX5_item 1 = .ok (.iconst 4, 1) := by decide +kernel
theorem dX5_item_2 : decode cX5_item 2 = .ok (.invokestatic 25, 3) := by decide +kernel
theorem dX5_item_5 : decode cX5_item 5 = .ok (.ifCond .eq 26, 3) := by decide +kernel
theorem dX5_item_8 : decode cX5_item 8 = .ok (.iload_n 2, 1) := by decide +kernel
theorem dX5_item_9 : decode cX5_item 9 = .ok (.bipush 60, 2) := by decide +kernel
theorem dX5_item_11 : decode cX5_item 11 = .ok (.invokestatic 25, 3) := by decide +kernel
theorem dX5_item_14 : decode cX5_item 14 = .ok (.ifCond .eq 17, 3) := by decide +kernel
theorem dX5_item_17 : decode cX5_item 17 = .ok (.aload_n 0, 1) := by decide +kernel
theorem dX5_item_18 : decode cX5_item 18 = .ok (.getfield 18, 3) := by decide +kernel
theorem dX5_item_21 : decode cX5_item 21 = .ok (.iload_n 1, 1) := by decide +kernel
theorem dX5_item_22 : decode cX5_item 22 = .ok (.bipush 60, 2) := by decide +kernel
theorem dX5_item_24 : decode cX5_item 24 = .ok (.imul, 1) := by decide +kernel
theorem dX5_item_25 : decode cX5_item 25 = .ok (.iload_n 2, 1) := by decide +kernel
theorem dX5_item_26 : decode cX5_item 26 = .ok (.iadd, 1) := by decide +kernel
theorem dX5_item_27 : decode cX5_item 27 = .ok (.iaload, 1) := by decide +kernel
theorem dX5_item_28 : decode cX5_item 28 = .ok (.goto 4, 3) := by decide +kernel
theorem dX5_item_31 : decode cX5_item 31 = .ok (.iconst 0, 1) := by decide +kernel
theorem dX5_item_32 : decode cX5_item 32 = .ok (.ireturn, 1) := by decide +kernel
theorem dX5_put_0 : decode cX5_put 0 = .ok (.iload_n 1, 1) := by decide +kernel
theorem dX5_put_1 : decode cX5_put 1 = .ok (.iconst 4, 1) := by decide +kernel
theorem dX5_put_2 : decode cX5_put 2 = .ok (.invokestatic 25, 3) := by decide +kernel
theorem dX5_put_5 : decode cX5_put 5 = .ok (.ifCond .eq 53, 3) := by decide +kernel
theorem dX5_put_8 : decode cX5_put 8 = .ok (.iload_n 2, 1) := by decide +kernel
theorem dX5_put_9 : decode cX5_put 9 = .ok (.bipush 60, 2) := by decide +kernel
theorem dX5_put_11 : decode cX5_put 11 = .ok (.invokestatic 25, 3) := by decide +kernel
theorem dX5_put_14 : decode cX5_put 14 = .ok (.ifCond .eq 44, 3) := by decide +kernel
theorem dX5_put_17 : decode cX5_put 17 = .ok (.aload_n 0, 1) := by decide +kernel
theorem dX5_put_18 : decode cX5_put 18 = .ok (.getfield 18, 3) := by decide +kernel
theorem dX5_put_21 : decode cX5_put 21 = .ok (.iload_n 1, 1) := by decide +kernel
theorem dX5_put_22 : decode cX5_put 22 = .ok (.bipush 60, 2) := by decide +kernel
theorem dX5_put_24 : decode cX5_put 24 = .ok (.imul, 1) := by decide +kernel
theorem dX5_put_25 : decode cX5_put 25 = .ok (.iload_n 2, 1) := by decide +kernel
theorem dX5_put_26 : decode cX5_put 26 = .ok (.iadd, 1) := by decide +kernel
theorem dX5_put_27 : decode cX5_put 27 = .ok (.aload_n 0, 1) := by decide +kernel
theorem dX5_put_28 : decode cX5_put 28 = .ok (.getfield 11, 3) := by decide +kernel
theorem dX5_put_31 : decode cX5_put 31 = .ok (.iload_n 1, 1) := by decide +kernel
theorem dX5_put_32 : decode cX5_put 32 = .ok (.iaload, 1) := by decide +kernel
theorem dX5_put_33 : decode cX5_put 33 = .ok (.ifCond .ne 8, 3) := by decide +kernel
theorem dX5_put_36 : decode cX5_put 36 = .ok (.iload_n 3, 1) := by decide +kernel
theorem dX5_put_37 : decode cX5_put 37 = .ok (.i2b, 1) := by decide +kernel
theorem dX5_put_38 : decode cX5_put 38 = .ok (.goto 19, 3) := by decide +kernel
theorem dX5_put_41 : decode cX5_put 41 = .ok (.aload_n 0, 1) := by decide +kernel
theorem dX5_put_42 : decode cX5_put 42 = .ok (.getfield 11, 3) := by decide +kernel
theorem dX5_put_45 : decode cX5_put 45 = .ok (.iload_n 1, 1) := by decide +kernel
theorem dX5_put_46 : decode cX5_put 46 = .ok (.iaload, 1) := by decide +kernel
theorem dX5_put_47 : decode cX5_put 47 = .ok (.iconst 1, 1) := by decide +kernel
theorem dX5_put_48 : decode cX5_put 48 = .ok (.if_icmp .ne 8, 3) := by decide +kernel
theorem dX5_put_51 : decode cX5_put 51 = .ok (.iload_n 3, 1) := by decide +kernel
theorem dX5_put_52 : decode cX5_put 52 = .ok (.i2s, 1) := by decide +kernel
theorem dX5_put_53 : decode cX5_put 53 = .ok (.goto 4, 3) := by decide +kernel
theorem dX5_put_56 : decode cX5_put 56 = .ok (.iload_n 3, 1) := by decide +kernel
theorem dX5_put_57 : decode cX5_put 57 = .ok (.iastore, 1) := by decide +kernel
theorem dX5_put_58 : decode cX5_put 58 = .ok (.return_, 1) := by decide +kernel
theorem dX5_renew_0 : decode cX5_renew 0 = .ok (.iload_n 1, 1) := by decide +kernel
theorem dX5_renew_1 : decode cX5_renew 1 = .ok (.iconst 4, 1) := by decide +kernel
theorem dX5_renew_2 : decode cX5_renew 2 = .ok (.invokestatic 25, 3) := by decide +kernel
theorem dX5_renew_5 : decode cX5_renew 5 = .ok (.ifCond .eq 46, 3) := by decide +kernel
theorem dX5_renew_8 : decode cX5_renew 8 = .ok (.aload_n 0, 1) := by decide +kernel
theorem dX5_renew_9 : decode cX5_renew 9 = .ok (.getfield 11, 3) := by decide +kernel
theorem dX5_renew_12 : decode cX5_renew 12 = .ok (.iload_n 1, 1) := by decide +kernel
theorem dX5_renew_13 : decode cX5_renew 13 = .ok (.iload_n 2, 1) := by decide +kernel
theorem dX5_renew_14 : decode cX5_renew 14 = .ok (.iastore, 1) := by decide +kernel
theorem dX5_renew_15 : decode cX5_renew 15 = .ok (.aload_n 0, 1) := by decide +kernel
theorem dX5_renew_16 : decode cX5_renew 16 = .ok (.getfield 15, 3) := by decide +kernel
theorem dX5_renew_19 : decode cX5_renew 19 = .ok (.iload_n 1, 1) := by decide +kernel
theorem dX5_renew_20 : decode cX5_renew 20 = .ok (.iload_n 3, 1) := by decide +kernel
theorem dX5_renew_21 : decode cX5_renew 21 = .ok (.iastore, 1) := by decide +kernel
theorem dX5_renew_22 : decode cX5_renew 22 = .ok (.iconst 0, 1) := by decide +kernel
theorem dX5_renew_23 : decode cX5_renew 23 = .ok (.istore 4, 2) := by decide +kernel
theorem dX5_renew_25 : decode cX5_renew 25 = .ok (.iload 4, 2) := by decide +kernel
theorem dX5_renew_27 : decode cX5_renew 27 = .ok (.bipush 60, 2) := by decide +kernel
theorem dX5_renew_29 : decode cX5_renew 29 = .ok (.if_icmp .ge 22, 3) := by decide +kernel
theorem dX5_renew_32 : decode cX5_renew 32 = .ok (.aload_n 0, 1) := by decide +kernel
theorem dX5_renew_33 : decode cX5_renew 33 = .ok (.getfield 18, 3) := by decide +kernel
theorem dX5_renew_36 : decode cX5_renew 36 = .ok (.iload_n 1, 1) := by decide +kernel
theorem dX5_renew_37 : decode cX5_renew 37 = .ok (.bipush 60, 2) := by decide +kernel
theorem dX5_renew_39 : decode cX5_renew 39 = .ok (.imul, 1) := by decide +kernel
theorem dX5_renew_40 : decode cX5_renew 40 = .ok (.iload 4, 2) := by decide +kernel
theorem dX5_renew_42 : decode cX5_renew 42 = .ok (.iadd, 1) := by decide +kernel
theorem dX5_renew_43 : decode cX5_renew 43 = .ok (.iconst 0, 1) := by decide +kernel
theorem dX5_renew_44 : decode cX5_renew 44 = .ok (.iastore, 1) := by decide +kernel
theorem dX5_renew_45 : decode cX5_renew 45 = .ok (.iinc 4 1, 3) := by decide +kernel
theorem dX5_renew_48 : decode cX5_renew 48 = .ok (.goto (-23), 3) := by decide +kernel
theorem dX5_renew_51 : decode cX5_renew 51 = .ok (.return_, 1) := by decide +kernel
theorem dX5_tear_0 : decode cX5_tear 0 = .ok (.iload_n 1, 1) := by decide +kernel
theorem dX5_tear_1 : decode cX5_tear 1 = .ok (.iconst 4, 1) := by decide +kernel
theorem dX5_tear_2 : decode cX5_tear 2 = .ok (.invokestatic 25, 3) := by decide +kernel
theorem dX5_tear_5 : decode cX5_tear 5 = .ok (.ifCond .eq 17, 3) := by decide +kernel
theorem dX5_tear_8 : decode cX5_tear 8 = .ok (.aload_n 0, 1) := by decide +kernel
theorem dX5_tear_9 : decode cX5_tear 9 = .ok (.getfield 11, 3) := by decide +kernel
theorem dX5_tear_12 : decode cX5_tear 12 = .ok (.iload_n 1, 1) := by decide +kernel
theorem dX5_tear_13 : decode cX5_tear 13 = .ok (.iconst (-1), 1) := by decide +kernel
theorem dX5_tear_14 : decode cX5_tear 14 = .ok (.iastore, 1) := by decide +kernel
theorem dX5_tear_15 : decode cX5_tear 15 = .ok (.aload_n 0, 1) := by decide +kernel
theorem dX5_tear_16 : decode cX5_tear 16 = .ok (.getfield 15, 3) := by decide +kernel
theorem dX5_tear_19 : decode cX5_tear 19 = .ok (.iload_n 1, 1) := by decide +kernel
theorem dX5_tear_20 : decode cX5_tear 20 = .ok (.iconst 0, 1) := by decide +kernel
theorem dX5_tear_21 : decode cX5_tear 21 = .ok (.iastore, 1) := by decide +kernel
theorem dX5_tear_22 : decode cX5_tear 22 = .ok (.return_, 1) := by decide +kernel
theorem dX5_wrongWith_0 : decode cX5_wrongWith 0 = .ok (.aload_n 0, 1) := by decide +kernel
theorem dX5_wrongWith_1 : decode cX5_wrongWith 1 = .ok (.iload_n 1, 1) := by decide +kernel
theorem dX5_wrongWith_2 : decode cX5_wrongWith 2 = .ok (.invokevirtual 29, 3) := by decide +kernel
theorem dX5_wrongWith_5 : decode cX5_wrongWith 5 = .ok (.ifCond .eq 5, 3) := by decide +kernel
theorem dX5_wrongWith_8 : decode cX5_wrongWith 8 = .ok (.iconst 1, 1) := by decide +kernel
theorem dX5_wrongWith_9 : decode cX5_wrongWith 9 = .ok (.ireturn, 1) := by decide +kernel
theorem dX5_wrongWith_10 : decode cX5_wrongWith 10 = .ok (.aload_n 0, 1) := by decide +kernel
theorem dX5_wrongWith_11 : decode cX5_wrongWith 11 = .ok (.iload_n 1, 1) := by decide +kernel
theorem dX5_wrongWith_12 : decode cX5_wrongWith 12 = .ok (.invokevirtual 21, 3) := by decide +kernel
theorem dX5_wrongWith_15 : decode cX5_wrongWith 15 = .ok (.iload_n 2, 1) := by decide +kernel
theorem dX5_wrongWith_16 : decode cX5_wrongWith 16 = .ok (.if_icmp .eq 5, 3) := by decide +kernel
theorem dX5_wrongWith_19 : decode cX5_wrongWith 19 = .ok (.iconst 3, 1) := by decide +kernel
theorem dX5_wrongWith_20 : decode cX5_wrongWith 20 = .ok (.ireturn, 1) := by decide +kernel
theorem dX5_wrongWith_21 : decode cX5_wrongWith 21 = .ok (.iload_n 3, 1) := by decide +kernel
theorem dX5_wrongWith_22 : decode cX5_wrongWith 22 = .ok (.aload_n 0, 1) := by decide +kernel
theorem dX5_wrongWith_23 : decode cX5_wrongWith 23 = .ok (.iload_n 1, 1) := by decide +kernel
theorem dX5_wrongWith_24 : decode cX5_wrongWith 24 = .ok (.invokevirtual 33, 3) := by decide +kernel
theorem dX5_wrongWith_27 : decode cX5_wrongWith 27 = .ok (.invokestatic 25, 3) := by decide +kernel
theorem dX5_wrongWith_30 : decode cX5_wrongWith 30 = .ok (.ifCond .eq 7, 3) := by decide +kernel
theorem dX5_wrongWith_33 : decode cX5_wrongWith 33 = .ok (.iconst 0, 1) := by decide +kernel
theorem dX5_wrongWith_34 : decode cX5_wrongWith 34 = .ok (.goto 4, 3) := by decide +kernel
theorem dX5_wrongWith_37 : decode cX5_wrongWith 37 = .ok (.iconst 2, 1) := by decide +kernel
theorem dX5_wrongWith_38 : decode cX5_wrongWith 38 = .ok (.ireturn, 1) := by decide +kernel
theorem dX5_hasRun_0 : decode cX5_hasRun 0 = .ok (.iload_n 2, 1) := by decide +kernel
theorem dX5_hasRun_1 : decode cX5_hasRun 1 = .ok (.ifCond .lt 22, 3) := by decide +kernel
theorem dX5_hasRun_4 : decode cX5_hasRun 4 = .ok (.iload_n 3, 1) := by decide +kernel
theorem dX5_hasRun_5 : decode cX5_hasRun 5 = .ok (.ifCond .lt 18, 3) := by decide +kernel
theorem dX5_hasRun_8 : decode cX5_hasRun 8 = .ok (.iload_n 3, 1) := by decide +kernel
theorem dX5_hasRun_9 : decode cX5_hasRun 9 = .ok (.aload_n 0, 1) := by decide +kernel
theorem dX5_hasRun_10 : decode cX5_hasRun 10 = .ok (.iload_n 1, 1) := by decide +kernel
theorem dX5_hasRun_11 : decode cX5_hasRun 11 = .ok (.invokevirtual 33, 3) := by decide +kernel
theorem dX5_hasRun_14 : decode cX5_hasRun 14 = .ok (.iload_n 2, 1) := by decide +kernel
theorem dX5_hasRun_15 : decode cX5_hasRun 15 = .ok (.isub, 1) := by decide +kernel
theorem dX5_hasRun_16 : decode cX5_hasRun 16 = .ok (.if_icmp .gt 7, 3) := by decide +kernel
theorem dX5_hasRun_19 : decode cX5_hasRun 19 = .ok (.iconst 1, 1) := by decide +kernel
theorem dX5_hasRun_20 : decode cX5_hasRun 20 = .ok (.goto 4, 3) := by decide +kernel
theorem dX5_hasRun_23 : decode cX5_hasRun 23 = .ok (.iconst 0, 1) := by decide +kernel
theorem dX5_hasRun_24 : decode cX5_hasRun 24 = .ok (.ireturn, 1) := by decide +kernel
theorem dX5_carry_0 : decode cX5_carry 0 = .ok (.iload_n 1, 1) := by decide +kernel
theorem dX5_carry_1 : decode cX5_carry 1 = .ok (.iload_n 3, 1) := by decide +kernel
theorem dX5_carry_2 : decode cX5_carry 2 = .ok (.if_icmp .ne 9, 3) := by decide +kernel
theorem dX5_carry_5 : decode cX5_carry 5 = .ok (.iload 4, 2) := by decide +kernel
theorem dX5_carry_7 : decode cX5_carry 7 = .ok (.iload_n 2, 1) := by decide +kernel
theorem dX5_carry_8 : decode cX5_carry 8 = .ok (.if_icmp .gt 7, 3) := by decide +kernel
theorem dX5_carry_11 : decode cX5_carry 11 = .ok (.iconst 1, 1) := by decide +kernel
theorem dX5_carry_12 : decode cX5_carry 12 = .ok (.goto 4, 3) := by decide +kernel
theorem dX5_carry_15 : decode cX5_carry 15 = .ok (.iconst 0, 1) := by decide +kernel
theorem dX5_carry_16 : decode cX5_carry 16 = .ok (.istore 6, 2) := by decide +kernel
theorem dX5_carry_18 : decode cX5_carry 18 = .ok (.iconst 0, 1) := by decide +kernel
theorem dX5_carry_19 : decode cX5_carry 19 = .ok (.istore 7, 2) := by decide +kernel
theorem dX5_carry_21 : decode cX5_carry 21 = .ok (.iload 7, 2) := by decide +kernel
theorem dX5_carry_23 : decode cX5_carry 23 = .ok (.iload 5, 2) := by decide +kernel
theorem dX5_carry_25 : decode cX5_carry 25 = .ok (.if_icmp .ge 47, 3) := by decide +kernel
theorem dX5_carry_28 : decode cX5_carry 28 = .ok (.iload 6, 2) := by decide +kernel
theorem dX5_carry_30 : decode cX5_carry 30 = .ok (.ifCond .eq 8, 3) := by decide +kernel
theorem dX5_carry_33 : decode cX5_carry 33 = .ok (.iload 7, 2) := by decide +kernel
theorem dX5_carry_35 : decode cX5_carry 35 = .ok (.goto 10, 3) := by decide +kernel
theorem dX5_carry_38 : decode cX5_carry 38 = .ok (.iload 5, 2) := by decide +kernel
theorem dX5_carry_40 : decode cX5_carry 40 = .ok (.iconst 1, 1) := by decide +kernel
theorem dX5_carry_41 : decode cX5_carry 41 = .ok (.isub, 1) := by decide +kernel
theorem dX5_carry_42 : decode cX5_carry 42 = .ok (.iload 7, 2) := by decide +kernel
theorem dX5_carry_44 : decode cX5_carry 44 = .ok (.isub, 1) := by decide +kernel
theorem dX5_carry_45 : decode cX5_carry 45 = .ok (.istore 8, 2) := by decide +kernel
theorem dX5_carry_47 : decode cX5_carry 47 = .ok (.aload_n 0, 1) := by decide +kernel
theorem dX5_carry_48 : decode cX5_carry 48 = .ok (.iload_n 3, 1) := by decide +kernel
theorem dX5_carry_49 : decode cX5_carry 49 = .ok (.iload 4, 2) := by decide +kernel
theorem dX5_carry_51 : decode cX5_carry 51 = .ok (.iload 8, 2) := by decide +kernel
theorem dX5_carry_53 : decode cX5_carry 53 = .ok (.iadd, 1) := by decide +kernel
theorem dX5_carry_54 : decode cX5_carry 54 = .ok (.aload_n 0, 1) := by decide +kernel
theorem dX5_carry_55 : decode cX5_carry 55 = .ok (.iload_n 1, 1) := by decide +kernel
theorem dX5_carry_56 : decode cX5_carry 56 = .ok (.iload_n 2, 1) := by decide +kernel
theorem dX5_carry_57 : decode cX5_carry 57 = .ok (.iload 8, 2) := by decide +kernel
theorem dX5_carry_59 : decode cX5_carry 59 = .ok (.iadd, 1) := by decide +kernel
theorem dX5_carry_60 : decode cX5_carry 60 = .ok (.invokevirtual 36, 3) := by decide +kernel
theorem dX5_carry_63 : decode cX5_carry 63 = .ok (.invokevirtual 40, 3) := by decide +kernel
theorem dX5_carry_66 : decode cX5_carry 66 = .ok (.iinc 7 1, 3) := by decide +kernel
theorem dX5_carry_69 : decode cX5_carry 69 = .ok (.goto (-48), 3) := by decide +kernel
theorem dX5_carry_72 : decode cX5_carry 72 = .ok (.return_, 1) := by decide +kernel
theorem dX6_init_0 : decode cX6_init 0 = .ok (.aload_n 0, 1) := by decide +kernel
theorem dX6_init_1 : decode cX6_init 1 = .ok (.invokespecial 3, 3) := by decide +kernel
theorem dX6_init_4 : decode cX6_init 4 = .ok (.aload_n 0, 1) := by decide +kernel
theorem dX6_init_5 : decode cX6_init 5 = .ok (.new 9, 3) := by decide +kernel
theorem dX6_init_8 : decode cX6_init 8 = .ok (.dup, 1) := by decide +kernel
theorem dX6_init_9 : decode cX6_init 9 = .ok (.invokespecial 11, 3) := by decide +kernel
theorem dX6_init_12 : decode cX6_init 12 = .ok (.putfield 12, 3) := by decide +kernel
theorem dX6_init_15 : decode cX6_init 15 = .ok (.aload_n 0, 1) := by decide +kernel
theorem dX6_init_16 : decode cX6_init 16 = .ok (.new 18, 3) := by decide +kernel
theorem dX6_init_19 : decode cX6_init 19 = .ok (.dup, 1) := by decide +kernel
theorem dX6_init_20 : decode cX6_init 20 = .ok (.invokespecial 20, 3) := by decide +kernel
theorem dX6_init_23 : decode cX6_init 23 = .ok (.putfield 21, 3) := by decide +kernel
theorem dX6_init_26 : decode cX6_init 26 = .ok (.aload_n 0, 1) := by decide +kernel
theorem dX6_init_27 : decode cX6_init 27 = .ok (.bipush 40, 2) := by decide +kernel
theorem dX6_init_29 : decode cX6_init 29 = .ok (.newarray .int, 2) := by decide +kernel
theorem dX6_init_31 : decode cX6_init 31 = .ok (.putfield 25, 3) := by decide +kernel
theorem dX6_init_34 : decode cX6_init 34 = .ok (.aload_n 0, 1) := by decide +kernel
theorem dX6_init_35 : decode cX6_init 35 = .ok (.bipush 40, 2) := by decide +kernel
theorem dX6_init_37 : decode cX6_init 37 = .ok (.newarray .int, 2) := by decide +kernel
theorem dX6_init_39 : decode cX6_init 39 = .ok (.putfield 29, 3) := by decide +kernel
theorem dX6_init_42 : decode cX6_init 42 = .ok (.aload_n 0, 1) := by decide +kernel
theorem dX6_init_43 : decode cX6_init 43 = .ok (.bipush 40, 2) := by decide +kernel
theorem dX6_init_45 : decode cX6_init 45 = .ok (.newarray .boolean, 2) := by decide +kernel
theorem dX6_init_47 : decode cX6_init 47 = .ok (.putfield 32, 3) := by decide +kernel
theorem dX6_init_50 : decode cX6_init 50 = .ok (.aload_n 0, 1) := by decide +kernel
theorem dX6_init_51 : decode cX6_init 51 = .ok (.bipush 40, 2) := by decide +kernel
theorem dX6_init_53 : decode cX6_init 53 = .ok (.newarray .int, 2) := by decide +kernel
theorem dX6_init_55 : decode cX6_init 55 = .ok (.putfield 36, 3) := by decide +kernel
theorem dX6_init_58 : decode cX6_init 58 = .ok (.aload_n 0, 1) := by decide +kernel
theorem dX6_init_59 : decode cX6_init 59 = .ok (.bipush 40, 2) := by decide +kernel
theorem dX6_init_61 : decode cX6_init 61 = .ok (.newarray .int, 2) := by decide +kernel
theorem dX6_init_63 : decode cX6_init 63 = .ok (.putfield 39, 3) := by decide +kernel
theorem dX6_init_66 : decode cX6_init 66 = .ok (.return_, 1) := by decide +kernel
theorem dX6_set_0 : decode cX6_set 0 = .ok (.iconst 0, 1) := by decide +kernel
theorem dX6_set_1 : decode cX6_set 1 = .ok (.istore 4, 2) := by decide +kernel
theorem dX6_set_3 : decode cX6_set 3 = .ok (.iload 4, 2) := by decide +kernel
theorem dX6_set_5 : decode cX6_set 5 = .ok (.bipush 40, 2) := by decide +kernel
theorem dX6_set_7 : decode cX6_set 7 = .ok (.if_icmp .ge 42, 3) := by decide +kernel
theorem dX6_set_10 : decode cX6_set 10 = .ok (.aload_n 0, 1) := by decide +kernel
theorem dX6_set_11 : decode cX6_set 11 = .ok (.getfield 25, 3) := by decide +kernel
theorem dX6_set_14 : decode cX6_set 14 = .ok (.iload 4, 2) := by decide +kernel
theorem dX6_set_16 : decode cX6_set 16 = .ok (.iconst (-1), 1) := by decide +kernel
theorem dX6_set_17 : decode cX6_set 17 = .ok (.iastore, 1) := by decide +kernel
theorem dX6_set_18 : decode cX6_set 18 = .ok (.aload_n 0, 1) := by decide +kernel
theorem dX6_set_19 : decode cX6_set 19 = .ok (.getfield 29, 3) := by decide +kernel
theorem dX6_set_22 : decode cX6_set 22 = .ok (.iload 4, 2) := by decide +kernel
theorem dX6_set_24 : decode cX6_set 24 = .ok (.iconst 0, 1) := by decide +kernel
theorem dX6_set_25 : decode cX6_set 25 = .ok (.iastore, 1) := by decide +kernel
theorem dX6_set_26 : decode cX6_set 26 = .ok (.aload_n 0, 1) := by decide +kernel
theorem dX6_set_27 : decode cX6_set 27 = .ok (.getfield 32, 3) := by decide +kernel
theorem dX6_set_30 : decode cX6_set 30 = .ok (.iload 4, 2) := by decide +kernel
theorem dX6_set_32 : decode cX6_set 32 = .ok (.iload 4, 2) := by decide +kernel
theorem dX6_set_34 : decode cX6_set 34 = .ok (.ifCond .ne 7, 3) := by decide +kernel
theorem dX6_set_37 : decode cX6_set 37 = .ok (.iconst 1, 1) := by decide +kernel
theorem dX6_set_38 : decode cX6_set 38 = .ok (.goto 4, 3) := by decide +kernel
theorem dX6_set_41 : decode cX6_set 41 = .ok (.iconst 0, 1) := by decide +kernel
theorem dX6_set_42 : decode cX6_set 42 = .ok (.bastore, 1) := by decide +kernel
theorem dX6_set_43 : decode cX6_set 43 = .ok (.iinc 4 1, 3) := by decide +kernel
theorem dX6_set_46 : decode cX6_set 46 = .ok (.goto (-43), 3) := by decide +kernel
theorem dX6_set_49 : decode cX6_set 49 = .ok (.iconst 0, 1) := by decide +kernel
theorem dX6_set_50 : decode cX6_set 50 = .ok (.istore 4, 2) := by decide +kernel
theorem dX6_set_52 : decode cX6_set 52 = .ok (.iload 4, 2) := by decide +kernel
theorem dX6_set_54 : decode cX6_set 54 = .ok (.aload_n 1, 1) := by decide +kernel
theorem dX6_set_55 : decode cX6_set 55 = .ok (.invokevirtual 42, 3) := by decide +kernel
theorem dX6_set_58 : decode cX6_set 58 = .ok (.if_icmp .ge 40, 3) := by decide +kernel
theorem dX6_set_61 : decode cX6_set 61 = .ok (.aload_n 1, 1) := by decide +kernel
theorem dX6_set_62 : decode cX6_set 62 = .ok (.iload 4, 2) := by decide +kernel
theorem dX6_set_64 : decode cX6_set 64 = .ok (.invokevirtual 48, 3) := by decide +kernel
theorem dX6_set_67 : decode cX6_set 67 = .ok (.istore 5, 2) := by decide +kernel
theorem dX6_set_69 : decode cX6_set 69 = .ok (.iload 5, 2) := by decide +kernel
theorem dX6_set_71 : decode cX6_set 71 = .ok (.bipush 40, 2) := by decide +kernel
theorem dX6_set_73 : decode cX6_set 73 = .ok (.invokestatic 52, 3) := by decide +kernel
theorem dX6_set_76 : decode cX6_set 76 = .ok (.ifCond .eq 16, 3) := by decide +kernel
theorem dX6_set_79 : decode cX6_set 79 = .ok (.aload_n 0, 1) := by decide +kernel
theorem dX6_set_80 : decode cX6_set 80 = .ok (.getfield 25, 3) := by decide +kernel
theorem dX6_set_83 : decode cX6_set 83 = .ok (.iload 5, 2) := by decide +kernel
theorem dX6_set_85 : decode cX6_set 85 = .ok (.aload_n 1, 1) := by decide +kernel
theorem dX6_set_86 : decode cX6_set 86 = .ok (.iload 4, 2) := by decide +kernel
theorem dX6_set_88 : decode cX6_set 88 = .ok (.invokevirtual 56, 3) := by decide +kernel
theorem dX6_set_91 : decode cX6_set 91 = .ok (.iastore, 1) := by decide +kernel
theorem dX6_set_92 : decode cX6_set 92 = .ok (.iinc 4 1, 3) := by decide +kernel
theorem dX6_set_95 : decode cX6_set 95 = .ok (.goto (-43), 3) := by decide +kernel
theorem dX6_set_98 : decode cX6_set 98 = .ok (.iconst 0, 1) := by decide +kernel
theorem dX6_set_99 : decode cX6_set 99 = .ok (.istore 4, 2) := by decide +kernel
theorem dX6_set_101 : decode cX6_set 101 = .ok (.iload 4, 2) := by decide +kernel
theorem dX6_set_103 : decode cX6_set 103 = .ok (.aload_n 2, 1) := by decide +kernel
theorem dX6_set_104 : decode cX6_set 104 = .ok (.invokevirtual 42, 3) := by decide +kernel
theorem dX6_set_107 : decode cX6_set 107 = .ok (.if_icmp .ge 45, 3) := by decide +kernel
theorem dX6_set_110 : decode cX6_set 110 = .ok (.aload_n 2, 1) := by decide +kernel
theorem dX6_set_111 : decode cX6_set 111 = .ok (.iload 4, 2) := by decide +kernel
theorem dX6_set_113 : decode cX6_set 113 = .ok (.invokevirtual 48, 3) := by decide +kernel
theorem dX6_set_116 : decode cX6_set 116 = .ok (.istore 5, 2) := by decide +kernel
theorem dX6_set_118 : decode cX6_set 118 = .ok (.iload 5, 2) := by decide +kernel
theorem dX6_set_120 : decode cX6_set 120 = .ok (.bipush 40, 2) := by decide +kernel
theorem dX6_set_122 : decode cX6_set 122 = .ok (.invokestatic 52, 3) := by decide +kernel
theorem dX6_set_125 : decode cX6_set 125 = .ok (.ifCond .eq 21, 3) := by decide +kernel
theorem dX6_set_128 : decode cX6_set 128 = .ok (.aload_n 0, 1) := by decide +kernel
theorem dX6_set_129 : decode cX6_set 129 = .ok (.getfield 29, 3) := by decide +kernel
theorem dX6_set_132 : decode cX6_set 132 = .ok (.iload 5, 2) := by decide +kernel
theorem dX6_set_134 : decode cX6_set 134 = .ok (.dup2, 1) := by decide +kernel
theorem dX6_set_135 : decode cX6_set 135 = .ok (.iaload, 1) := by decide +kernel
theorem dX6_set_136 : decode cX6_set 136 = .ok (.iconst 1, 1) := by decide +kernel
theorem dX6_set_137 : decode cX6_set 137 = .ok (.aload_n 2, 1) := by decide +kernel
theorem dX6_set_138 : decode cX6_set 138 = .ok (.iload 4, 2) := by decide +kernel
theorem dX6_set_140 : decode cX6_set 140 = .ok (.invokevirtual 56, 3) := by decide +kernel
theorem dX6_set_143 : decode cX6_set 143 = .ok (.ishl, 1) := by decide +kernel
theorem dX6_set_144 : decode cX6_set 144 = .ok (.ior, 1) := by decide +kernel
theorem dX6_set_145 : decode cX6_set 145 = .ok (.iastore, 1) := by decide +kernel
theorem dX6_set_146 : decode cX6_set 146 = .ok (.iinc 4 1, 3) := by decide +kernel
theorem dX6_set_149 : decode cX6_set 149 = .ok (.goto (-48), 3) := by decide +kernel
theorem dX6_set_152 : decode cX6_set 152 = .ok (.iconst 0, 1) := by decide +kernel
theorem dX6_set_153 : decode cX6_set 153 = .ok (.istore 4, 2) := by decide +kernel
theorem dX6_set_155 : decode cX6_set 155 = .ok (.iload 4, 2) := by decide +kernel
theorem dX6_set_157 : decode cX6_set 157 = .ok (.aload_n 3, 1) := by decide +kernel
theorem dX6_set_158 : decode cX6_set 158 = .ok (.invokevirtual 42, 3) := by decide +kernel
theorem dX6_set_161 : decode cX6_set 161 = .ok (.if_icmp .ge 35, 3) := by decide +kernel
theorem dX6_set_164 : decode cX6_set 164 = .ok (.aload_n 3, 1) := by decide +kernel
theorem dX6_set_165 : decode cX6_set 165 = .ok (.iload 4, 2) := by decide +kernel
theorem dX6_set_167 : decode cX6_set 167 = .ok (.invokevirtual 48, 3) := by decide +kernel
theorem dX6_set_170 : decode cX6_set 170 = .ok (.istore 5, 2) := by decide +kernel
theorem dX6_set_172 : decode cX6_set 172 = .ok (.iload 5, 2) := by decide +kernel
theorem dX6_set_174 : decode cX6_set 174 = .ok (.bipush 40, 2) := by decide +kernel
theorem dX6_set_176 : decode cX6_set 176 = .ok (.invokestatic 52, 3) := by decide +kernel
theorem dX6_set_179 : decode cX6_set 179 = .ok (.ifCond .eq 11, 3) := by decide +kernel
theorem dX6_set_182 : decode cX6_set 182 = .ok (.aload_n 0, 1) := by decide +kernel
theorem dX6_set_183 : decode cX6_set 183 = .ok (.getfield 32, 3) := by decide +kernel
theorem dX6_set_186 : decode cX6_set 186 = .ok (.iload 5, 2) := by decide +kernel
theorem dX6_set_188 : decode cX6_set 188 = .ok (.iconst 1, 1) := by decide +kernel
theorem dX6_set_189 : decode cX6_set 189 = .ok (.bastore, 1) := by decide +kernel
theorem dX6_set_190 : decode cX6_set 190 = .ok (.iinc 4 1, 3) := by decide +kernel
theorem dX6_set_193 : decode cX6_set 193 = .ok (.goto (-38), 3) := by decide +kernel
theorem dX6_set_196 : decode cX6_set 196 = .ok (.return_, 1) := by decide +kernel
theorem dX6_perform_0 : decode cX6_perform 0 = .ok (.iconst 0, 1) := by decide +kernel
theorem dX6_perform_1 : decode cX6_perform 1 = .ok (.istore_n 1, 1) := by decide +kernel
theorem dX6_perform_2 : decode cX6_perform 2 = .ok (.iconst 0, 1) := by decide +kernel
theorem dX6_perform_3 : decode cX6_perform 3 = .ok (.istore_n 2, 1) := by decide +kernel
theorem dX6_perform_4 : decode cX6_perform 4 = .ok (.iload_n 2, 1) := by decide +kernel
theorem dX6_perform_5 : decode cX6_perform 5 = .ok (.bipush 40, 2) := by decide +kernel
theorem dX6_perform_7 : decode cX6_perform 7 = .ok (.if_icmp .ge 33, 3) := by decide +kernel
theorem dX6_perform_10 : decode cX6_perform 10 = .ok (.aload_n 0, 1) := by decide +kernel
theorem dX6_perform_11 : decode cX6_perform 11 = .ok (.getfield 25, 3) := by decide +kernel
theorem dX6_perform_14 : decode cX6_perform 14 = .ok (.iload_n 2, 1) := by decide +kernel
theorem dX6_perform_15 : decode cX6_perform 15 = .ok (.iaload, 1) := by decide +kernel
theorem dX6_perform_16 : decode cX6_perform 16 = .ok (.iconst (-1), 1) := by decide +kernel
theorem dX6_perform_17 : decode cX6_perform 17 = .ok (.if_icmp .eq 10, 3) := by decide +kernel
theorem dX6_perform_20 : decode cX6_perform 20 = .ok (.aload_n 0, 1) := by decide +kernel
theorem dX6_perform_21 : decode cX6_perform 21 = .ok (.getfield 25, 3) := by decide +kernel
theorem dX6_perform_24 : decode cX6_perform 24 = .ok (.iload_n 2, 1) := by decide +kernel
theorem dX6_perform_25 : decode cX6_perform 25 = .ok (.iaload, 1) := by decide +kernel
theorem dX6_perform_26 : decode cX6_perform 26 = .ok (.istore_n 1, 1) := by decide +kernel
theorem dX6_perform_27 : decode cX6_perform 27 = .ok (.aload_n 0, 1) := by decide +kernel
theorem dX6_perform_28 : decode cX6_perform 28 = .ok (.getfield 25, 3) := by decide +kernel
theorem dX6_perform_31 : decode cX6_perform 31 = .ok (.iload_n 2, 1) := by decide +kernel
theorem dX6_perform_32 : decode cX6_perform 32 = .ok (.iload_n 1, 1) := by decide +kernel
theorem dX6_perform_33 : decode cX6_perform 33 = .ok (.iastore, 1) := by decide +kernel
theorem dX6_perform_34 : decode cX6_perform 34 = .ok (.iinc 2 1, 3) := by decide +kernel
theorem dX6_perform_37 : decode cX6_perform 37 = .ok (.goto (-33), 3) := by decide +kernel
theorem dX6_perform_40 : decode cX6_perform 40 = .ok (.iconst (-1), 1) := by decide +kernel
theorem dX6_perform_41 : decode cX6_perform 41 = .ok (.istore_n 2, 1) := by decide +kernel
theorem dX6_perform_42 : decode cX6_perform 42 = .ok (.iconst 0, 1) := by decide +kernel
theorem dX6_perform_43 : decode cX6_perform 43 = .ok (.istore_n 3, 1) := by decide +kernel
theorem dX6_perform_44 : decode cX6_perform 44 = .ok (.iload_n 3, 1) := by decide +kernel
theorem dX6_perform_45 : decode cX6_perform 45 = .ok (.bipush 40, 2) := by decide +kernel
theorem dX6_perform_47 : decode cX6_perform 47 = .ok (.if_icmp .ge 47, 3) := by decide +kernel
theorem dX6_perform_50 : decode cX6_perform 50 = .ok (.aload_n 0, 1) := by decide +kernel
theorem dX6_perform_51 : decode cX6_perform 51 = .ok (.getfield 36, 3) := by decide +kernel
theorem dX6_perform_54 : decode cX6_perform 54 = .ok (.iload_n 3, 1) := by decide +kernel
theorem dX6_perform_55 : decode cX6_perform 55 = .ok (.aload_n 0, 1) := by decide +kernel
theorem dX6_perform_56 : decode cX6_perform 56 = .ok (.iload_n 3, 1) := by decide +kernel
theorem dX6_perform_57 : decode cX6_perform 57 = .ok (.iconst (-1), 1) := by decide +kernel
theorem dX6_perform_58 : decode cX6_perform 58 = .ok (.invokevirtual 59, 3) := by decide +kernel
theorem dX6_perform_61 : decode cX6_perform 61 = .ok (.iastore, 1) := by decide +kernel
theorem dX6_perform_62 : decode cX6_perform 62 = .ok (.aload_n 0, 1) := by decide +kernel
theorem dX6_perform_63 : decode cX6_perform 63 = .ok (.iload_n 3, 1) := by decide +kernel
theorem dX6_perform_64 : decode cX6_perform 64 = .ok (.aload_n 0, 1) := by decide +kernel
theorem dX6_perform_65 : decode cX6_perform 65 = .ok (.getfield 36, 3) := by decide +kernel
theorem dX6_perform_68 : decode cX6_perform 68 = .ok (.iload_n 3, 1) := by decide +kernel
theorem dX6_perform_69 : decode cX6_perform 69 = .ok (.iaload, 1) := by decide +kernel
theorem dX6_perform_70 : decode cX6_perform 70 = .ok (.iload_n 2, 1) := by decide +kernel
theorem dX6_perform_71 : decode cX6_perform 71 = .ok (.aload_n 0, 1) := by decide +kernel
theorem dX6_perform_72 : decode cX6_perform 72 = .ok (.getfield 29, 3) := by decide +kernel
theorem dX6_perform_75 : decode cX6_perform 75 = .ok (.iload_n 3, 1) := by decide +kernel
theorem dX6_perform_76 : decode cX6_perform 76 = .ok (.iaload, 1) := by decide +kernel
theorem dX6_perform_77 : decode cX6_perform 77 = .ok (.invokevirtual 63, 3) := by decide +kernel
theorem dX6_perform_80 : decode cX6_perform 80 = .ok (.istore_n 2, 1) := by decide +kernel
theorem dX6_perform_81 : decode cX6_perform 81 = .ok (.aload_n 0, 1) := by decide +kernel
theorem dX6_perform_82 : decode cX6_perform 82 = .ok (.getfield 39, 3) := by decide +kernel
theorem dX6_perform_85 : decode cX6_perform 85 = .ok (.iload_n 3, 1) := by decide +kernel
theorem dX6_perform_86 : decode cX6_perform 86 = .ok (.iload_n 2, 1) := by decide +kernel
theorem dX6_perform_87 : decode cX6_perform 87 = .ok (.iastore, 1) := by decide +kernel
theorem dX6_perform_88 : decode cX6_perform 88 = .ok (.iinc 3 1, 3) := by decide +kernel
theorem dX6_perform_91 : decode cX6_perform 91 = .ok (.goto (-47), 3) := by decide +kernel
theorem dX6_perform_94 : decode cX6_perform 94 = .ok (.return_, 1) := by decide +kernel
theorem dX6_playedIn_0 : decode cX6_playedIn 0 = .ok (.iload_n 1, 1) := by decide +kernel
theorem dX6_playedIn_1 : decode cX6_playedIn 1 = .ok (.ifCond .lt 18, 3) := by decide +kernel
theorem dX6_playedIn_4 : decode cX6_playedIn 4 = .ok (.iload_n 1, 1) := by decide +kernel
theorem dX6_playedIn_5 : decode cX6_playedIn 5 = .ok (.bipush 40, 2) := by decide +kernel
theorem dX6_playedIn_7 : decode cX6_playedIn 7 = .ok (.if_icmp .ge 12, 3) := by decide +kernel
theorem dX6_playedIn_10 : decode cX6_playedIn 10 = .ok (.aload_n 0, 1) := by decide +kernel
theorem dX6_playedIn_11 : decode cX6_playedIn 11 = .ok (.getfield 39, 3) := by decide +kernel
theorem dX6_playedIn_14 : decode cX6_playedIn 14 = .ok (.iload_n 1, 1) := by decide +kernel
theorem dX6_playedIn_15 : decode cX6_playedIn 15 = .ok (.iaload, 1) := by decide +kernel
theorem dX6_playedIn_16 : decode cX6_playedIn 16 = .ok (.goto 4, 3) := by decide +kernel
theorem dX6_playedIn_19 : decode cX6_playedIn 19 = .ok (.iconst (-1), 1) := by decide +kernel
theorem dX6_playedIn_20 : decode cX6_playedIn 20 = .ok (.ireturn, 1) := by decide +kernel
theorem dX6_byIn_0 : decode cX6_byIn 0 = .ok (.iload_n 1, 1) := by decide +kernel
theorem dX6_byIn_1 : decode cX6_byIn 1 = .ok (.ifCond .lt 18, 3) := by decide +kernel
theorem dX6_byIn_4 : decode cX6_byIn 4 = .ok (.iload_n 1, 1) := by decide +kernel
theorem dX6_byIn_5 : decode cX6_byIn 5 = .ok (.bipush 40, 2) := by decide +kernel
theorem dX6_byIn_7 : decode cX6_byIn 7 = .ok (.if_icmp .ge 12, 3) := by decide +kernel
theorem dX6_byIn_10 : decode cX6_byIn 10 = .ok (.aload_n 0, 1) := by decide +kernel
theorem dX6_byIn_11 : decode cX6_byIn 11 = .ok (.getfield 36, 3) := by decide +kernel
theorem dX6_byIn_14 : decode cX6_byIn 14 = .ok (.iload_n 1, 1) := by decide +kernel
theorem dX6_byIn_15 : decode cX6_byIn 15 = .ok (.iaload, 1) := by decide +kernel
theorem dX6_byIn_16 : decode cX6_byIn 16 = .ok (.goto 4, 3) := by decide +kernel
theorem dX6_byIn_19 : decode cX6_byIn 19 = .ok (.iconst (-1), 1) := by decide +kernel
theorem dX6_byIn_20 : decode cX6_byIn 20 = .ok (.ireturn, 1) := by decide +kernel
theorem dX6_whereIn_0 : decode cX6_whereIn 0 = .ok (.iload_n 1, 1) := by decide +kernel
theorem dX6_whereIn_1 : decode cX6_whereIn 1 = .ok (.ifCond .lt 18, 3) := by decide +kernel
theorem dX6_whereIn_4 : decode cX6_whereIn 4 = .ok (.iload_n 1, 1) := by decide +kernel
theorem dX6_whereIn_5 : decode cX6_whereIn 5 = .ok (.bipush 40, 2) := by decide +kernel
theorem dX6_whereIn_7 : decode cX6_whereIn 7 = .ok (.if_icmp .ge 12, 3) := by decide +kernel
theorem dX6_whereIn_10 : decode cX6_whereIn 10 = .ok (.aload_n 0, 1) := by decide +kernel
theorem dX6_whereIn_11 : decode cX6_whereIn 11 = .ok (.getfield 25, 3) := by decide +kernel
theorem dX6_whereIn_14 : decode cX6_whereIn 14 = .ok (.iload_n 1, 1) := by decide +kernel
theorem dX6_whereIn_15 : decode cX6_whereIn 15 = .ok (.iaload, 1) := by decide +kernel
theorem dX6_whereIn_16 : decode cX6_whereIn 16 = .ok (.goto 4, 3) := by decide +kernel
theorem dX6_whereIn_19 : decode cX6_whereIn 19 = .ok (.iconst (-1), 1) := by decide +kernel
theorem dX6_whereIn_20 : decode cX6_whereIn 20 = .ok (.ireturn, 1) := by decide +kernel
theorem dX6_coughsIn_0 : decode cX6_coughsIn 0 = .ok (.iload_n 1, 1) := by decide +kernel
theorem dX6_coughsIn_1 : decode cX6_coughsIn 1 = .ok (.ifCond .lt 18, 3) := by decide +kernel
theorem dX6_coughsIn_4 : decode cX6_coughsIn 4 = .ok (.iload_n 1, 1) := by decide +kernel
theorem dX6_coughsIn_5 : decode cX6_coughsIn 5 = .ok (.bipush 40, 2) := by decide +kernel
theorem dX6_coughsIn_7 : decode cX6_coughsIn 7 = .ok (.if_icmp .ge 12, 3) := by decide +kernel
theorem dX6_coughsIn_10 : decode cX6_coughsIn 10 = .ok (.aload_n 0, 1) := by decide +kernel
theorem dX6_coughsIn_11 : decode cX6_coughsIn 11 = .ok (.getfield 29, 3) := by decide +kernel
theorem dX6_coughsIn_14 : decode cX6_coughsIn 14 = .ok (.iload_n 1, 1) := by decide +kernel
theorem dX6_coughsIn_15 : decode cX6_coughsIn 15 = .ok (.iaload, 1) := by decide +kernel
theorem dX6_coughsIn_16 : decode cX6_coughsIn 16 = .ok (.goto 4, 3) := by decide +kernel
theorem dX6_coughsIn_19 : decode cX6_coughsIn 19 = .ok (.iconst 0, 1) := by decide +kernel
theorem dX6_coughsIn_20 : decode cX6_coughsIn 20 = .ok (.ireturn, 1) := by decide +kernel
theorem dX6_hears_0 : decode cX6_hears 0 = .ok (.iload_n 2, 1) := by decide +kernel
theorem dX6_hears_1 : decode cX6_hears 1 = .ok (.iconst 1, 1) := by decide +kernel
theorem dX6_hears_2 : decode cX6_hears 2 = .ok (.if_icmp .lt 28, 3) := by decide +kernel
theorem dX6_hears_5 : decode cX6_hears 5 = .ok (.iload_n 2, 1) := by decide +kernel
theorem dX6_hears_6 : decode cX6_hears 6 = .ok (.bipush 40, 2) := by decide +kernel
theorem dX6_hears_8 : decode cX6_hears 8 = .ok (.if_icmp .ge 22, 3) := by decide +kernel
theorem dX6_hears_11 : decode cX6_hears 11 = .ok (.aload_n 0, 1) := by decide +kernel
theorem dX6_hears_12 : decode cX6_hears 12 = .ok (.getfield 32, 3) := by decide +kernel
theorem dX6_hears_15 : decode cX6_hears 15 = .ok (.iload_n 2, 1) := by decide +kernel
theorem dX6_hears_16 : decode cX6_hears 16 = .ok (.baload, 1) := by decide +kernel
theorem dX6_hears_17 : decode cX6_hears 17 = .ok (.ifCond .ne 13, 3) := by decide +kernel
theorem dX6_hears_20 : decode cX6_hears 20 = .ok (.aload_n 0, 1) := by decide +kernel
theorem dX6_hears_21 : decode cX6_hears 21 = .ok (.getfield 12, 3) := by decide +kernel
theorem dX6_hears_24 : decode cX6_hears 24 = .ok (.getfield 67, 3) := by decide +kernel
theorem dX6_hears_27 : decode cX6_hears 27 = .ok (.ifCond .ne 5, 3) := by decide +kernel
theorem dX6_hears_30 : decode cX6_hears 30 = .ok (.iconst 0, 1) := by decide +kernel
theorem dX6_hears_31 : decode cX6_hears 31 = .ok (.ireturn, 1) := by decide +kernel
theorem dX6_hears_32 : decode cX6_hears 32 = .ok (.iload_n 1, 1) := by decide +kernel
theorem dX6_hears_33 : decode cX6_hears 33 = .ok (.ifCond .lt 9, 3) := by decide +kernel
theorem dX6_hears_36 : decode cX6_hears 36 = .ok (.iload_n 1, 1) := by decide +kernel
theorem dX6_hears_37 : decode cX6_hears 37 = .ok (.bipush 9, 2) := by decide +kernel
theorem dX6_hears_39 : decode cX6_hears 39 = .ok (.if_icmp .lt 5, 3) := by decide +kernel
theorem dX6_hears_42 : decode cX6_hears 42 = .ok (.iconst 0, 1) := by decide +kernel
theorem dX6_hears_43 : decode cX6_hears 43 = .ok (.ireturn, 1) := by decide +kernel
theorem dX6_hears_44 : decode cX6_hears 44 = .ok (.aload_n 0, 1) := by decide +kernel
theorem dX6_hears_45 : decode cX6_hears 45 = .ok (.getfield 21, 3) := by decide +kernel
theorem dX6_hears_48 : decode cX6_hears 48 = .ok (.getfield 71, 3) := by decide +kernel
theorem dX6_hears_51 : decode cX6_hears 51 = .ok (.iload_n 1, 1) := by decide +kernel
theorem dX6_hears_52 : decode cX6_hears 52 = .ok (.iaload, 1) := by decide +kernel
theorem dX6_hears_53 : decode cX6_hears 53 = .ok (.aload_n 0, 1) := by decide +kernel
theorem dX6_hears_54 : decode cX6_hears 54 = .ok (.getfield 25, 3) := by decide +kernel
theorem dX6_hears_57 : decode cX6_hears 57 = .ok (.iload_n 2, 1) := by decide +kernel
theorem dX6_hears_58 : decode cX6_hears 58 = .ok (.iconst 1, 1) := by decide +kernel
theorem dX6_hears_59 : decode cX6_hears 59 = .ok (.isub, 1) := by decide +kernel
theorem dX6_hears_60 : decode cX6_hears 60 = .ok (.iaload, 1) := by decide +kernel
theorem dX6_hears_61 : decode cX6_hears 61 = .ok (.isub, 1) := by decide +kernel
theorem dX6_hears_62 : decode cX6_hears 62 = .ok (.invokestatic 74, 3) := by decide +kernel
theorem dX6_hears_65 : decode cX6_hears 65 = .ok (.istore 4, 2) := by decide +kernel
theorem dX6_hears_67 : decode cX6_hears 67 = .ok (.iload 4, 2) := by decide +kernel
theorem dX6_hears_69 : decode cX6_hears 69 = .ok (.aload_n 0, 1) := by decide +kernel
theorem dX6_hears_70 : decode cX6_hears 70 = .ok (.getfield 21, 3) := by decide +kernel
theorem dX6_hears_73 : decode cX6_hears 73 = .ok (.getfield 79, 3) := by decide +kernel
theorem dX6_hears_76 : decode cX6_hears 76 = .ok (.iload_n 1, 1) := by decide +kernel
theorem dX6_hears_77 : decode cX6_hears 77 = .ok (.iaload, 1) := by decide +kernel
theorem dX6_hears_78 : decode cX6_hears 78 = .ok (.iload_n 3, 1) := by decide +kernel
theorem dX6_hears_79 : decode cX6_hears 79 = .ok (.iadd, 1) := by decide +kernel
theorem dX6_hears_80 : decode cX6_hears 80 = .ok (.if_icmp .gt 7, 3) := by decide +kernel
theorem dX6_hears_83 : decode cX6_hears 83 = .ok (.iconst 1, 1) := by decide +kernel
theorem dX6_hears_84 : decode cX6_hears 84 = .ok (.goto 4, 3) := by decide +kernel
theorem dX6_hears_87 : decode cX6_hears 87 = .ok (.iconst 0, 1) := by decide +kernel
theorem dX6_hears_88 : decode cX6_hears 88 = .ok (.ireturn, 1) := by decide +kernel
theorem dX6_nearest_0 : decode cX6_nearest 0 = .ok (.iconst (-1), 1) := by decide +kernel
theorem dX6_nearest_1 : decode cX6_nearest 1 = .ok (.istore_n 3, 1) := by decide +kernel
theorem dX6_nearest_2 : decode cX6_nearest 2 = .ok (.bipush 10, 2) := by decide +kernel
theorem dX6_nearest_4 : decode cX6_nearest 4 = .ok (.istore 4, 2) := by decide +kernel
theorem dX6_nearest_6 : decode cX6_nearest 6 = .ok (.aload_n 0, 1) := by decide +kernel
theorem dX6_nearest_7 : decode cX6_nearest 7 = .ok (.iload_n 1, 1) := by decide +kernel
theorem dX6_nearest_8 : decode cX6_nearest 8 = .ok (.invokevirtual 82, 3) := by decide +kernel
theorem dX6_nearest_11 : decode cX6_nearest 11 = .ok (.istore 5, 2) := by decide +kernel
theorem dX6_nearest_13 : decode cX6_nearest 13 = .ok (.iconst 0, 1) := by decide +kernel
theorem dX6_nearest_14 : decode cX6_nearest 14 = .ok (.istore 6, 2) := by decide +kernel
theorem dX6_nearest_16 : decode cX6_nearest 16 = .ok (.iload 6, 2) := by decide +kernel
theorem dX6_nearest_18 : decode cX6_nearest 18 = .ok (.aload_n 0, 1) := by decide +kernel
theorem dX6_nearest_19 : decode cX6_nearest 19 = .ok (.getfield 21, 3) := by decide +kernel
theorem dX6_nearest_22 : decode cX6_nearest 22 = .ok (.getfield 85, 3) := by decide +kernel
theorem dX6_nearest_25 : decode cX6_nearest 25 = .ok (.if_icmp .ge 61, 3) := by decide +kernel
theorem dX6_nearest_28 : decode cX6_nearest 28 = .ok (.aload_n 0, 1) := by decide +kernel
theorem dX6_nearest_29 : decode cX6_nearest 29 = .ok (.getfield 21, 3) := by decide +kernel
theorem dX6_nearest_32 : decode cX6_nearest 32 = .ok (.iload 6, 2) := by decide +kernel
theorem dX6_nearest_34 : decode cX6_nearest 34 = .ok (.invokevirtual 87, 3) := by decide +kernel
theorem dX6_nearest_37 : decode cX6_nearest 37 = .ok (.iload 5, 2) := by decide +kernel
theorem dX6_nearest_39 : decode cX6_nearest 39 = .ok (.isub, 1) := by decide +kernel
theorem dX6_nearest_40 : decode cX6_nearest 40 = .ok (.invokestatic 74, 3) := by decide +kernel
theorem dX6_nearest_43 : decode cX6_nearest 43 = .ok (.istore 7, 2) := by decide +kernel
theorem dX6_nearest_45 : decode cX6_nearest 45 = .ok (.iload 7, 2) := by decide +kernel
theorem dX6_nearest_47 : decode cX6_nearest 47 = .ok (.iload 4, 2) := by decide +kernel
theorem dX6_nearest_49 : decode cX6_nearest 49 = .ok (.if_icmp .ge 31, 3) := by decide +kernel
theorem dX6_nearest_52 : decode cX6_nearest 52 = .ok (.aload_n 0, 1) := by decide +kernel
theorem dX6_nearest_53 : decode cX6_nearest 53 = .ok (.iload 6, 2) := by decide +kernel
theorem dX6_nearest_55 : decode cX6_nearest 55 = .ok (.iload_n 1, 1) := by decide +kernel
theorem dX6_nearest_56 : decode cX6_nearest 56 = .ok (.iload 6, 2) := by decide +kernel
theorem dX6_nearest_58 : decode cX6_nearest 58 = .ok (.iload_n 2, 1) := by decide +kernel
theorem dX6_nearest_59 : decode cX6_nearest 59 = .ok (.if_icmp .ne 7, 3) := by decide +kernel
theorem dX6_nearest_62 : decode cX6_nearest 62 = .ok (.iconst 1, 1) := by decide +kernel
theorem dX6_nearest_63 : decode cX6_nearest 63 = .ok (.goto 4, 3) := by decide +kernel
theorem dX6_nearest_66 : decode cX6_nearest 66 = .ok (.iconst 0, 1) := by decide +kernel
theorem dX6_nearest_67 : decode cX6_nearest 67 = .ok (.invokevirtual 90, 3) := by decide +kernel
theorem dX6_nearest_70 : decode cX6_nearest 70 = .ok (.ifCond .eq 10, 3) := by decide +kernel
theorem dX6_nearest_73 : decode cX6_nearest 73 = .ok (.iload 6, 2) := by decide +kernel
theorem dX6_nearest_75 : decode cX6_nearest 75 = .ok (.istore_n 3, 1) := by decide +kernel
theorem dX6_nearest_76 : decode cX6_nearest 76 = .ok (.iload 7, 2) := by decide +kernel
theorem dX6_nearest_78 : decode cX6_nearest 78 = .ok (.istore 4, 2) := by decide +kernel
theorem dX6_nearest_80 : decode cX6_nearest 80 = .ok (.iinc 6 1, 3) := by decide +kernel
theorem dX6_nearest_83 : decode cX6_nearest 83 = .ok (.goto (-67), 3) := by decide +kernel
theorem dX6_nearest_86 : decode cX6_nearest 86 = .ok (.iload_n 3, 1) := by decide +kernel
theorem dX6_nearest_87 : decode cX6_nearest 87 = .ok (.ireturn, 1) := by decide +kernel
theorem dX6_whispered_0 : decode cX6_whispered 0 = .ok (.iload_n 1, 1) := by decide +kernel
theorem dX6_whispered_1 : decode cX6_whispered 1 = .ok (.ifCond .lt 19, 3) := by decide +kernel
theorem dX6_whispered_4 : decode cX6_whispered 4 = .ok (.iload_n 1, 1) := by decide +kernel
theorem dX6_whispered_5 : decode cX6_whispered 5 = .ok (.bipush 9, 2) := by decide +kernel
theorem dX6_whispered_7 : decode cX6_whispered 7 = .ok (.if_icmp .ge 13, 3) := by decide +kernel
theorem dX6_whispered_10 : decode cX6_whispered 10 = .ok (.iload_n 2, 1) := by decide +kernel
theorem dX6_whispered_11 : decode cX6_whispered 11 = .ok (.ifCond .lt 9, 3) := by decide +kernel
theorem dX6_whispered_14 : decode cX6_whispered 14 = .ok (.iload_n 2, 1) := by decide +kernel
theorem dX6_whispered_15 : decode cX6_whispered 15 = .ok (.bipush 8, 2) := by decide +kernel
theorem dX6_whispered_17 : decode cX6_whispered 17 = .ok (.if_icmp .lt 5, 3) := by decide +kernel
theorem dX6_whispered_20 : decode cX6_whispered 20 = .ok (.iconst (-1), 1) := by decide +kernel
theorem dX6_whispered_21 : decode cX6_whispered 21 = .ok (.ireturn, 1) := by decide +kernel
theorem dX6_whispered_22 : decode cX6_whispered 22 = .ok (.aload_n 0, 1) := by decide +kernel
theorem dX6_whispered_23 : decode cX6_whispered 23 = .ok (.getfield 21, 3) := by decide +kernel
theorem dX6_whispered_26 : decode cX6_whispered 26 = .ok (.getfield 94, 3) := by decide +kernel
theorem dX6_whispered_29 : decode cX6_whispered 29 = .ok (.iload_n 1, 1) := by decide +kernel
theorem dX6_whispered_30 : decode cX6_whispered 30 = .ok (.bipush 8, 2) := by decide +kernel
theorem dX6_whispered_32 : decode cX6_whispered 32 = .ok (.imul, 1) := by decide +kernel
theorem dX6_whispered_33 : decode cX6_whispered 33 = .ok (.iload_n 2, 1) := by decide +kernel
theorem dX6_whispered_34 : decode cX6_whispered 34 = .ok (.iadd, 1) := by decide +kernel
theorem dX6_whispered_35 : decode cX6_whispered 35 = .ok (.iaload, 1) := by decide +kernel
theorem dX6_whispered_36 : decode cX6_whispered 36 = .ok (.istore 4, 2) := by decide +kernel
theorem dX6_whispered_38 : decode cX6_whispered 38 = .ok (.iload_n 3, 1) := by decide +kernel
theorem dX6_whispered_39 : decode cX6_whispered 39 = .ok (.iload_n 1, 1) := by decide +kernel
theorem dX6_whispered_40 : decode cX6_whispered 40 = .ok (.ishr, 1) := by decide +kernel
theorem dX6_whispered_41 : decode cX6_whispered 41 = .ok (.iconst 1, 1) := by decide +kernel
theorem dX6_whispered_42 : decode cX6_whispered 42 = .ok (.iand, 1) := by decide +kernel
theorem dX6_whispered_43 : decode cX6_whispered 43 = .ok (.ifCond .ne 8, 3) := by decide +kernel
theorem dX6_whispered_46 : decode cX6_whispered 46 = .ok (.iload 4, 2) := by decide +kernel
theorem dX6_whispered_48 : decode cX6_whispered 48 = .ok (.goto 10, 3) := by decide +kernel
theorem dX6_whispered_51 : decode cX6_whispered 51 = .ok (.iload 4, 2) := by decide +kernel
theorem dX6_whispered_53 : decode cX6_whispered 53 = .ok (.iconst 1, 1) := by decide +kernel
theorem dX6_whispered_54 : decode cX6_whispered 54 = .ok (.iadd, 1) := by decide +kernel
theorem dX6_whispered_55 : decode cX6_whispered 55 = .ok (.bipush 8, 2) := by decide +kernel
theorem dX6_whispered_57 : decode cX6_whispered 57 = .ok (.irem, 1) := by decide +kernel
theorem dX6_whispered_58 : decode cX6_whispered 58 = .ok (.ireturn, 1) := by decide +kernel
theorem dX6_follow_0 : decode cX6_follow 0 = .ok (.iload_n 1, 1) := by decide +kernel
theorem dX6_follow_1 : decode cX6_follow 1 = .ok (.ifCond .lt 18, 3) := by decide +kernel
theorem dX6_follow_4 : decode cX6_follow 4 = .ok (.iload_n 1, 1) := by decide +kernel
theorem dX6_follow_5 : decode cX6_follow 5 = .ok (.bipush 40, 2) := by decide +kernel
theorem dX6_follow_7 : decode cX6_follow 7 = .ok (.if_icmp .ge 12, 3) := by decide +kernel
theorem dX6_follow_10 : decode cX6_follow 10 = .ok (.aload_n 0, 1) := by decide +kernel
theorem dX6_follow_11 : decode cX6_follow 11 = .ok (.getfield 32, 3) := by decide +kernel
theorem dX6_follow_14 : decode cX6_follow 14 = .ok (.iload_n 1, 1) := by decide +kernel
theorem dX6_follow_15 : decode cX6_follow 15 = .ok (.baload, 1) := by decide +kernel
theorem dX6_follow_16 : decode cX6_follow 16 = .ok (.ifCond .eq 12, 3) := by decide +kernel
theorem dX6_follow_19 : decode cX6_follow 19 = .ok (.aload_n 0, 1) := by decide +kernel
theorem dX6_follow_20 : decode cX6_follow 20 = .ok (.getfield 12, 3) := by decide +kernel
theorem dX6_follow_23 : decode cX6_follow 23 = .ok (.iconst 0, 1) := by decide +kernel
theorem dX6_follow_24 : decode cX6_follow 24 = .ok (.invokevirtual 97, 3) := by decide +kernel
theorem dX6_follow_27 : decode cX6_follow 27 = .ok (.ireturn, 1) := by decide +kernel
theorem dX6_follow_28 : decode cX6_follow 28 = .ok (.iload_n 2, 1) := by decide +kernel
theorem dX6_follow_29 : decode cX6_follow 29 = .ok (.iconst (-1), 1) := by decide +kernel
theorem dX6_follow_30 : decode cX6_follow 30 = .ok (.if_icmp .ne 14, 3) := by decide +kernel
theorem dX6_follow_33 : decode cX6_follow 33 = .ok (.aload_n 0, 1) := by decide +kernel
theorem dX6_follow_34 : decode cX6_follow 34 = .ok (.getfield 12, 3) := by decide +kernel
theorem dX6_follow_37 : decode cX6_follow 37 = .ok (.iload_n 3, 1) := by decide +kernel
theorem dX6_follow_38 : decode cX6_follow 38 = .ok (.invokevirtual 100, 3) := by decide +kernel
theorem dX6_follow_41 : decode cX6_follow 41 = .ok (.goto 11, 3) := by decide +kernel
theorem dX6_follow_44 : decode cX6_follow 44 = .ok (.aload_n 0, 1) := by decide +kernel
theorem dX6_follow_45 : decode cX6_follow 45 = .ok (.iload_n 2, 1) := by decide +kernel
theorem dX6_follow_46 : decode cX6_follow 46 = .ok (.iload_n 3, 1) := by decide +kernel
theorem dX6_follow_47 : decode cX6_follow 47 = .ok (.iload 4, 2) := by decide +kernel
theorem dX6_follow_49 : decode cX6_follow 49 = .ok (.invokevirtual 103, 3) := by decide +kernel
theorem dX6_follow_52 : decode cX6_follow 52 = .ok (.ireturn, 1) := by decide +kernel
theorem dX6_rehearse_0 : decode cX6_rehearse 0 = .ok (.aload_n 0, 1) := by decide +kernel
theorem dX6_rehearse_1 : decode cX6_rehearse 1 = .ok (.iload_n 1, 1) := by decide +kernel
theorem dX6_rehearse_2 : decode cX6_rehearse 2 = .ok (.invokevirtual 107, 3) := by decide +kernel
theorem dX6_rehearse_5 : decode cX6_rehearse 5 = .ok (.istore 4, 2) := by decide +kernel
theorem dX6_rehearse_7 : decode cX6_rehearse 7 = .ok (.iload_n 2, 1) := by decide +kernel
theorem dX6_rehearse_8 : decode cX6_rehearse 8 = .ok (.aload_n 0, 1) := by decide +kernel
theorem dX6_rehearse_9 : decode cX6_rehearse 9 = .ok (.iload_n 1, 1) := by decide +kernel
theorem dX6_rehearse_10 : decode cX6_rehearse 10 = .ok (.invokevirtual 110, 3) := by decide +kernel
theorem dX6_rehearse_13 : decode cX6_rehearse 13 = .ok (.iconst (-1), 1) := by decide +kernel
theorem dX6_rehearse_14 : decode cX6_rehearse 14 = .ok (.ixor, 1) := by decide +kernel
theorem dX6_rehearse_15 : decode cX6_rehearse 15 = .ok (.iand, 1) := by decide +kernel
theorem dX6_rehearse_16 : decode cX6_rehearse 16 = .ok (.istore 5, 2) := by decide +kernel
theorem dX6_rehearse_18 : decode cX6_rehearse 18 = .ok (.iload 4, 2) := by decide +kernel
theorem dX6_rehearse_20 : decode cX6_rehearse 20 = .ok (.iconst (-1), 1) := by decide +kernel
theorem dX6_rehearse_21 : decode cX6_rehearse 21 = .ok (.if_icmp .eq 17, 3) := by decide +kernel
theorem dX6_rehearse_24 : decode cX6_rehearse 24 = .ok (.iload 5, 2) := by decide +kernel
theorem dX6_rehearse_26 : decode cX6_rehearse 26 = .ok (.iload 4, 2) := by decide +kernel
theorem dX6_rehearse_28 : decode cX6_rehearse 28 = .ok (.ishr, 1) := by decide +kernel
theorem dX6_rehearse_29 : decode cX6_rehearse 29 = .ok (.iconst 1, 1) := by decide +kernel
theorem dX6_rehearse_30 : decode cX6_rehearse 30 = .ok (.iand, 1) := by decide +kernel
theorem dX6_rehearse_31 : decode cX6_rehearse 31 = .ok (.ifCond .eq 7, 3) := by decide +kernel
theorem dX6_rehearse_34 : decode cX6_rehearse 34 = .ok (.iload_n 1, 1) := by decide +kernel
theorem dX6_rehearse_35 : decode cX6_rehearse 35 = .ok (.goto 5, 3) := by decide +kernel
theorem dX6_rehearse_38 : decode cX6_rehearse 38 = .ok (.bipush 40, 2) := by decide +kernel
theorem dX6_rehearse_40 : decode cX6_rehearse 40 = .ok (.istore 6, 2) := by decide +kernel
theorem dX6_rehearse_42 : decode cX6_rehearse 42 = .ok (.iconst (-1), 1) := by decide +kernel
theorem dX6_rehearse_43 : decode cX6_rehearse 43 = .ok (.istore 7, 2) := by decide +kernel
theorem dX6_rehearse_45 : decode cX6_rehearse 45 = .ok (.iconst 0, 1) := by decide +kernel
theorem dX6_rehearse_46 : decode cX6_rehearse 46 = .ok (.istore 8, 2) := by decide +kernel
theorem dX6_rehearse_48 : decode cX6_rehearse 48 = .ok (.iload 8, 2) := by decide +kernel
theorem dX6_rehearse_50 : decode cX6_rehearse 50 = .ok (.bipush 40, 2) := by decide +kernel
theorem dX6_rehearse_52 : decode cX6_rehearse 52 = .ok (.if_icmp .ge 86, 3) := by decide +kernel
theorem dX6_rehearse_55 : decode cX6_rehearse 55 = .ok (.iload 8, 2) := by decide +kernel
theorem dX6_rehearse_57 : decode cX6_rehearse 57 = .ok (.aload_n 3, 1) := by decide +kernel
theorem dX6_rehearse_58 : decode cX6_rehearse 58 = .ok (.arraylength, 1) := by decide +kernel
theorem dX6_rehearse_59 : decode cX6_rehearse 59 = .ok (.if_icmp .ge 79, 3) := by decide +kernel
theorem dX6_rehearse_62 : decode cX6_rehearse 62 = .ok (.iload 8, 2) := by decide +kernel
theorem dX6_rehearse_64 : decode cX6_rehearse 64 = .ok (.iload 6, 2) := by decide +kernel
theorem dX6_rehearse_66 : decode cX6_rehearse 66 = .ok (.if_icmp .ne 15, 3) := by decide +kernel
theorem dX6_rehearse_69 : decode cX6_rehearse 69 = .ok (.aload_n 0, 1) := by decide +kernel
theorem dX6_rehearse_70 : decode cX6_rehearse 70 = .ok (.getfield 29, 3) := by decide +kernel
theorem dX6_rehearse_73 : decode cX6_rehearse 73 = .ok (.iload 8, 2) := by decide +kernel
theorem dX6_rehearse_75 : decode cX6_rehearse 75 = .ok (.iaload, 1) := by decide +kernel
theorem dX6_rehearse_76 : decode cX6_rehearse 76 = .ok (.iload_n 2, 1) := by decide +kernel
theorem dX6_rehearse_77 : decode cX6_rehearse 77 = .ok (.ior, 1) := by decide +kernel
theorem dX6_rehearse_78 : decode cX6_rehearse 78 = .ok (.goto 10, 3) := by decide +kernel
theorem dX6_rehearse_81 : decode cX6_rehearse 81 = .ok (.aload_n 0, 1) := by decide +kernel
theorem dX6_rehearse_82 : decode cX6_rehearse 82 = .ok (.getfield 29, 3) := by decide +kernel
theorem dX6_rehearse_85 : decode cX6_rehearse 85 = .ok (.iload 8, 2) := by decide +kernel
theorem dX6_rehearse_87 : decode cX6_rehearse 87 = .ok (.iaload, 1) := by decide +kernel
theorem dX6_rehearse_88 : decode cX6_rehearse 88 = .ok (.istore 9, 2) := by decide +kernel
theorem dX6_rehearse_90 : decode cX6_rehearse 90 = .ok (.iload 8, 2) := by decide +kernel
theorem dX6_rehearse_92 : decode cX6_rehearse 92 = .ok (.iload 6, 2) := by decide +kernel
theorem dX6_rehearse_94 : decode cX6_rehearse 94 = .ok (.if_icmp .ge 13, 3) := by decide +kernel
theorem dX6_rehearse_97 : decode cX6_rehearse 97 = .ok (.aload_n 0, 1) := by decide +kernel
theorem dX6_rehearse_98 : decode cX6_rehearse 98 = .ok (.getfield 39, 3) := by decide +kernel
theorem dX6_rehearse_101 : decode cX6_rehearse 101 = .ok (.iload 8, 2) := by decide +kernel
theorem dX6_rehearse_103 : decode cX6_rehearse 103 = .ok (.iaload, 1) := by decide +kernel
theorem dX6_rehearse_104 : decode cX6_rehearse 104 = .ok (.goto 20, 3) := by decide +kernel
theorem dX6_rehearse_107 : decode cX6_rehearse 107 = .ok (.aload_n 0, 1) := by decide +kernel
theorem dX6_rehearse_108 : decode cX6_rehearse 108 = .ok (.iload 8, 2) := by decide +kernel
theorem dX6_rehearse_110 : decode cX6_rehearse 110 = .ok (.aload_n 0, 1) := by decide +kernel
theorem dX6_rehearse_111 : decode cX6_rehearse 111 = .ok (.getfield 36, 3) := by decide +kernel
theorem dX6_rehearse_114 : decode cX6_rehearse 114 = .ok (.iload 8, 2) := by decide +kernel
theorem dX6_rehearse_116 : decode cX6_rehearse 116 = .ok (.iaload, 1) := by decide +kernel
theorem dX6_rehearse_117 : decode cX6_rehearse 117 = .ok (.iload 7, 2) := by decide +kernel
theorem dX6_rehearse_119 : decode cX6_rehearse 119 = .ok (.iload 9, 2) := by decide +kernel
theorem dX6_rehearse_121 : decode cX6_rehearse 121 = .ok (.invokevirtual 63, 3) := by decide +kernel
theorem dX6_rehearse_124 : decode cX6_rehearse 124 = .ok (.istore 7, 2) := by decide +kernel
theorem dX6_rehearse_126 : decode cX6_rehearse 126 = .ok (.aload_n 3, 1) := by decide +kernel
theorem dX6_rehearse_127 : decode cX6_rehearse 127 = .ok (.iload 8, 2) := by decide +kernel
theorem dX6_rehearse_129 : decode cX6_rehearse 129 = .ok (.iload 7, 2) := by decide +kernel
theorem dX6_rehearse_131 : decode cX6_rehearse 131 = .ok (.iastore, 1) := by decide +kernel
theorem dX6_rehearse_132 : decode cX6_rehearse 132 = .ok (.iinc 8 1, 3) := by decide +kernel
theorem dX6_rehearse_135 : decode cX6_rehearse 135 = .ok (.goto (-87), 3) := by decide +kernel
theorem dX6_rehearse_138 : decode cX6_rehearse 138 = .ok (.return_, 1) := by decide +kernel
theorem dX6_rehearseFiled_0 : decode cX6_rehearseFiled 0 = .ok (.iconst (-1), 1) := by decide +kernel
theorem dX6_rehearseFiled_1 : decode cX6_rehearseFiled 1 = .ok (.istore_n 3, 1) := by decide +kernel
theorem dX6_rehearseFiled_2 : decode cX6_rehearseFiled 2 = .ok (.iconst 0, 1) := by decide +kernel
theorem dX6_rehearseFiled_3 : decode cX6_rehearseFiled 3 = .ok (.istore 4, 2) := by decide +kernel
theorem dX6_rehearseFiled_5 : decode cX6_rehearseFiled 5 = .ok (.iload 4, 2) := by decide +kernel
theorem dX6_rehearseFiled_7 : decode cX6_rehearseFiled 7 = .ok (.bipush 40, 2) := by decide +kernel
theorem dX6_rehearseFiled_9 : decode cX6_rehearseFiled 9 = .ok (.if_icmp .ge 43, 3) := by decide +kernel
theorem dX6_rehearseFiled_12 : decode cX6_rehearseFiled 12 = .ok (.iload 4, 2) := by decide +kernel
theorem dX6_rehearseFiled_14 : decode cX6_rehearseFiled 14 = .ok (.aload_n 2, 1) := by decide +kernel
theorem dX6_rehearseFiled_15 : decode cX6_rehearseFiled 15 = .ok (.arraylength, 1) := by decide +kernel
theorem dX6_rehearseFiled_16 : decode cX6_rehearseFiled 16 = .ok (.if_icmp .ge 36, 3) := by decide +kernel
theorem dX6_rehearseFiled_19 : decode cX6_rehearseFiled 19 = .ok (.aload_n 0, 1) := by decide +kernel
theorem dX6_rehearseFiled_20 : decode cX6_rehearseFiled 20 = .ok (.iload 4, 2) := by decide +kernel
theorem dX6_rehearseFiled_22 : decode cX6_rehearseFiled 22 = .ok (.aload_n 0, 1) := by decide +kernel
theorem dX6_rehearseFiled_23 : decode cX6_rehearseFiled 23 = .ok (.iload 4, 2) := by decide +kernel
theorem dX6_rehearseFiled_25 : decode cX6_rehearseFiled 25 = .ok (.iload_n 1, 1) := by decide +kernel
theorem dX6_rehearseFiled_26 : decode cX6_rehearseFiled 26 = .ok (.invokevirtual 59, 3) := by decide +kernel
theorem dX6_rehearseFiled_29 : decode cX6_rehearseFiled 29 = .ok (.iload_n 3, 1) := by decide +kernel
theorem dX6_rehearseFiled_30 : decode cX6_rehearseFiled 30 = .ok (.aload_n 0, 1) := by decide +kernel
theorem dX6_rehearseFiled_31 : decode cX6_rehearseFiled 31 = .ok (.getfield 29, 3) := by decide +kernel
theorem dX6_rehearseFiled_34 : decode cX6_rehearseFiled 34 = .ok (.iload 4, 2) := by decide +kernel
theorem dX6_rehearseFiled_36 : decode cX6_rehearseFiled 36 = .ok (.iaload, 1) := by decide +kernel
theorem dX6_rehearseFiled_37 : decode cX6_rehearseFiled 37 = .ok (.invokevirtual 63, 3) := by decide +kernel
theorem dX6_rehearseFiled_40 : decode cX6_rehearseFiled 40 = .ok (.istore_n 3, 1) := by decide +kernel
theorem dX6_rehearseFiled_41 : decode cX6_rehearseFiled 41 = .ok (.aload_n 2, 1) := by decide +kernel
theorem dX6_rehearseFiled_42 : decode cX6_rehearseFiled 42 = .ok (.iload 4, 2) := by decide +kernel
theorem dX6_rehearseFiled_44 : decode cX6_rehearseFiled 44 = .ok (.iload_n 3, 1) := by decide +kernel
theorem dX6_rehearseFiled_45 : decode cX6_rehearseFiled 45 = .ok (.iastore, 1) := by decide +kernel
theorem dX6_rehearseFiled_46 : decode cX6_rehearseFiled 46 = .ok (.iinc 4 1, 3) := by decide +kernel
theorem dX6_rehearseFiled_49 : decode cX6_rehearseFiled 49 = .ok (.goto (-44), 3) := by decide +kernel
theorem dX6_rehearseFiled_52 : decode cX6_rehearseFiled 52 = .ok (.return_, 1) := by decide +kernel
theorem dX6_leadingInto_0 : decode cX6_leadingInto 0 = .ok (.aload_n 0, 1) := by decide +kernel
theorem dX6_leadingInto_1 : decode cX6_leadingInto 1 = .ok (.iload_n 1, 1) := by decide +kernel
theorem dX6_leadingInto_2 : decode cX6_leadingInto 2 = .ok (.invokevirtual 107, 3) := by decide +kernel
theorem dX6_leadingInto_5 : decode cX6_leadingInto 5 = .ok (.istore_n 3, 1) := by decide +kernel
theorem dX6_leadingInto_6 : decode cX6_leadingInto 6 = .ok (.aload_n 0, 1) := by decide +kernel
theorem dX6_leadingInto_7 : decode cX6_leadingInto 7 = .ok (.iload_n 1, 1) := by decide +kernel
theorem dX6_leadingInto_8 : decode cX6_leadingInto 8 = .ok (.invokevirtual 110, 3) := by decide +kernel
theorem dX6_leadingInto_11 : decode cX6_leadingInto 11 = .ok (.istore 4, 2) := by decide +kernel
theorem dX6_leadingInto_13 : decode cX6_leadingInto 13 = .ok (.iconst 0, 1) := by decide +kernel
theorem dX6_leadingInto_14 : decode cX6_leadingInto 14 = .ok (.istore 5, 2) := by decide +kernel
theorem dX6_leadingInto_16 : decode cX6_leadingInto 16 = .ok (.iconst 0, 1) := by decide +kernel
theorem dX6_leadingInto_17 : decode cX6_leadingInto 17 = .ok (.istore 6, 2) := by decide +kernel
theorem dX6_leadingInto_19 : decode cX6_leadingInto 19 = .ok (.iload 6, 2) := by decide +kernel
theorem dX6_leadingInto_21 : decode cX6_leadingInto 21 = .ok (.bipush 8, 2) := by decide +kernel
theorem dX6_leadingInto_23 : decode cX6_leadingInto 23 = .ok (.if_icmp .ge 36, 3) := by decide +kernel
theorem dX6_leadingInto_26 : decode cX6_leadingInto 26 = .ok (.aload_n 0, 1) := by decide +kernel
theorem dX6_leadingInto_27 : decode cX6_leadingInto 27 = .ok (.iload_n 1, 1) := by decide +kernel
theorem dX6_leadingInto_28 : decode cX6_leadingInto 28 = .ok (.iload_n 3, 1) := by decide +kernel
theorem dX6_leadingInto_29 : decode cX6_leadingInto 29 = .ok (.iload 6, 2) := by decide +kernel
theorem dX6_leadingInto_31 : decode cX6_leadingInto 31 = .ok (.iload 4, 2) := by decide +kernel
theorem dX6_leadingInto_33 : decode cX6_leadingInto 33 = .ok (.invokevirtual 63, 3) := by decide +kernel
theorem dX6_leadingInto_36 : decode cX6_leadingInto 36 = .ok (.invokestatic 113, 3) := by decide +kernel
theorem dX6_leadingInto_39 : decode cX6_leadingInto 39 = .ok (.iload_n 2, 1) := by decide +kernel
theorem dX6_leadingInto_40 : decode cX6_leadingInto 40 = .ok (.iand, 1) := by decide +kernel
theorem dX6_leadingInto_41 : decode cX6_leadingInto 41 = .ok (.ifCond .eq 12, 3) := by decide +kernel
theorem dX6_leadingInto_44 : decode cX6_leadingInto 44 = .ok (.iload 5, 2) := by decide +kernel
theorem dX6_leadingInto_46 : decode cX6_leadingInto 46 = .ok (.iconst 1, 1) := by decide +kernel
theorem dX6_leadingInto_47 : decode cX6_leadingInto 47 = .ok (.iload 6, 2) := by decide +kernel
theorem dX6_leadingInto_49 : decode cX6_leadingInto 49 = .ok (.ishl, 1) := by decide +kernel
theorem dX6_leadingInto_50 : decode cX6_leadingInto 50 = .ok (.ior, 1) := by decide +kernel
theorem dX6_leadingInto_51 : decode cX6_leadingInto 51 = .ok (.istore 5, 2) := by decide +kernel
theorem dX6_leadingInto_53 : decode cX6_leadingInto 53 = .ok (.iinc 6 1, 3) := by decide +kernel
theorem dX6_leadingInto_56 : decode cX6_leadingInto 56 = .ok (.goto (-37), 3) := by decide +kernel
theorem dX6_leadingInto_59 : decode cX6_leadingInto 59 = .ok (.iload 5, 2) := by decide +kernel
theorem dX6_leadingInto_61 : decode cX6_leadingInto 61 = .ok (.ireturn, 1) := by decide +kernel
theorem dX7_init_0 : decode cX7_init 0 = .ok (.aload_n 0, 1) := by decide +kernel
theorem dX7_init_1 : decode cX7_init 1 = .ok (.invokespecial 1, 3) := by decide +kernel
theorem dX7_init_4 : decode cX7_init 4 = .ok (.aload_n 0, 1) := by decide +kernel
theorem dX7_init_5 : decode cX7_init 5 = .ok (.new 7, 3) := by decide +kernel
theorem dX7_init_8 : decode cX7_init 8 = .ok (.dup, 1) := by decide +kernel
theorem dX7_init_9 : decode cX7_init 9 = .ok (.iload_n 1, 1) := by decide +kernel
theorem dX7_init_10 : decode cX7_init 10 = .ok (.invokespecial 9, 3) := by decide +kernel
theorem dX7_init_13 : decode cX7_init 13 = .ok (.putfield 12, 3) := by decide +kernel
theorem dX7_init_16 : decode cX7_init 16 = .ok (.aload_n 0, 1) := by decide +kernel
theorem dX7_init_17 : decode cX7_init 17 = .ok (.new 7, 3) := by decide +kernel
theorem dX7_init_20 : decode cX7_init 20 = .ok (.dup, 1) := by decide +kernel
theorem dX7_init_21 : decode cX7_init 21 = .ok (.iload_n 1, 1) := by decide +kernel
theorem dX7_init_22 : decode cX7_init 22 = .ok (.invokespecial 9, 3) := by decide +kernel
theorem dX7_init_25 : decode cX7_init 25 = .ok (.putfield 18, 3) := by decide +kernel
theorem dX7_init_28 : decode cX7_init 28 = .ok (.return_, 1) := by decide +kernel
theorem dX7_size_0 : decode cX7_size 0 = .ok (.aload_n 0, 1) := by decide +kernel
theorem dX7_size_1 : decode cX7_size 1 = .ok (.getfield 12, 3) := by decide +kernel
theorem dX7_size_4 : decode cX7_size 4 = .ok (.invokevirtual 21, 3) := by decide +kernel
theorem dX7_size_7 : decode cX7_size 7 = .ok (.ireturn, 1) := by decide +kernel
theorem dX7_isFull_0 : decode cX7_isFull 0 = .ok (.aload_n 0, 1) := by decide +kernel
theorem dX7_isFull_1 : decode cX7_isFull 1 = .ok (.getfield 12, 3) := by decide +kernel
theorem dX7_isFull_4 : decode cX7_isFull 4 = .ok (.invokevirtual 25, 3) := by decide +kernel
theorem dX7_isFull_7 : decode cX7_isFull 7 = .ok (.ireturn, 1) := by decide +kernel
theorem dX7_stepAt_0 : decode cX7_stepAt 0 = .ok (.aload_n 0, 1) := by decide +kernel
theorem dX7_stepAt_1 : decode cX7_stepAt 1 = .ok (.getfield 12, 3) := by decide +kernel
theorem dX7_stepAt_4 : decode cX7_stepAt 4 = .ok (.iload_n 1, 1) := by decide +kernel
theorem dX7_stepAt_5 : decode cX7_stepAt 5 = .ok (.invokevirtual 29, 3) := by decide +kernel
theorem dX7_stepAt_8 : decode cX7_stepAt 8 = .ok (.ireturn, 1) := by decide +kernel
theorem dX7_valueAt_0 : decode cX7_valueAt 0 = .ok (.aload_n 0, 1) := by decide +kernel
theorem dX7_valueAt_1 : decode cX7_valueAt 1 = .ok (.getfield 18, 3) := by decide +kernel
theorem dX7_valueAt_4 : decode cX7_valueAt 4 = .ok (.iload_n 1, 1) := by decide +kernel
theorem dX7_valueAt_5 : decode cX7_valueAt 5 = .ok (.invokevirtual 29, 3) := by decide +kernel
theorem dX7_valueAt_8 : decode cX7_valueAt 8 = .ok (.ireturn, 1) := by decide +kernel
theorem dX7_add_0 : decode cX7_add 0 = .ok (.aload_n 0, 1) := by decide +kernel
theorem dX7_add_1 : decode cX7_add 1 = .ok (.getfield 12, 3) := by decide +kernel
theorem dX7_add_4 : decode cX7_add 4 = .ok (.iload_n 1, 1) := by decide +kernel
theorem dX7_add_5 : decode cX7_add 5 = .ok (.invokevirtual 33, 3) := by decide +kernel
theorem dX7_add_8 : decode cX7_add 8 = .ok (.aload_n 0, 1) := by decide +kernel
theorem dX7_add_9 : decode cX7_add 9 = .ok (.getfield 18, 3) := by decide +kernel
theorem dX7_add_12 : decode cX7_add 12 = .ok (.iload_n 2, 1) := by decide +kernel
theorem dX7_add_13 : decode cX7_add 13 = .ok (.invokevirtual 33, 3) := by decide +kernel
theorem dX7_add_16 : decode cX7_add 16 = .ok (.return_, 1) := by decide +kernel
theorem dX7_cut_0 : decode cX7_cut 0 = .ok (.aload_n 0, 1) := by decide +kernel
theorem dX7_cut_1 : decode cX7_cut 1 = .ok (.getfield 12, 3) := by decide +kernel
theorem dX7_cut_4 : decode cX7_cut 4 = .ok (.invokevirtual 36, 3) := by decide +kernel
theorem dX7_cut_7 : decode cX7_cut 7 = .ok (.aload_n 0, 1) := by decide +kernel
theorem dX7_cut_8 : decode cX7_cut 8 = .ok (.getfield 18, 3) := by decide +kernel
theorem dX7_cut_11 : decode cX7_cut 11 = .ok (.invokevirtual 36, 3) := by decide +kernel
theorem dX7_cut_14 : decode cX7_cut 14 = .ok (.return_, 1) := by decide +kernel
theorem dX7_clear_0 : decode cX7_clear 0 = .ok (.aload_n 0, 1) := by decide +kernel
theorem dX7_clear_1 : decode cX7_clear 1 = .ok (.getfield 12, 3) := by decide +kernel
theorem dX7_clear_4 : decode cX7_clear 4 = .ok (.invokevirtual 39, 3) := by decide +kernel
theorem dX7_clear_7 : decode cX7_clear 7 = .ok (.aload_n 0, 1) := by decide +kernel
theorem dX7_clear_8 : decode cX7_clear 8 = .ok (.getfield 18, 3) := by decide +kernel
theorem dX7_clear_11 : decode cX7_clear 11 = .ok (.invokevirtual 39, 3) := by decide +kernel
theorem dX7_clear_14 : decode cX7_clear 14 = .ok (.return_, 1) := by decide +kernel
theorem dX8_init_0 : decode cX8_init 0 = .ok (.aload_n 0, 1) := by decide +kernel
theorem dX8_init_1 : decode cX8_init 1 = .ok (.invokespecial 3, 3) := by decide +kernel
theorem dX8_init_4 : decode cX8_init 4 = .ok (.aload_n 0, 1) := by decide +kernel
theorem dX8_init_5 : decode cX8_init 5 = .ok (.new 9, 3) := by decide +kernel
theorem dX8_init_8 : decode cX8_init 8 = .ok (.dup, 1) := by decide +kernel
theorem dX8_init_9 : decode cX8_init 9 = .ok (.bipush 24, 2) := by decide +kernel
theorem dX8_init_11 : decode cX8_init 11 = .ok (.invokespecial 11, 3) := by decide +kernel
theorem dX8_init_14 : decode cX8_init 14 = .ok (.putfield 14, 3) := by decide +kernel
theorem dX8_init_17 : decode cX8_init 17 = .ok (.aload_n 0, 1) := by decide +kernel
theorem dX8_init_18 : decode cX8_init 18 = .ok (.new 9, 3) := by decide +kernel
theorem dX8_init_21 : decode cX8_init 21 = .ok (.dup, 1) := by decide +kernel
theorem dX8_init_22 : decode cX8_init 22 = .ok (.bipush 44, 2) := by decide +kernel
theorem dX8_init_24 : decode cX8_init 24 = .ok (.invokespecial 11, 3) := by decide +kernel
theorem dX8_init_27 : decode cX8_init 27 = .ok (.putfield 18, 3) := by decide +kernel
theorem dX8_init_30 : decode cX8_init 30 = .ok (.aload_n 0, 1) := by decide +kernel
theorem dX8_init_31 : decode cX8_init 31 = .ok (.new 21, 3) := by decide +kernel
theorem dX8_init_34 : decode cX8_init 34 = .ok (.dup, 1) := by decide +kernel
theorem dX8_init_35 : decode cX8_init 35 = .ok (.bipush 12, 2) := by decide +kernel
theorem dX8_init_37 : decode cX8_init 37 = .ok (.invokespecial 23, 3) := by decide +kernel
theorem dX8_init_40 : decode cX8_init 40 = .ok (.putfield 24, 3) := by decide +kernel
theorem dX8_init_43 : decode cX8_init 43 = .ok (.aload_n 0, 1) := by decide +kernel
theorem dX8_init_44 : decode cX8_init 44 = .ok (.new 21, 3) := by decide +kernel
theorem dX8_init_47 : decode cX8_init 47 = .ok (.dup, 1) := by decide +kernel
theorem dX8_init_48 : decode cX8_init 48 = .ok (.bipush 12, 2) := by decide +kernel
theorem dX8_init_50 : decode cX8_init 50 = .ok (.invokespecial 23, 3) := by decide +kernel
theorem dX8_init_53 : decode cX8_init 53 = .ok (.putfield 28, 3) := by decide +kernel
theorem dX8_init_56 : decode cX8_init 56 = .ok (.aload_n 0, 1) := by decide +kernel
theorem dX8_init_57 : decode cX8_init 57 = .ok (.new 21, 3) := by decide +kernel
theorem dX8_init_60 : decode cX8_init 60 = .ok (.dup, 1) := by decide +kernel
theorem dX8_init_61 : decode cX8_init 61 = .ok (.bipush 6, 2) := by decide +kernel
theorem dX8_init_63 : decode cX8_init 63 = .ok (.invokespecial 23, 3) := by decide +kernel
theorem dX8_init_66 : decode cX8_init 66 = .ok (.putfield 31, 3) := by decide +kernel
theorem dX8_init_69 : decode cX8_init 69 = .ok (.aload_n 0, 1) := by decide +kernel
theorem dX8_init_70 : decode cX8_init 70 = .ok (.new 21, 3) := by decide +kernel
theorem dX8_init_73 : decode cX8_init 73 = .ok (.dup, 1) := by decide +kernel
theorem dX8_init_74 : decode cX8_init 74 = .ok (.bipush 8, 2) := by decide +kernel
theorem dX8_init_76 : decode cX8_init 76 = .ok (.invokespecial 23, 3) := by decide +kernel
theorem dX8_init_79 : decode cX8_init 79 = .ok (.putfield 34, 3) := by decide +kernel
theorem dX8_init_82 : decode cX8_init 82 = .ok (.aload_n 0, 1) := by decide +kernel
theorem dX8_init_83 : decode cX8_init 83 = .ok (.new 37, 3) := by decide +kernel
theorem dX8_init_86 : decode cX8_init 86 = .ok (.dup, 1) := by decide +kernel
theorem dX8_init_87 : decode cX8_init 87 = .ok (.invokespecial 39, 3) := by decide +kernel
theorem dX8_init_90 : decode cX8_init 90 = .ok (.putfield 40, 3) := by decide +kernel
theorem dX8_init_93 : decode cX8_init 93 = .ok (.aload_n 0, 1) := by decide +kernel
theorem dX8_init_94 : decode cX8_init 94 = .ok (.iconst 1, 1) := by decide +kernel
theorem dX8_init_95 : decode cX8_init 95 = .ok (.putfield 44, 3) := by decide +kernel
theorem dX8_init_98 : decode cX8_init 98 = .ok (.aload_n 0, 1) := by decide +kernel
theorem dX8_init_99 : decode cX8_init 99 = .ok (.new 48, 3) := by decide +kernel
theorem dX8_init_102 : decode cX8_init 102 = .ok (.dup, 1) := by decide +kernel
theorem dX8_init_103 : decode cX8_init 103 = .ok (.invokespecial 50, 3) := by decide +kernel
theorem dX8_init_106 : decode cX8_init 106 = .ok (.putfield 51, 3) := by decide +kernel
theorem dX8_init_109 : decode cX8_init 109 = .ok (.aload_n 0, 1) := by decide +kernel
theorem dX8_init_110 : decode cX8_init 110 = .ok (.new 55, 3) := by decide +kernel
theorem dX8_init_113 : decode cX8_init 113 = .ok (.dup, 1) := by decide +kernel
theorem dX8_init_114 : decode cX8_init 114 = .ok (.invokespecial 57, 3) := by decide +kernel
theorem dX8_init_117 : decode cX8_init 117 = .ok (.putfield 58, 3) := by decide +kernel
theorem dX8_init_120 : decode cX8_init 120 = .ok (.aload_n 0, 1) := by decide +kernel
theorem dX8_init_121 : decode cX8_init 121 = .ok (.bipush 40, 2) := by decide +kernel
theorem dX8_init_123 : decode cX8_init 123 = .ok (.newarray .int, 2) := by decide +kernel
theorem dX8_init_125 : decode cX8_init 125 = .ok (.putfield 62, 3) := by decide +kernel
theorem dX8_init_128 : decode cX8_init 128 = .ok (.aload_n 0, 1) := by decide +kernel
theorem dX8_init_129 : decode cX8_init 129 = .ok (.sipush 320, 3) := by decide +kernel
theorem dX8_init_132 : decode cX8_init 132 = .ok (.newarray .int, 2) := by decide +kernel
theorem dX8_init_134 : decode cX8_init 134 = .ok (.putfield 66, 3) := by decide +kernel
theorem dX8_init_137 : decode cX8_init 137 = .ok (.aload_n 0, 1) := by decide +kernel
theorem dX8_init_138 : decode cX8_init 138 = .ok (.new 69, 3) := by decide +kernel
theorem dX8_init_141 : decode cX8_init 141 = .ok (.dup, 1) := by decide +kernel
theorem dX8_init_142 : decode cX8_init 142 = .ok (.invokespecial 71, 3) := by decide +kernel
theorem dX8_init_145 : decode cX8_init 145 = .ok (.putfield 72, 3) := by decide +kernel
theorem dX8_init_148 : decode cX8_init 148 = .ok (.aload_n 0, 1) := by decide +kernel
theorem dX8_init_149 : decode cX8_init 149 = .ok (.iconst 0, 1) := by decide +kernel
theorem dX8_init_150 : decode cX8_init 150 = .ok (.putfield 76, 3) := by decide +kernel
theorem dX8_init_153 : decode cX8_init 153 = .ok (.return_, 1) := by decide +kernel
theorem dX8_type_0 : decode cX8_type 0 = .ok (.iload_n 1, 1) := by decide +kernel
theorem dX8_type_1 : decode cX8_type 1 = .ok (.iconst 2, 1) := by decide +kernel
theorem dX8_type_2 : decode cX8_type 2 = .ok (.invokestatic 80, 3) := by decide +kernel
theorem dX8_type_5 : decode cX8_type 5 = .ok (.ifCond .eq 13, 3) := by decide +kernel
theorem dX8_type_8 : decode cX8_type 8 = .ok (.iload_n 2, 1) := by decide +kernel
theorem dX8_type_9 : decode cX8_type 9 = .ok (.sipush 256, 3) := by decide +kernel
theorem dX8_type_12 : decode cX8_type 12 = .ok (.invokestatic 80, 3) := by decide +kernel
theorem dX8_type_15 : decode cX8_type 15 = .ok (.ifCond .ne 6, 3) := by decide +kernel
theorem dX8_type_18 : decode cX8_type 18 = .ok (.bipush (-2), 2) := by decide +kernel
theorem dX8_type_20 : decode cX8_type 20 = .ok (.ireturn, 1) := by decide +kernel
theorem dX8_type_21 : decode cX8_type 21 = .ok (.aload_n 0, 1) := by decide +kernel
theorem dX8_type_22 : decode cX8_type 22 = .ok (.iload_n 1, 1) := by decide +kernel
theorem dX8_type_23 : decode cX8_type 23 = .ok (.invokevirtual 84, 3) := by decide +kernel
theorem dX8_type_26 : decode cX8_type 26 = .ok (.astore_n 3, 1) := by decide +kernel
theorem dX8_type_27 : decode cX8_type 27 = .ok (.aload_n 3, 1) := by decide +kernel
theorem dX8_type_28 : decode cX8_type 28 = .ok (.invokevirtual 88, 3) := by decide +kernel
theorem dX8_type_31 : decode cX8_type 31 = .ok (.ifCond .eq 6, 3) := by decide +kernel
theorem dX8_type_34 : decode cX8_type 34 = .ok (.bipush (-4), 2) := by decide +kernel
theorem dX8_type_36 : decode cX8_type 36 = .ok (.ireturn, 1) := by decide +kernel
theorem dX8_type_37 : decode cX8_type 37 = .ok (.aload_n 3, 1) := by decide +kernel
theorem dX8_type_38 : decode cX8_type 38 = .ok (.iload_n 2, 1) := by decide +kernel
theorem dX8_type_39 : decode cX8_type 39 = .ok (.invokevirtual 92, 3) := by decide +kernel
theorem dX8_type_42 : decode cX8_type 42 = .ok (.aload_n 0, 1) := by decide +kernel
theorem dX8_type_43 : decode cX8_type 43 = .ok (.iconst 1, 1) := by decide +kernel
theorem dX8_type_44 : decode cX8_type 44 = .ok (.putfield 44, 3) := by decide +kernel
theorem dX8_type_47 : decode cX8_type 47 = .ok (.aload_n 3, 1) := by decide +kernel
theorem dX8_type_48 : decode cX8_type 48 = .ok (.invokevirtual 95, 3) := by decide +kernel
theorem dX8_type_51 : decode cX8_type 51 = .ok (.ireturn, 1) := by decide +kernel
theorem dX8_wipe_0 : decode cX8_wipe 0 = .ok (.iload_n 1, 1) := by decide +kernel
theorem dX8_wipe_1 : decode cX8_wipe 1 = .ok (.iconst 2, 1) := by decide +kernel
theorem dX8_wipe_2 : decode cX8_wipe 2 = .ok (.invokestatic 80, 3) := by decide +kernel
theorem dX8_wipe_5 : decode cX8_wipe 5 = .ok (.ifCond .ne 6, 3) := by decide +kernel
theorem dX8_wipe_8 : decode cX8_wipe 8 = .ok (.bipush (-2), 2) := by decide +kernel
theorem dX8_wipe_10 : decode cX8_wipe 10 = .ok (.ireturn, 1) := by decide +kernel
theorem dX8_wipe_11 : decode cX8_wipe 11 = .ok (.aload_n 0, 1) := by decide +kernel
theorem dX8_wipe_12 : decode cX8_wipe 12 = .ok (.iload_n 1, 1) := by decide +kernel
theorem dX8_wipe_13 : decode cX8_wipe 13 = .ok (.invokevirtual 84, 3) := by decide +kernel
theorem dX8_wipe_16 : decode cX8_wipe 16 = .ok (.astore_n 2, 1) := by decide +kernel
theorem dX8_wipe_17 : decode cX8_wipe 17 = .ok (.aload_n 2, 1) := by decide +kernel
theorem dX8_wipe_18 : decode cX8_wipe 18 = .ok (.invokevirtual 95, 3) := by decide +kernel
theorem dX8_wipe_21 : decode cX8_wipe 21 = .ok (.istore_n 3, 1) := by decide +kernel
theorem dX8_wipe_22 : decode cX8_wipe 22 = .ok (.aload_n 2, 1) := by decide +kernel
theorem dX8_wipe_23 : decode cX8_wipe 23 = .ok (.invokevirtual 99, 3) := by decide +kernel
theorem dX8_wipe_26 : decode cX8_wipe 26 = .ok (.aload_n 0, 1) := by decide +kernel
theorem dX8_wipe_27 : decode cX8_wipe 27 = .ok (.iconst 1, 1) := by decide +kernel
theorem dX8_wipe_28 : decode cX8_wipe 28 = .ok (.putfield 44, 3) := by decide +kernel
theorem dX8_wipe_31 : decode cX8_wipe 31 = .ok (.iload_n 3, 1) := by decide +kernel
theorem dX8_wipe_32 : decode cX8_wipe 32 = .ok (.ireturn, 1) := by decide +kernel
theorem dX8_undo_0 : decode cX8_undo 0 = .ok (.iload_n 1, 1) := by decide +kernel
theorem dX8_undo_1 : decode cX8_undo 1 = .ok (.iconst 2, 1) := by decide +kernel
theorem dX8_undo_2 : decode cX8_undo 2 = .ok (.invokestatic 80, 3) := by decide +kernel
theorem dX8_undo_5 : decode cX8_undo 5 = .ok (.ifCond .ne 6, 3) := by decide +kernel
theorem dX8_undo_8 : decode cX8_undo 8 = .ok (.bipush (-2), 2) := by decide +kernel
theorem dX8_undo_10 : decode cX8_undo 10 = .ok (.ireturn, 1) := by decide +kernel
