theorem dX9_filed_0 : decode cX9_filed 0 = .ok (.aload_n 0, 1) := by decide +kernel
theorem dX9_filed_1 : decode cX9_filed 1 = .ok (.invokevirtual 198, 3) := by decide +kernel
theorem dX9_filed_4 : decode cX9_filed 4 = .ok (.aload_n 0, 1) := by decide +kernel
theorem dX9_filed_5 : decode cX9_filed 5 = .ok (.invokevirtual 230, 3) := by decide +kernel
theorem dX9_filed_8 : decode cX9_filed 8 = .ok (.ireturn, 1) := by decide +kernel
theorem dX9_coughedOf_0 : decode cX9_coughedOf 0 = .ok (.iconst 0, 1) := by decide +kernel
theorem dX9_coughedOf_1 : decode cX9_coughedOf 1 = .ok (.istore_n 2, 1) := by decide +kernel
theorem dX9_coughedOf_2 : decode cX9_coughedOf 2 = .ok (.iconst 0, 1) := by decide +kernel
theorem dX9_coughedOf_3 : decode cX9_coughedOf 3 = .ok (.istore_n 3, 1) := by decide +kernel
theorem dX9_coughedOf_4 : decode cX9_coughedOf 4 = .ok (.iload_n 3, 1) := by decide +kernel
theorem dX9_coughedOf_5 : decode cX9_coughedOf 5 = .ok (.bipush 31, 2) := by decide +kernel
theorem dX9_coughedOf_7 : decode cX9_coughedOf 7 = .ok (.if_icmp .ge 54, 3) := by decide +kernel
theorem dX9_coughedOf_10 : decode cX9_coughedOf 10 = .ok (.aload_n 0, 1) := by decide +kernel
theorem dX9_coughedOf_11 : decode cX9_coughedOf 11 = .ok (.getfield 43, 3) := by decide +kernel
theorem dX9_coughedOf_14 : decode cX9_coughedOf 14 = .ok (.iload_n 3, 1) := by decide +kernel
theorem dX9_coughedOf_15 : decode cX9_coughedOf 15 = .ok (.iaload, 1) := by decide +kernel
theorem dX9_coughedOf_16 : decode cX9_coughedOf 16 = .ok (.istore 4, 2) := by decide +kernel
theorem dX9_coughedOf_18 : decode cX9_coughedOf 18 = .ok (.aload_n 0, 1) := by decide +kernel
theorem dX9_coughedOf_19 : decode cX9_coughedOf 19 = .ok (.getfield 43, 3) := by decide +kernel
theorem dX9_coughedOf_22 : decode cX9_coughedOf 22 = .ok (.iload_n 3, 1) := by decide +kernel
theorem dX9_coughedOf_23 : decode cX9_coughedOf 23 = .ok (.dup2, 1) := by decide +kernel
theorem dX9_coughedOf_24 : decode cX9_coughedOf 24 = .ok (.iaload, 1) := by decide +kernel
theorem dX9_coughedOf_25 : decode cX9_coughedOf 25 = .ok (.iconst 1, 1) := by decide +kernel
theorem dX9_coughedOf_26 : decode cX9_coughedOf 26 = .ok (.iload_n 1, 1) := by decide +kernel
theorem dX9_coughedOf_27 : decode cX9_coughedOf 27 = .ok (.ishl, 1) := by decide +kernel
theorem dX9_coughedOf_28 : decode cX9_coughedOf 28 = .ok (.ior, 1) := by decide +kernel
theorem dX9_coughedOf_29 : decode cX9_coughedOf 29 = .ok (.iastore, 1) := by decide +kernel
theorem dX9_coughedOf_30 : decode cX9_coughedOf 30 = .ok (.iload_n 2, 1) := by decide +kernel
theorem dX9_coughedOf_31 : decode cX9_coughedOf 31 = .ok (.aload_n 0, 1) := by decide +kernel
theorem dX9_coughedOf_32 : decode cX9_coughedOf 32 = .ok (.invokevirtual 226, 3) := by decide +kernel
theorem dX9_coughedOf_35 : decode cX9_coughedOf 35 = .ok (.ifCond .eq 9, 3) := by decide +kernel
theorem dX9_coughedOf_38 : decode cX9_coughedOf 38 = .ok (.iconst 1, 1) := by decide +kernel
theorem dX9_coughedOf_39 : decode cX9_coughedOf 39 = .ok (.iload_n 3, 1) := by decide +kernel
theorem dX9_coughedOf_40 : decode cX9_coughedOf 40 = .ok (.ishl, 1) := by decide +kernel
theorem dX9_coughedOf_41 : decode cX9_coughedOf 41 = .ok (.goto 4, 3) := by decide +kernel
theorem dX9_coughedOf_44 : decode cX9_coughedOf 44 = .ok (.iconst 0, 1) := by decide +kernel
theorem dX9_coughedOf_45 : decode cX9_coughedOf 45 = .ok (.ior, 1) := by decide +kernel
theorem dX9_coughedOf_46 : decode cX9_coughedOf 46 = .ok (.istore_n 2, 1) := by decide +kernel
theorem dX9_coughedOf_47 : decode cX9_coughedOf 47 = .ok (.aload_n 0, 1) := by decide +kernel
theorem dX9_coughedOf_48 : decode cX9_coughedOf 48 = .ok (.getfield 43, 3) := by decide +kernel
theorem dX9_coughedOf_51 : decode cX9_coughedOf 51 = .ok (.iload_n 3, 1) := by decide +kernel
theorem dX9_coughedOf_52 : decode cX9_coughedOf 52 = .ok (.iload 4, 2) := by decide +kernel
theorem dX9_coughedOf_54 : decode cX9_coughedOf 54 = .ok (.iastore, 1) := by decide +kernel
theorem dX9_coughedOf_55 : decode cX9_coughedOf 55 = .ok (.iinc 3 1, 3) := by decide +kernel
theorem dX9_coughedOf_58 : decode cX9_coughedOf 58 = .ok (.goto (-54), 3) := by decide +kernel
theorem dX9_coughedOf_61 : decode cX9_coughedOf 61 = .ok (.aload_n 0, 1) := by decide +kernel
theorem dX9_coughedOf_62 : decode cX9_coughedOf 62 = .ok (.iconst 0, 1) := by decide +kernel
theorem dX9_coughedOf_63 : decode cX9_coughedOf 63 = .ok (.bipush 39, 2) := by decide +kernel
theorem dX9_coughedOf_65 : decode cX9_coughedOf 65 = .ok (.invokevirtual 191, 3) := by decide +kernel
theorem dX9_coughedOf_68 : decode cX9_coughedOf 68 = .ok (.iload_n 2, 1) := by decide +kernel
theorem dX9_coughedOf_69 : decode cX9_coughedOf 69 = .ok (.ireturn, 1) := by decide +kernel
theorem dX9_coughed_0 : decode cX9_coughed 0 = .ok (.aload_n 0, 1) := by decide +kernel
theorem dX9_coughed_1 : decode cX9_coughed 1 = .ok (.invokevirtual 198, 3) := by decide +kernel
theorem dX9_coughed_4 : decode cX9_coughed 4 = .ok (.aload_n 0, 1) := by decide +kernel
theorem dX9_coughed_5 : decode cX9_coughed 5 = .ok (.iload_n 1, 1) := by decide +kernel
theorem dX9_coughed_6 : decode cX9_coughed 6 = .ok (.invokevirtual 135, 3) := by decide +kernel
theorem dX9_coughed_9 : decode cX9_coughed 9 = .ok (.ifCond .eq 11, 3) := by decide +kernel
theorem dX9_coughed_12 : decode cX9_coughed 12 = .ok (.aload_n 0, 1) := by decide +kernel
theorem dX9_coughed_13 : decode cX9_coughed 13 = .ok (.iload_n 1, 1) := by decide +kernel
theorem dX9_coughed_14 : decode cX9_coughed 14 = .ok (.invokevirtual 233, 3) := by decide +kernel
theorem dX9_coughed_17 : decode cX9_coughed 17 = .ok (.goto 5, 3) := by decide +kernel
theorem dX9_coughed_20 : decode cX9_coughed 20 = .ok (.bipush (-2), 2) := by decide +kernel
theorem dX9_coughed_22 : decode cX9_coughed 22 = .ok (.ireturn, 1) := by decide +kernel
theorem dX9_askOf_0 : decode cX9_askOf 0 = .ok (.aload_n 0, 1) := by decide +kernel
theorem dX9_askOf_1 : decode cX9_askOf 1 = .ok (.iload_n 1, 1) := by decide +kernel
theorem dX9_askOf_2 : decode cX9_askOf 2 = .ok (.invokevirtual 233, 3) := by decide +kernel
theorem dX9_askOf_5 : decode cX9_askOf 5 = .ok (.istore_n 2, 1) := by decide +kernel
theorem dX9_askOf_6 : decode cX9_askOf 6 = .ok (.iconst 0, 1) := by decide +kernel
theorem dX9_askOf_7 : decode cX9_askOf 7 = .ok (.istore_n 3, 1) := by decide +kernel
theorem dX9_askOf_8 : decode cX9_askOf 8 = .ok (.iload_n 3, 1) := by decide +kernel
theorem dX9_askOf_9 : decode cX9_askOf 9 = .ok (.sipush 360, 3) := by decide +kernel
theorem dX9_askOf_12 : decode cX9_askOf 12 = .ok (.if_icmp .ge 16, 3) := by decide +kernel
theorem dX9_askOf_15 : decode cX9_askOf 15 = .ok (.aload_n 0, 1) := by decide +kernel
theorem dX9_askOf_16 : decode cX9_askOf 16 = .ok (.getfield 58, 3) := by decide +kernel
theorem dX9_askOf_19 : decode cX9_askOf 19 = .ok (.iload_n 3, 1) := by decide +kernel
theorem dX9_askOf_20 : decode cX9_askOf 20 = .ok (.iconst 0, 1) := by decide +kernel
theorem dX9_askOf_21 : decode cX9_askOf 21 = .ok (.iastore, 1) := by decide +kernel
theorem dX9_askOf_22 : decode cX9_askOf 22 = .ok (.iinc 3 1, 3) := by decide +kernel
theorem dX9_askOf_25 : decode cX9_askOf 25 = .ok (.goto (-17), 3) := by decide +kernel
theorem dX9_askOf_28 : decode cX9_askOf 28 = .ok (.iconst 0, 1) := by decide +kernel
theorem dX9_askOf_29 : decode cX9_askOf 29 = .ok (.istore_n 3, 1) := by decide +kernel
theorem dX9_askOf_30 : decode cX9_askOf 30 = .ok (.iload_n 3, 1) := by decide +kernel
theorem dX9_askOf_31 : decode cX9_askOf 31 = .ok (.bipush 31, 2) := by decide +kernel
theorem dX9_askOf_33 : decode cX9_askOf 33 = .ok (.if_icmp .ge 92, 3) := by decide +kernel
theorem dX9_askOf_36 : decode cX9_askOf 36 = .ok (.iload_n 2, 1) := by decide +kernel
theorem dX9_askOf_37 : decode cX9_askOf 37 = .ok (.iload_n 3, 1) := by decide +kernel
theorem dX9_askOf_38 : decode cX9_askOf 38 = .ok (.invokestatic 174, 3) := by decide +kernel
theorem dX9_askOf_41 : decode cX9_askOf 41 = .ok (.ifCond .eq 78, 3) := by decide +kernel
theorem dX9_askOf_44 : decode cX9_askOf 44 = .ok (.aload_n 0, 1) := by decide +kernel
theorem dX9_askOf_45 : decode cX9_askOf 45 = .ok (.getfield 43, 3) := by decide +kernel
theorem dX9_askOf_48 : decode cX9_askOf 48 = .ok (.iload_n 3, 1) := by decide +kernel
theorem dX9_askOf_49 : decode cX9_askOf 49 = .ok (.iaload, 1) := by decide +kernel
theorem dX9_askOf_50 : decode cX9_askOf 50 = .ok (.istore 4, 2) := by decide +kernel
theorem dX9_askOf_52 : decode cX9_askOf 52 = .ok (.aload_n 0, 1) := by decide +kernel
theorem dX9_askOf_53 : decode cX9_askOf 53 = .ok (.getfield 43, 3) := by decide +kernel
theorem dX9_askOf_56 : decode cX9_askOf 56 = .ok (.iload_n 3, 1) := by decide +kernel
theorem dX9_askOf_57 : decode cX9_askOf 57 = .ok (.dup2, 1) := by decide +kernel
theorem dX9_askOf_58 : decode cX9_askOf 58 = .ok (.iaload, 1) := by decide +kernel
theorem dX9_askOf_59 : decode cX9_askOf 59 = .ok (.iconst 1, 1) := by decide +kernel
theorem dX9_askOf_60 : decode cX9_askOf 60 = .ok (.iload_n 1, 1) := by decide +kernel
theorem dX9_askOf_61 : decode cX9_askOf 61 = .ok (.ishl, 1) := by decide +kernel
theorem dX9_askOf_62 : decode cX9_askOf 62 = .ok (.ior, 1) := by decide +kernel
theorem dX9_askOf_63 : decode cX9_askOf 63 = .ok (.iastore, 1) := by decide +kernel
theorem dX9_askOf_64 : decode cX9_askOf 64 = .ok (.aload_n 0, 1) := by decide +kernel
theorem dX9_askOf_65 : decode cX9_askOf 65 = .ok (.iconst 0, 1) := by decide +kernel
theorem dX9_askOf_66 : decode cX9_askOf 66 = .ok (.bipush 39, 2) := by decide +kernel
theorem dX9_askOf_68 : decode cX9_askOf 68 = .ok (.invokevirtual 191, 3) := by decide +kernel
theorem dX9_askOf_71 : decode cX9_askOf 71 = .ok (.aload_n 0, 1) := by decide +kernel
theorem dX9_askOf_72 : decode cX9_askOf 72 = .ok (.getfield 43, 3) := by decide +kernel
theorem dX9_askOf_75 : decode cX9_askOf 75 = .ok (.iload_n 3, 1) := by decide +kernel
theorem dX9_askOf_76 : decode cX9_askOf 76 = .ok (.iload 4, 2) := by decide +kernel
theorem dX9_askOf_78 : decode cX9_askOf 78 = .ok (.iastore, 1) := by decide +kernel
theorem dX9_askOf_79 : decode cX9_askOf 79 = .ok (.iconst 0, 1) := by decide +kernel
theorem dX9_askOf_80 : decode cX9_askOf 80 = .ok (.istore 5, 2) := by decide +kernel
theorem dX9_askOf_82 : decode cX9_askOf 82 = .ok (.iload 5, 2) := by decide +kernel
theorem dX9_askOf_84 : decode cX9_askOf 84 = .ok (.bipush 40, 2) := by decide +kernel
theorem dX9_askOf_86 : decode cX9_askOf 86 = .ok (.if_icmp .ge 33, 3) := by decide +kernel
theorem dX9_askOf_89 : decode cX9_askOf 89 = .ok (.aload_n 0, 1) := by decide +kernel
theorem dX9_askOf_90 : decode cX9_askOf 90 = .ok (.getfield 58, 3) := by decide +kernel
theorem dX9_askOf_93 : decode cX9_askOf 93 = .ok (.bipush 9, 2) := by decide +kernel
theorem dX9_askOf_95 : decode cX9_askOf 95 = .ok (.iload 5, 2) := by decide +kernel
theorem dX9_askOf_97 : decode cX9_askOf 97 = .ok (.imul, 1) := by decide +kernel
theorem dX9_askOf_98 : decode cX9_askOf 98 = .ok (.aload_n 0, 1) := by decide +kernel
theorem dX9_askOf_99 : decode cX9_askOf 99 = .ok (.getfield 49, 3) := by decide +kernel
theorem dX9_askOf_102 : decode cX9_askOf 102 = .ok (.iload 5, 2) := by decide +kernel
theorem dX9_askOf_104 : decode cX9_askOf 104 = .ok (.iaload, 1) := by decide +kernel
theorem dX9_askOf_105 : decode cX9_askOf 105 = .ok (.iadd, 1) := by decide +kernel
theorem dX9_askOf_106 : decode cX9_askOf 106 = .ok (.iconst 1, 1) := by decide +kernel
theorem dX9_askOf_107 : decode cX9_askOf 107 = .ok (.iadd, 1) := by decide +kernel
theorem dX9_askOf_108 : decode cX9_askOf 108 = .ok (.dup2, 1) := by decide +kernel
theorem dX9_askOf_109 : decode cX9_askOf 109 = .ok (.iaload, 1) := by decide +kernel
theorem dX9_askOf_110 : decode cX9_askOf 110 = .ok (.iconst 1, 1) := by decide +kernel
theorem dX9_askOf_111 : decode cX9_askOf 111 = .ok (.iadd, 1) := by decide +kernel
theorem dX9_askOf_112 : decode cX9_askOf 112 = .ok (.iastore, 1) := by decide +kernel
theorem dX9_askOf_113 : decode cX9_askOf 113 = .ok (.iinc 5 1, 3) := by decide +kernel
theorem dX9_askOf_116 : decode cX9_askOf 116 = .ok (.goto (-34), 3) := by decide +kernel
theorem dX9_askOf_119 : decode cX9_askOf 119 = .ok (.iinc 3 1, 3) := by decide +kernel
theorem dX9_askOf_122 : decode cX9_askOf 122 = .ok (.goto (-92), 3) := by decide +kernel
theorem dX9_askOf_125 : decode cX9_askOf 125 = .ok (.aload_n 0, 1) := by decide +kernel
theorem dX9_askOf_126 : decode cX9_askOf 126 = .ok (.iconst 0, 1) := by decide +kernel
theorem dX9_askOf_127 : decode cX9_askOf 127 = .ok (.bipush 39, 2) := by decide +kernel
theorem dX9_askOf_129 : decode cX9_askOf 129 = .ok (.invokevirtual 191, 3) := by decide +kernel
theorem dX9_askOf_132 : decode cX9_askOf 132 = .ok (.iconst 0, 1) := by decide +kernel
theorem dX9_askOf_133 : decode cX9_askOf 133 = .ok (.istore_n 3, 1) := by decide +kernel
theorem dX9_askOf_134 : decode cX9_askOf 134 = .ok (.iconst (-1), 1) := by decide +kernel
theorem dX9_askOf_135 : decode cX9_askOf 135 = .ok (.istore 4, 2) := by decide +kernel
theorem dX9_askOf_137 : decode cX9_askOf 137 = .ok (.iconst 0, 1) := by decide +kernel
theorem dX9_askOf_138 : decode cX9_askOf 138 = .ok (.istore 5, 2) := by decide +kernel
theorem dX9_askOf_140 : decode cX9_askOf 140 = .ok (.iload 5, 2) := by decide +kernel
theorem dX9_askOf_142 : decode cX9_askOf 142 = .ok (.bipush 40, 2) := by decide +kernel
theorem dX9_askOf_144 : decode cX9_askOf 144 = .ok (.if_icmp .ge 112, 3) := by decide +kernel
theorem dX9_askOf_147 : decode cX9_askOf 147 = .ok (.iconst 0, 1) := by decide +kernel
theorem dX9_askOf_148 : decode cX9_askOf 148 = .ok (.istore 6, 2) := by decide +kernel
theorem dX9_askOf_150 : decode cX9_askOf 150 = .ok (.iconst 0, 1) := by decide +kernel
theorem dX9_askOf_151 : decode cX9_askOf 151 = .ok (.istore 7, 2) := by decide +kernel
theorem dX9_askOf_153 : decode cX9_askOf 153 = .ok (.iload 7, 2) := by decide +kernel
theorem dX9_askOf_155 : decode cX9_askOf 155 = .ok (.bipush 9, 2) := by decide +kernel
theorem dX9_askOf_157 : decode cX9_askOf 157 = .ok (.if_icmp .ge 47, 3) := by decide +kernel
theorem dX9_askOf_160 : decode cX9_askOf 160 = .ok (.aload_n 0, 1) := by decide +kernel
theorem dX9_askOf_161 : decode cX9_askOf 161 = .ok (.getfield 58, 3) := by decide +kernel
theorem dX9_askOf_164 : decode cX9_askOf 164 = .ok (.bipush 9, 2) := by decide +kernel
theorem dX9_askOf_166 : decode cX9_askOf 166 = .ok (.iload 5, 2) := by decide +kernel
theorem dX9_askOf_168 : decode cX9_askOf 168 = .ok (.imul, 1) := by decide +kernel
theorem dX9_askOf_169 : decode cX9_askOf 169 = .ok (.iload 7, 2) := by decide +kernel
theorem dX9_askOf_171 : decode cX9_askOf 171 = .ok (.iadd, 1) := by decide +kernel
theorem dX9_askOf_172 : decode cX9_askOf 172 = .ok (.iaload, 1) := by decide +kernel
theorem dX9_askOf_173 : decode cX9_askOf 173 = .ok (.iload 6, 2) := by decide +kernel
theorem dX9_askOf_175 : decode cX9_askOf 175 = .ok (.if_icmp .le 19, 3) := by decide +kernel
theorem dX9_askOf_178 : decode cX9_askOf 178 = .ok (.aload_n 0, 1) := by decide +kernel
theorem dX9_askOf_179 : decode cX9_askOf 179 = .ok (.getfield 58, 3) := by decide +kernel
theorem dX9_askOf_182 : decode cX9_askOf 182 = .ok (.bipush 9, 2) := by decide +kernel
theorem dX9_askOf_184 : decode cX9_askOf 184 = .ok (.iload 5, 2) := by decide +kernel
theorem dX9_askOf_186 : decode cX9_askOf 186 = .ok (.imul, 1) := by decide +kernel
theorem dX9_askOf_187 : decode cX9_askOf 187 = .ok (.iload 7, 2) := by decide +kernel
theorem dX9_askOf_189 : decode cX9_askOf 189 = .ok (.iadd, 1) := by decide +kernel
theorem dX9_askOf_190 : decode cX9_askOf 190 = .ok (.iaload, 1) := by decide +kernel
theorem dX9_askOf_191 : decode cX9_askOf 191 = .ok (.goto 5, 3) := by decide +kernel
theorem dX9_askOf_194 : decode cX9_askOf 194 = .ok (.iload 6, 2) := by decide +kernel
theorem dX9_askOf_196 : decode cX9_askOf 196 = .ok (.istore 6, 2) := by decide +kernel
theorem dX9_askOf_198 : decode cX9_askOf 198 = .ok (.iinc 7 1, 3) := by decide +kernel
theorem dX9_askOf_201 : decode cX9_askOf 201 = .ok (.goto (-48), 3) := by decide +kernel
theorem dX9_askOf_204 : decode cX9_askOf 204 = .ok (.iload 4, 2) := by decide +kernel
theorem dX9_askOf_206 : decode cX9_askOf 206 = .ok (.iconst (-1), 1) := by decide +kernel
theorem dX9_askOf_207 : decode cX9_askOf 207 = .ok (.if_icmp .eq 10, 3) := by decide +kernel
theorem dX9_askOf_210 : decode cX9_askOf 210 = .ok (.iload 6, 2) := by decide +kernel
theorem dX9_askOf_212 : decode cX9_askOf 212 = .ok (.iload 4, 2) := by decide +kernel
theorem dX9_askOf_214 : decode cX9_askOf 214 = .ok (.if_icmp .ge 7, 3) := by decide +kernel
theorem dX9_askOf_217 : decode cX9_askOf 217 = .ok (.iconst 1, 1) := by decide +kernel
theorem dX9_askOf_218 : decode cX9_askOf 218 = .ok (.goto 4, 3) := by decide +kernel
theorem dX9_askOf_221 : decode cX9_askOf 221 = .ok (.iconst 0, 1) := by decide +kernel
theorem dX9_askOf_222 : decode cX9_askOf 222 = .ok (.istore 7, 2) := by decide +kernel
theorem dX9_askOf_224 : decode cX9_askOf 224 = .ok (.iload 7, 2) := by decide +kernel
theorem dX9_askOf_226 : decode cX9_askOf 226 = .ok (.ifCond .eq 8, 3) := by decide +kernel
theorem dX9_askOf_229 : decode cX9_askOf 229 = .ok (.iload 5, 2) := by decide +kernel
theorem dX9_askOf_231 : decode cX9_askOf 231 = .ok (.goto 4, 3) := by decide +kernel
theorem dX9_askOf_234 : decode cX9_askOf 234 = .ok (.iload_n 3, 1) := by decide +kernel
theorem dX9_askOf_235 : decode cX9_askOf 235 = .ok (.istore_n 3, 1) := by decide +kernel
theorem dX9_askOf_236 : decode cX9_askOf 236 = .ok (.iload 7, 2) := by decide +kernel
theorem dX9_askOf_238 : decode cX9_askOf 238 = .ok (.ifCond .eq 8, 3) := by decide +kernel
theorem dX9_askOf_241 : decode cX9_askOf 241 = .ok (.iload 6, 2) := by decide +kernel
theorem dX9_askOf_243 : decode cX9_askOf 243 = .ok (.goto 5, 3) := by decide +kernel
theorem dX9_askOf_246 : decode cX9_askOf 246 = .ok (.iload 4, 2) := by decide +kernel
theorem dX9_askOf_248 : decode cX9_askOf 248 = .ok (.istore 4, 2) := by decide +kernel
theorem dX9_askOf_250 : decode cX9_askOf 250 = .ok (.iinc 5 1, 3) := by decide +kernel
theorem dX9_askOf_253 : decode cX9_askOf 253 = .ok (.goto (-113), 3) := by decide +kernel
theorem dX9_askOf_256 : decode cX9_askOf 256 = .ok (.iload_n 3, 1) := by decide +kernel
theorem dX9_askOf_257 : decode cX9_askOf 257 = .ok (.ireturn, 1) := by decide +kernel
theorem dX9_ask_0 : decode cX9_ask 0 = .ok (.aload_n 0, 1) := by decide +kernel
theorem dX9_ask_1 : decode cX9_ask 1 = .ok (.invokevirtual 198, 3) := by decide +kernel
theorem dX9_ask_4 : decode cX9_ask 4 = .ok (.aload_n 0, 1) := by decide +kernel
theorem dX9_ask_5 : decode cX9_ask 5 = .ok (.iload_n 1, 1) := by decide +kernel
theorem dX9_ask_6 : decode cX9_ask 6 = .ok (.invokevirtual 135, 3) := by decide +kernel
theorem dX9_ask_9 : decode cX9_ask 9 = .ok (.ifCond .eq 11, 3) := by decide +kernel
theorem dX9_ask_12 : decode cX9_ask 12 = .ok (.aload_n 0, 1) := by decide +kernel
theorem dX9_ask_13 : decode cX9_ask 13 = .ok (.iload_n 1, 1) := by decide +kernel
theorem dX9_ask_14 : decode cX9_ask 14 = .ok (.invokevirtual 236, 3) := by decide +kernel
theorem dX9_ask_17 : decode cX9_ask 17 = .ok (.goto 5, 3) := by decide +kernel
theorem dX9_ask_20 : decode cX9_ask 20 = .ok (.bipush (-2), 2) := by decide +kernel
theorem dX9_ask_22 : decode cX9_ask 22 = .ok (.ireturn, 1) := by decide +kernel
theorem dX9_slipsOf_0 : decode cX9_slipsOf 0 = .ok (.lconst 0, 1) := by decide +kernel
theorem dX9_slipsOf_1 : decode cX9_slipsOf 1 = .ok (.lstore 6, 2) := by decide +kernel
theorem dX9_slipsOf_3 : decode cX9_slipsOf 3 = .ok (.lconst 1, 1) := by decide +kernel
theorem dX9_slipsOf_4 : decode cX9_slipsOf 4 = .ok (.lstore 8, 2) := by decide +kernel
theorem dX9_slipsOf_6 : decode cX9_slipsOf 6 = .ok (.iconst 0, 1) := by decide +kernel
theorem dX9_slipsOf_7 : decode cX9_slipsOf 7 = .ok (.istore 10, 2) := by decide +kernel
theorem dX9_slipsOf_9 : decode cX9_slipsOf 9 = .ok (.iload 10, 2) := by decide +kernel
theorem dX9_slipsOf_11 : decode cX9_slipsOf 11 = .ok (.iload 4, 2) := by decide +kernel
theorem dX9_slipsOf_13 : decode cX9_slipsOf 13 = .ok (.if_icmp .ge 17, 3) := by decide +kernel
theorem dX9_slipsOf_16 : decode cX9_slipsOf 16 = .ok (.lload 8, 2) := by decide +kernel
theorem dX9_slipsOf_18 : decode cX9_slipsOf 18 = .ok (.ldc2_w 239, 3) := by decide +kernel
theorem dX9_slipsOf_21 : decode cX9_slipsOf 21 = .ok (.lmul, 1) := by decide +kernel
theorem dX9_slipsOf_22 : decode cX9_slipsOf 22 = .ok (.lstore 8, 2) := by decide +kernel
theorem dX9_slipsOf_24 : decode cX9_slipsOf 24 = .ok (.iinc 10 1, 3) := by decide +kernel
theorem dX9_slipsOf_27 : decode cX9_slipsOf 27 = .ok (.goto (-18), 3) := by decide +kernel
theorem dX9_slipsOf_30 : decode cX9_slipsOf 30 = .ok (.iconst 0, 1) := by decide +kernel
theorem dX9_slipsOf_31 : decode cX9_slipsOf 31 = .ok (.istore 10, 2) := by decide +kernel
theorem dX9_slipsOf_33 : decode cX9_slipsOf 33 = .ok (.iload 10, 2) := by decide +kernel
theorem dX9_slipsOf_35 : decode cX9_slipsOf 35 = .ok (.iconst 1, 1) := by decide +kernel
theorem dX9_slipsOf_36 : decode cX9_slipsOf 36 = .ok (.iload 4, 2) := by decide +kernel
theorem dX9_slipsOf_38 : decode cX9_slipsOf 38 = .ok (.ishl, 1) := by decide +kernel
theorem dX9_slipsOf_39 : decode cX9_slipsOf 39 = .ok (.if_icmp .ge 121, 3) := by decide +kernel
theorem dX9_slipsOf_42 : decode cX9_slipsOf 42 = .ok (.lconst 1, 1) := by decide +kernel
theorem dX9_slipsOf_43 : decode cX9_slipsOf 43 = .ok (.lstore 11, 2) := by decide +kernel
theorem dX9_slipsOf_45 : decode cX9_slipsOf 45 = .ok (.iconst 1, 1) := by decide +kernel
theorem dX9_slipsOf_46 : decode cX9_slipsOf 46 = .ok (.istore 13, 2) := by decide +kernel
theorem dX9_slipsOf_48 : decode cX9_slipsOf 48 = .ok (.iload 13, 2) := by decide +kernel
theorem dX9_slipsOf_50 : decode cX9_slipsOf 50 = .ok (.iload 4, 2) := by decide +kernel
theorem dX9_slipsOf_52 : decode cX9_slipsOf 52 = .ok (.if_icmp .gt 73, 3) := by decide +kernel
theorem dX9_slipsOf_55 : decode cX9_slipsOf 55 = .ok (.iload 10, 2) := by decide +kernel
theorem dX9_slipsOf_57 : decode cX9_slipsOf 57 = .ok (.iload 13, 2) := by decide +kernel
theorem dX9_slipsOf_59 : decode cX9_slipsOf 59 = .ok (.iconst 1, 1) := by decide +kernel
theorem dX9_slipsOf_60 : decode cX9_slipsOf 60 = .ok (.isub, 1) := by decide +kernel
theorem dX9_slipsOf_61 : decode cX9_slipsOf 61 = .ok (.invokestatic 174, 3) := by decide +kernel
theorem dX9_slipsOf_64 : decode cX9_slipsOf 64 = .ok (.istore 14, 2) := by decide +kernel
theorem dX9_slipsOf_66 : decode cX9_slipsOf 66 = .ok (.lload 11, 2) := by decide +kernel
theorem dX9_slipsOf_68 : decode cX9_slipsOf 68 = .ok (.iload 14, 2) := by decide +kernel
theorem dX9_slipsOf_70 : decode cX9_slipsOf 70 = .ok (.ifCond .eq 8, 3) := by decide +kernel
theorem dX9_slipsOf_73 : decode cX9_slipsOf 73 = .ok (.iload_n 1, 1) := by decide +kernel
theorem dX9_slipsOf_74 : decode cX9_slipsOf 74 = .ok (.i2l, 1) := by decide +kernel
theorem dX9_slipsOf_75 : decode cX9_slipsOf 75 = .ok (.goto 8, 3) := by decide +kernel
theorem dX9_slipsOf_78 : decode cX9_slipsOf 78 = .ok (.bipush 16, 2) := by decide +kernel
theorem dX9_slipsOf_80 : decode cX9_slipsOf 80 = .ok (.iload_n 1, 1) := by decide +kernel
theorem dX9_slipsOf_81 : decode cX9_slipsOf 81 = .ok (.isub, 1) := by decide +kernel
theorem dX9_slipsOf_82 : decode cX9_slipsOf 82 = .ok (.i2l, 1) := by decide +kernel
theorem dX9_slipsOf_83 : decode cX9_slipsOf 83 = .ok (.lmul, 1) := by decide +kernel
theorem dX9_slipsOf_84 : decode cX9_slipsOf 84 = .ok (.lstore 11, 2) := by decide +kernel
theorem dX9_slipsOf_86 : decode cX9_slipsOf 86 = .ok (.aload_n 0, 1) := by decide +kernel
theorem dX9_slipsOf_87 : decode cX9_slipsOf 87 = .ok (.getfield 43, 3) := by decide +kernel
theorem dX9_slipsOf_90 : decode cX9_slipsOf 90 = .ok (.iload 13, 2) := by decide +kernel
theorem dX9_slipsOf_92 : decode cX9_slipsOf 92 = .ok (.aload_n 0, 1) := by decide +kernel
theorem dX9_slipsOf_93 : decode cX9_slipsOf 93 = .ok (.getfield 43, 3) := by decide +kernel
theorem dX9_slipsOf_96 : decode cX9_slipsOf 96 = .ok (.iload 13, 2) := by decide +kernel
theorem dX9_slipsOf_98 : decode cX9_slipsOf 98 = .ok (.iaload, 1) := by decide +kernel
theorem dX9_slipsOf_99 : decode cX9_slipsOf 99 = .ok (.iconst 1, 1) := by decide +kernel
theorem dX9_slipsOf_100 : decode cX9_slipsOf 100 = .ok (.iload_n 2, 1) := by decide +kernel
theorem dX9_slipsOf_101 : decode cX9_slipsOf 101 = .ok (.ishl, 1) := by decide +kernel
theorem dX9_slipsOf_102 : decode cX9_slipsOf 102 = .ok (.iconst (-1), 1) := by decide +kernel
theorem dX9_slipsOf_103 : decode cX9_slipsOf 103 = .ok (.ixor, 1) := by decide +kernel
theorem dX9_slipsOf_104 : decode cX9_slipsOf 104 = .ok (.iand, 1) := by decide +kernel
theorem dX9_slipsOf_105 : decode cX9_slipsOf 105 = .ok (.iload 14, 2) := by decide +kernel
theorem dX9_slipsOf_107 : decode cX9_slipsOf 107 = .ok (.ifCond .eq 9, 3) := by decide +kernel
theorem dX9_slipsOf_110 : decode cX9_slipsOf 110 = .ok (.iconst 1, 1) := by decide +kernel
theorem dX9_slipsOf_111 : decode cX9_slipsOf 111 = .ok (.iload_n 2, 1) := by decide +kernel
theorem dX9_slipsOf_112 : decode cX9_slipsOf 112 = .ok (.ishl, 1) := by decide +kernel
theorem dX9_slipsOf_113 : decode cX9_slipsOf 113 = .ok (.goto 4, 3) := by decide +kernel
theorem dX9_slipsOf_116 : decode cX9_slipsOf 116 = .ok (.iconst 0, 1) := by decide +kernel
theorem dX9_slipsOf_117 : decode cX9_slipsOf 117 = .ok (.ior, 1) := by decide +kernel
theorem dX9_slipsOf_118 : decode cX9_slipsOf 118 = .ok (.iastore, 1) := by decide +kernel
theorem dX9_slipsOf_119 : decode cX9_slipsOf 119 = .ok (.iinc 13 1, 3) := by decide +kernel
theorem dX9_slipsOf_122 : decode cX9_slipsOf 122 = .ok (.goto (-74), 3) := by decide +kernel
theorem dX9_slipsOf_125 : decode cX9_slipsOf 125 = .ok (.aload_n 0, 1) := by decide +kernel
theorem dX9_slipsOf_126 : decode cX9_slipsOf 126 = .ok (.iconst 0, 1) := by decide +kernel
theorem dX9_slipsOf_127 : decode cX9_slipsOf 127 = .ok (.iload 4, 2) := by decide +kernel
theorem dX9_slipsOf_129 : decode cX9_slipsOf 129 = .ok (.invokevirtual 191, 3) := by decide +kernel
theorem dX9_slipsOf_132 : decode cX9_slipsOf 132 = .ok (.lload 6, 2) := by decide +kernel
theorem dX9_slipsOf_134 : decode cX9_slipsOf 134 = .ok (.aload_n 0, 1) := by decide +kernel
theorem dX9_slipsOf_135 : decode cX9_slipsOf 135 = .ok (.getfield 49, 3) := by decide +kernel
theorem dX9_slipsOf_138 : decode cX9_slipsOf 138 = .ok (.iload 4, 2) := by decide +kernel
theorem dX9_slipsOf_140 : decode cX9_slipsOf 140 = .ok (.iaload, 1) := by decide +kernel
theorem dX9_slipsOf_141 : decode cX9_slipsOf 141 = .ok (.iload_n 3, 1) := by decide +kernel
theorem dX9_slipsOf_142 : decode cX9_slipsOf 142 = .ok (.if_icmp .ne 8, 3) := by decide +kernel
theorem dX9_slipsOf_145 : decode cX9_slipsOf 145 = .ok (.lload 11, 2) := by decide +kernel
theorem dX9_slipsOf_147 : decode cX9_slipsOf 147 = .ok (.goto 4, 3) := by decide +kernel
theorem dX9_slipsOf_150 : decode cX9_slipsOf 150 = .ok (.lconst 0, 1) := by decide +kernel
theorem dX9_slipsOf_151 : decode cX9_slipsOf 151 = .ok (.ladd, 1) := by decide +kernel
theorem dX9_slipsOf_152 : decode cX9_slipsOf 152 = .ok (.lstore 6, 2) := by decide +kernel
theorem dX9_slipsOf_154 : decode cX9_slipsOf 154 = .ok (.iinc 10 1, 3) := by decide +kernel
theorem dX9_slipsOf_157 : decode cX9_slipsOf 157 = .ok (.goto (-124), 3) := by decide +kernel
theorem dX9_slipsOf_160 : decode cX9_slipsOf 160 = .ok (.aload_n 0, 1) := by decide +kernel
theorem dX9_slipsOf_161 : decode cX9_slipsOf 161 = .ok (.invokevirtual 198, 3) := by decide +kernel
theorem dX9_slipsOf_164 : decode cX9_slipsOf 164 = .ok (.lload 6, 2) := by decide +kernel
theorem dX9_slipsOf_166 : decode cX9_slipsOf 166 = .ok (.lload 8, 2) := by decide +kernel
theorem dX9_slipsOf_168 : decode cX9_slipsOf 168 = .ok (.iload 5, 2) := by decide +kernel
theorem dX9_slipsOf_170 : decode cX9_slipsOf 170 = .ok (.invokestatic 241, 3) := by decide +kernel
theorem dX9_slipsOf_173 : decode cX9_slipsOf 173 = .ok (.lreturn, 1) := by decide +kernel
theorem dX9_slips_0 : decode cX9_slips 0 = .ok (.aload_n 0, 1) := by decide +kernel
theorem dX9_slips_1 : decode cX9_slips 1 = .ok (.invokevirtual 198, 3) := by decide +kernel
theorem dX9_slips_4 : decode cX9_slips 4 = .ok (.iload_n 1, 1) := by decide +kernel
theorem dX9_slips_5 : decode cX9_slips 5 = .ok (.i2l, 1) := by decide +kernel
theorem dX9_slips_6 : decode cX9_slips 6 = .ok (.lconst 0, 1) := by decide +kernel
theorem dX9_slips_7 : decode cX9_slips 7 = .ok (.ldc2_w 239, 3) := by decide +kernel
theorem dX9_slips_10 : decode cX9_slips 10 = .ok (.invokestatic 70, 3) := by decide +kernel
theorem dX9_slips_13 : decode cX9_slips 13 = .ok (.ifCond .eq 43, 3) := by decide +kernel
theorem dX9_slips_16 : decode cX9_slips 16 = .ok (.aload_n 0, 1) := by decide +kernel
theorem dX9_slips_17 : decode cX9_slips 17 = .ok (.iload_n 2, 1) := by decide +kernel
theorem dX9_slips_18 : decode cX9_slips 18 = .ok (.invokevirtual 135, 3) := by decide +kernel
theorem dX9_slips_21 : decode cX9_slips 21 = .ok (.ifCond .eq 35, 3) := by decide +kernel
theorem dX9_slips_24 : decode cX9_slips 24 = .ok (.iload_n 3, 1) := by decide +kernel
theorem dX9_slips_25 : decode cX9_slips 25 = .ok (.invokestatic 138, 3) := by decide +kernel
theorem dX9_slips_28 : decode cX9_slips 28 = .ok (.ifCond .eq 28, 3) := by decide +kernel
theorem dX9_slips_31 : decode cX9_slips 31 = .ok (.iload 4, 2) := by decide +kernel
theorem dX9_slips_33 : decode cX9_slips 33 = .ok (.i2l, 1) := by decide +kernel
theorem dX9_slips_34 : decode cX9_slips 34 = .ok (.lconst 1, 1) := by decide +kernel
theorem dX9_slips_35 : decode cX9_slips 35 = .ok (.ldc2_w 147, 3) := by decide +kernel
theorem dX9_slips_38 : decode cX9_slips 38 = .ok (.invokestatic 70, 3) := by decide +kernel
theorem dX9_slips_41 : decode cX9_slips 41 = .ok (.ifCond .eq 15, 3) := by decide +kernel
theorem dX9_slips_44 : decode cX9_slips 44 = .ok (.iload 5, 2) := by decide +kernel
theorem dX9_slips_46 : decode cX9_slips 46 = .ok (.invokestatic 98, 3) := by decide +kernel
theorem dX9_slips_49 : decode cX9_slips 49 = .ok (.ifCond .eq 7, 3) := by decide +kernel
theorem dX9_slips_52 : decode cX9_slips 52 = .ok (.iconst 1, 1) := by decide +kernel
theorem dX9_slips_53 : decode cX9_slips 53 = .ok (.goto 4, 3) := by decide +kernel
theorem dX9_slips_56 : decode cX9_slips 56 = .ok (.iconst 0, 1) := by decide +kernel
theorem dX9_slips_57 : decode cX9_slips 57 = .ok (.istore 6, 2) := by decide +kernel
theorem dX9_slips_59 : decode cX9_slips 59 = .ok (.iload 6, 2) := by decide +kernel
theorem dX9_slips_61 : decode cX9_slips 61 = .ok (.ifCond .eq 17, 3) := by decide +kernel
theorem dX9_slips_64 : decode cX9_slips 64 = .ok (.aload_n 0, 1) := by decide +kernel
theorem dX9_slips_65 : decode cX9_slips 65 = .ok (.iload_n 1, 1) := by decide +kernel
theorem dX9_slips_66 : decode cX9_slips 66 = .ok (.iload_n 2, 1) := by decide +kernel
theorem dX9_slips_67 : decode cX9_slips 67 = .ok (.iload_n 3, 1) := by decide +kernel
theorem dX9_slips_68 : decode cX9_slips 68 = .ok (.iload 4, 2) := by decide +kernel
theorem dX9_slips_70 : decode cX9_slips 70 = .ok (.iload 5, 2) := by decide +kernel
theorem dX9_slips_72 : decode cX9_slips 72 = .ok (.invokevirtual 245, 3) := by decide +kernel
theorem dX9_slips_75 : decode cX9_slips 75 = .ok (.goto 8, 3) := by decide +kernel
theorem dX9_slips_78 : decode cX9_slips 78 = .ok (.bipush (-2), 2) := by decide +kernel
theorem dX9_slips_80 : decode cX9_slips 80 = .ok (.invokestatic 249, 3) := by decide +kernel
theorem dX9_slips_83 : decode cX9_slips 83 = .ok (.lreturn, 1) := by decide +kernel
theorem dX9_lot_0 : decode cX9_lot 0 = .ok (.aload_n 0, 1) := by decide +kernel
theorem dX9_lot_1 : decode cX9_lot 1 = .ok (.ldc 253, 2) := by decide +kernel
theorem dX9_lot_3 : decode cX9_lot 3 = .ok (.aload_n 0, 1) := by decide +kernel
theorem dX9_lot_4 : decode cX9_lot 4 = .ok (.getfield 254, 3) := by decide +kernel
theorem dX9_lot_7 : decode cX9_lot 7 = .ok (.imul, 1) := by decide +kernel
theorem dX9_lot_8 : decode cX9_lot 8 = .ok (.sipush 12345, 3) := by decide +kernel
theorem dX9_lot_11 : decode cX9_lot 11 = .ok (.iadd, 1) := by decide +kernel
theorem dX9_lot_12 : decode cX9_lot 12 = .ok (.putfield 254, 3) := by decide +kernel
theorem dX9_lot_15 : decode cX9_lot 15 = .ok (.aload_n 0, 1) := by decide +kernel
theorem dX9_lot_16 : decode cX9_lot 16 = .ok (.getfield 254, 3) := by decide +kernel
theorem dX9_lot_19 : decode cX9_lot 19 = .ok (.bipush 16, 2) := by decide +kernel
theorem dX9_lot_21 : decode cX9_lot 21 = .ok (.iushr, 1) := by decide +kernel
theorem dX9_lot_22 : decode cX9_lot 22 = .ok (.iload_n 1, 1) := by decide +kernel
theorem dX9_lot_23 : decode cX9_lot 23 = .ok (.irem, 1) := by decide +kernel
theorem dX9_lot_24 : decode cX9_lot 24 = .ok (.ireturn, 1) := by decide +kernel
theorem dX9_eveningOf_0 : decode cX9_eveningOf 0 = .ok (.aload_n 0, 1) := by decide +kernel
theorem dX9_eveningOf_1 : decode cX9_eveningOf 1 = .ok (.iload_n 1, 1) := by decide +kernel
theorem dX9_eveningOf_2 : decode cX9_eveningOf 2 = .ok (.putfield 254, 3) := by decide +kernel
theorem dX9_eveningOf_5 : decode cX9_eveningOf 5 = .ok (.iconst 1, 1) := by decide +kernel
theorem dX9_eveningOf_6 : decode cX9_eveningOf 6 = .ok (.istore 4, 2) := by decide +kernel
theorem dX9_eveningOf_8 : decode cX9_eveningOf 8 = .ok (.iload 4, 2) := by decide +kernel
theorem dX9_eveningOf_10 : decode cX9_eveningOf 10 = .ok (.iload_n 2, 1) := by decide +kernel
theorem dX9_eveningOf_11 : decode cX9_eveningOf 11 = .ok (.if_icmp .gt 52, 3) := by decide +kernel
theorem dX9_eveningOf_14 : decode cX9_eveningOf 14 = .ok (.aload_n 0, 1) := by decide +kernel
theorem dX9_eveningOf_15 : decode cX9_eveningOf 15 = .ok (.getfield 113, 3) := by decide +kernel
theorem dX9_eveningOf_18 : decode cX9_eveningOf 18 = .ok (.ifCond .le 45, 3) := by decide +kernel
theorem dX9_eveningOf_21 : decode cX9_eveningOf 21 = .ok (.aload_n 0, 1) := by decide +kernel
theorem dX9_eveningOf_22 : decode cX9_eveningOf 22 = .ok (.aload_n 0, 1) := by decide +kernel
theorem dX9_eveningOf_23 : decode cX9_eveningOf 23 = .ok (.getfield 113, 3) := by decide +kernel
theorem dX9_eveningOf_26 : decode cX9_eveningOf 26 = .ok (.invokevirtual 257, 3) := by decide +kernel
theorem dX9_eveningOf_29 : decode cX9_eveningOf 29 = .ok (.istore 5, 2) := by decide +kernel
theorem dX9_eveningOf_31 : decode cX9_eveningOf 31 = .ok (.aload_n 0, 1) := by decide +kernel
theorem dX9_eveningOf_32 : decode cX9_eveningOf 32 = .ok (.getfield 43, 3) := by decide +kernel
theorem dX9_eveningOf_35 : decode cX9_eveningOf 35 = .ok (.iload 4, 2) := by decide +kernel
theorem dX9_eveningOf_37 : decode cX9_eveningOf 37 = .ok (.dup2, 1) := by decide +kernel
theorem dX9_eveningOf_38 : decode cX9_eveningOf 38 = .ok (.iaload, 1) := by decide +kernel
theorem dX9_eveningOf_39 : decode cX9_eveningOf 39 = .ok (.aload_n 0, 1) := by decide +kernel
theorem dX9_eveningOf_40 : decode cX9_eveningOf 40 = .ok (.iconst 4, 1) := by decide +kernel
theorem dX9_eveningOf_41 : decode cX9_eveningOf 41 = .ok (.invokevirtual 257, 3) := by decide +kernel
theorem dX9_eveningOf_44 : decode cX9_eveningOf 44 = .ok (.ifCond .ne 10, 3) := by decide +kernel
theorem dX9_eveningOf_47 : decode cX9_eveningOf 47 = .ok (.iconst 1, 1) := by decide +kernel
theorem dX9_eveningOf_48 : decode cX9_eveningOf 48 = .ok (.iload 5, 2) := by decide +kernel
theorem dX9_eveningOf_50 : decode cX9_eveningOf 50 = .ok (.ishl, 1) := by decide +kernel
theorem dX9_eveningOf_51 : decode cX9_eveningOf 51 = .ok (.goto 4, 3) := by decide +kernel
theorem dX9_eveningOf_54 : decode cX9_eveningOf 54 = .ok (.iconst 0, 1) := by decide +kernel
theorem dX9_eveningOf_55 : decode cX9_eveningOf 55 = .ok (.ior, 1) := by decide +kernel
theorem dX9_eveningOf_56 : decode cX9_eveningOf 56 = .ok (.iastore, 1) := by decide +kernel
theorem dX9_eveningOf_57 : decode cX9_eveningOf 57 = .ok (.iinc 4 1, 3) := by decide +kernel
theorem dX9_eveningOf_60 : decode cX9_eveningOf 60 = .ok (.goto (-52), 3) := by decide +kernel
theorem dX9_eveningOf_63 : decode cX9_eveningOf 63 = .ok (.aload_n 0, 1) := by decide +kernel
theorem dX9_eveningOf_64 : decode cX9_eveningOf 64 = .ok (.iconst 0, 1) := by decide +kernel
theorem dX9_eveningOf_65 : decode cX9_eveningOf 65 = .ok (.iload_n 2, 1) := by decide +kernel
theorem dX9_eveningOf_66 : decode cX9_eveningOf 66 = .ok (.invokevirtual 191, 3) := by decide +kernel
theorem dX9_eveningOf_69 : decode cX9_eveningOf 69 = .ok (.iload_n 3, 1) := by decide +kernel
theorem dX9_eveningOf_70 : decode cX9_eveningOf 70 = .ok (.ifCond .ne 12, 3) := by decide +kernel
theorem dX9_eveningOf_73 : decode cX9_eveningOf 73 = .ok (.aload_n 0, 1) := by decide +kernel
theorem dX9_eveningOf_74 : decode cX9_eveningOf 74 = .ok (.getfield 49, 3) := by decide +kernel
theorem dX9_eveningOf_77 : decode cX9_eveningOf 77 = .ok (.iload_n 2, 1) := by decide +kernel
theorem dX9_eveningOf_78 : decode cX9_eveningOf 78 = .ok (.iaload, 1) := by decide +kernel
theorem dX9_eveningOf_79 : decode cX9_eveningOf 79 = .ok (.goto 8, 3) := by decide +kernel
theorem dX9_eveningOf_82 : decode cX9_eveningOf 82 = .ok (.aload_n 0, 1) := by decide +kernel
theorem dX9_eveningOf_83 : decode cX9_eveningOf 83 = .ok (.iload_n 2, 1) := by decide +kernel
theorem dX9_eveningOf_84 : decode cX9_eveningOf 84 = .ok (.invokevirtual 204, 3) := by decide +kernel
theorem dX9_eveningOf_87 : decode cX9_eveningOf 87 = .ok (.istore 4, 2) := by decide +kernel
theorem dX9_eveningOf_89 : decode cX9_eveningOf 89 = .ok (.aload_n 0, 1) := by decide +kernel
theorem dX9_eveningOf_90 : decode cX9_eveningOf 90 = .ok (.invokevirtual 198, 3) := by decide +kernel
theorem dX9_eveningOf_93 : decode cX9_eveningOf 93 = .ok (.iload 4, 2) := by decide +kernel
theorem dX9_eveningOf_95 : decode cX9_eveningOf 95 = .ok (.ireturn, 1) := by decide +kernel
theorem dX9_evening_0 : decode cX9_evening 0 = .ok (.aload_n 0, 1) := by decide +kernel
theorem dX9_evening_1 : decode cX9_evening 1 = .ok (.invokevirtual 198, 3) := by decide +kernel
theorem dX9_evening_4 : decode cX9_evening 4 = .ok (.iload_n 2, 1) := by decide +kernel
theorem dX9_evening_5 : decode cX9_evening 5 = .ok (.invokestatic 144, 3) := by decide +kernel
theorem dX9_evening_8 : decode cX9_evening 8 = .ok (.ifCond .eq 20, 3) := by decide +kernel
theorem dX9_evening_11 : decode cX9_evening 11 = .ok (.iload_n 3, 1) := by decide +kernel
theorem dX9_evening_12 : decode cX9_evening 12 = .ok (.invokestatic 98, 3) := by decide +kernel
theorem dX9_evening_15 : decode cX9_evening 15 = .ok (.ifCond .eq 13, 3) := by decide +kernel
theorem dX9_evening_18 : decode cX9_evening 18 = .ok (.aload_n 0, 1) := by decide +kernel
theorem dX9_evening_19 : decode cX9_evening 19 = .ok (.iload_n 1, 1) := by decide +kernel
theorem dX9_evening_20 : decode cX9_evening 20 = .ok (.iload_n 2, 1) := by decide +kernel
theorem dX9_evening_21 : decode cX9_evening 21 = .ok (.iload_n 3, 1) := by decide +kernel
theorem dX9_evening_22 : decode cX9_evening 22 = .ok (.invokevirtual 260, 3) := by decide +kernel
theorem dX9_evening_25 : decode cX9_evening 25 = .ok (.goto 5, 3) := by decide +kernel
theorem dX9_evening_28 : decode cX9_evening 28 = .ok (.bipush (-2), 2) := by decide +kernel
theorem dX9_evening_30 : decode cX9_evening 30 = .ok (.ireturn, 1) := by decide +kernel
theorem dX9_write_0 : decode cX9_write 0 = .ok (.iload_n 1, 1) := by decide +kernel
theorem dX9_write_1 : decode cX9_write 1 = .ok (.invokestatic 98, 3) := by decide +kernel
theorem dX9_write_4 : decode cX9_write 4 = .ok (.ifCond .eq 10, 3) := by decide +kernel
theorem dX9_write_7 : decode cX9_write 7 = .ok (.iload_n 2, 1) := by decide +kernel
theorem dX9_write_8 : decode cX9_write 8 = .ok (.invokestatic 79, 3) := by decide +kernel
theorem dX9_write_11 : decode cX9_write 11 = .ok (.ifCond .ne 6, 3) := by decide +kernel
theorem dX9_write_14 : decode cX9_write 14 = .ok (.bipush (-2), 2) := by decide +kernel
theorem dX9_write_16 : decode cX9_write 16 = .ok (.ireturn, 1) := by decide +kernel
theorem dX9_write_17 : decode cX9_write 17 = .ok (.aload_n 0, 1) := by decide +kernel
theorem dX9_write_18 : decode cX9_write 18 = .ok (.getfield 7, 3) := by decide +kernel
theorem dX9_write_21 : decode cX9_write 21 = .ok (.iload_n 2, 1) := by decide +kernel
theorem dX9_write_22 : decode cX9_write 22 = .ok (.iaload, 1) := by decide +kernel
theorem dX9_write_23 : decode cX9_write 23 = .ok (.ifCond .ge 9, 3) := by decide +kernel
theorem dX9_write_26 : decode cX9_write 26 = .ok (.aload_n 0, 1) := by decide +kernel
theorem dX9_write_27 : decode cX9_write 27 = .ok (.iconst 1, 1) := by decide +kernel
theorem dX9_write_28 : decode cX9_write 28 = .ok (.invokevirtual 85, 3) := by decide +kernel
theorem dX9_write_31 : decode cX9_write 31 = .ok (.ireturn, 1) := by decide +kernel
theorem dX9_write_32 : decode cX9_write 32 = .ok (.aload_n 0, 1) := by decide +kernel
theorem dX9_write_33 : decode cX9_write 33 = .ok (.invokevirtual 198, 3) := by decide +kernel
theorem dX9_write_36 : decode cX9_write 36 = .ok (.aload_n 0, 1) := by decide +kernel
theorem dX9_write_37 : decode cX9_write 37 = .ok (.getfield 13, 3) := by decide +kernel
theorem dX9_write_40 : decode cX9_write 40 = .ok (.iload_n 2, 1) := by decide +kernel
theorem dX9_write_41 : decode cX9_write 41 = .ok (.iaload, 1) := by decide +kernel
theorem dX9_write_42 : decode cX9_write 42 = .ok (.bipush 40, 2) := by decide +kernel
theorem dX9_write_44 : decode cX9_write 44 = .ok (.invokestatic 263, 3) := by decide +kernel
theorem dX9_write_47 : decode cX9_write 47 = .ok (.istore_n 3, 1) := by decide +kernel
theorem dX9_write_48 : decode cX9_write 48 = .ok (.iconst 0, 1) := by decide +kernel
theorem dX9_write_49 : decode cX9_write 49 = .ok (.istore 4, 2) := by decide +kernel
theorem dX9_write_51 : decode cX9_write 51 = .ok (.iload 4, 2) := by decide +kernel
theorem dX9_write_53 : decode cX9_write 53 = .ok (.iload_n 3, 1) := by decide +kernel
theorem dX9_write_54 : decode cX9_write 54 = .ok (.if_icmp .ge 37, 3) := by decide +kernel
theorem dX9_write_57 : decode cX9_write 57 = .ok (.aload_n 0, 1) := by decide +kernel
theorem dX9_write_58 : decode cX9_write 58 = .ok (.getfield 16, 3) := by decide +kernel
theorem dX9_write_61 : decode cX9_write 61 = .ok (.bipush 60, 2) := by decide +kernel
theorem dX9_write_63 : decode cX9_write 63 = .ok (.iload_n 2, 1) := by decide +kernel
theorem dX9_write_64 : decode cX9_write 64 = .ok (.imul, 1) := by decide +kernel
theorem dX9_write_65 : decode cX9_write 65 = .ok (.iload 4, 2) := by decide +kernel
theorem dX9_write_67 : decode cX9_write 67 = .ok (.iadd, 1) := by decide +kernel
theorem dX9_write_68 : decode cX9_write 68 = .ok (.aload_n 0, 1) := by decide +kernel
theorem dX9_write_69 : decode cX9_write 69 = .ok (.getfield 7, 3) := by decide +kernel
theorem dX9_write_72 : decode cX9_write 72 = .ok (.iload_n 2, 1) := by decide +kernel
theorem dX9_write_73 : decode cX9_write 73 = .ok (.iaload, 1) := by decide +kernel
theorem dX9_write_74 : decode cX9_write 74 = .ok (.aload_n 0, 1) := by decide +kernel
theorem dX9_write_75 : decode cX9_write 75 = .ok (.iload 4, 2) := by decide +kernel
theorem dX9_write_77 : decode cX9_write 77 = .ok (.iload_n 1, 1) := by decide +kernel
theorem dX9_write_78 : decode cX9_write 78 = .ok (.invokevirtual 201, 3) := by decide +kernel
theorem dX9_write_81 : decode cX9_write 81 = .ok (.invokestatic 93, 3) := by decide +kernel
theorem dX9_write_84 : decode cX9_write 84 = .ok (.iastore, 1) := by decide +kernel
theorem dX9_write_85 : decode cX9_write 85 = .ok (.iinc 4 1, 3) := by decide +kernel
theorem dX9_write_88 : decode cX9_write 88 = .ok (.goto (-37), 3) := by decide +kernel
theorem dX9_write_91 : decode cX9_write 91 = .ok (.iload_n 3, 1) := by decide +kernel
theorem dX9_write_92 : decode cX9_write 92 = .ok (.ireturn, 1) := by decide +kernel
theorem dX9_count_0 : decode cX9_count 0 = .ok (.aload_n 0, 1) := by decide +kernel
theorem dX9_count_1 : decode cX9_count 1 = .ok (.invokevirtual 130, 3) := by decide +kernel
theorem dX9_count_4 : decode cX9_count 4 = .ok (.iload_n 1, 1) := by decide +kernel
theorem dX9_count_5 : decode cX9_count 5 = .ok (.tableswitch 95 0 8 #[51, 56, 61, 61, 70, 75, 80, 85, 90], 51) := by decide +kernel
theorem dX9_count_56 : decode cX9_count 56 = .ok (.aload_n 0, 1) := by decide +kernel
theorem dX9_count_57 : decode cX9_count 57 = .ok (.getfield 103, 3) := by decide +kernel
theorem dX9_count_60 : decode cX9_count 60 = .ok (.ireturn, 1) := by decide +kernel
theorem dX9_count_61 : decode cX9_count 61 = .ok (.aload_n 0, 1) := by decide +kernel
theorem dX9_count_62 : decode cX9_count 62 = .ok (.getfield 113, 3) := by decide +kernel
theorem dX9_count_65 : decode cX9_count 65 = .ok (.ireturn, 1) := by decide +kernel
theorem dX9_count_66 : decode cX9_count 66 = .ok (.aload_n 0, 1) := by decide +kernel
theorem dX9_count_67 : decode cX9_count 67 = .ok (.getfield 25, 3) := by decide +kernel
theorem dX9_count_70 : decode cX9_count 70 = .ok (.iload_n 1, 1) := by decide +kernel
theorem dX9_count_71 : decode cX9_count 71 = .ok (.iconst 2, 1) := by decide +kernel
theorem dX9_count_72 : decode cX9_count 72 = .ok (.isub, 1) := by decide +kernel
theorem dX9_count_73 : decode cX9_count 73 = .ok (.iaload, 1) := by decide +kernel
theorem dX9_count_74 : decode cX9_count 74 = .ok (.ireturn, 1) := by decide +kernel
theorem dX9_count_75 : decode cX9_count 75 = .ok (.aload_n 0, 1) := by decide +kernel
theorem dX9_count_76 : decode cX9_count 76 = .ok (.getfield 149, 3) := by decide +kernel
theorem dX9_count_79 : decode cX9_count 79 = .ok (.ireturn, 1) := by decide +kernel
theorem dX9_count_80 : decode cX9_count 80 = .ok (.aload_n 0, 1) := by decide +kernel
theorem dX9_count_81 : decode cX9_count 81 = .ok (.getfield 154, 3) := by decide +kernel
theorem dX9_count_84 : decode cX9_count 84 = .ok (.ireturn, 1) := by decide +kernel
theorem dX9_count_85 : decode cX9_count 85 = .ok (.aload_n 0, 1) := by decide +kernel
theorem dX9_count_86 : decode cX9_count 86 = .ok (.getfield 157, 3) := by decide +kernel
theorem dX9_count_89 : decode cX9_count 89 = .ok (.ireturn, 1) := by decide +kernel
theorem dX9_count_90 : decode cX9_count 90 = .ok (.aload_n 0, 1) := by decide +kernel
theorem dX9_count_91 : decode cX9_count 91 = .ok (.getfield 223, 3) := by decide +kernel
theorem dX9_count_94 : decode cX9_count 94 = .ok (.ireturn, 1) := by decide +kernel
theorem dX9_count_95 : decode cX9_count 95 = .ok (.aload_n 0, 1) := by decide +kernel
theorem dX9_count_96 : decode cX9_count 96 = .ok (.getfield 74, 3) := by decide +kernel
theorem dX9_count_99 : decode cX9_count 99 = .ok (.ireturn, 1) := by decide +kernel
theorem dX9_count_100 : decode cX9_count 100 = .ok (.bipush (-2), 2) := by decide +kernel
theorem dX9_count_102 : decode cX9_count 102 = .ok (.ireturn, 1) := by decide +kernel
theorem dX9_tellsLine_0 : decode cX9_tellsLine 0 = .ok (.ldc2_w 266, 3) := by decide +kernel
theorem dX9_tellsLine_3 : decode cX9_tellsLine 3 = .ok (.lload_n 1, 1) := by decide +kernel
theorem dX9_tellsLine_4 : decode cX9_tellsLine 4 = .ok (.lmul, 1) := by decide +kernel
theorem dX9_tellsLine_5 : decode cX9_tellsLine 5 = .ok (.aload_n 0, 1) := by decide +kernel
theorem dX9_tellsLine_6 : decode cX9_tellsLine 6 = .ok (.iload_n 3, 1) := by decide +kernel
theorem dX9_tellsLine_7 : decode cX9_tellsLine 7 = .ok (.iconst 1, 1) := by decide +kernel
theorem dX9_tellsLine_8 : decode cX9_tellsLine 8 = .ok (.invokevirtual 141, 3) := by decide +kernel
theorem dX9_tellsLine_11 : decode cX9_tellsLine 11 = .ok (.i2l, 1) := by decide +kernel
theorem dX9_tellsLine_12 : decode cX9_tellsLine 12 = .ok (.ladd, 1) := by decide +kernel
theorem dX9_tellsLine_13 : decode cX9_tellsLine 13 = .ok (.lstore 4, 2) := by decide +kernel
theorem dX9_tellsLine_15 : decode cX9_tellsLine 15 = .ok (.ldc2_w 266, 3) := by decide +kernel
theorem dX9_tellsLine_18 : decode cX9_tellsLine 18 = .ok (.lload 4, 2) := by decide +kernel
theorem dX9_tellsLine_20 : decode cX9_tellsLine 20 = .ok (.lmul, 1) := by decide +kernel
theorem dX9_tellsLine_21 : decode cX9_tellsLine 21 = .ok (.aload_n 0, 1) := by decide +kernel
theorem dX9_tellsLine_22 : decode cX9_tellsLine 22 = .ok (.iload_n 3, 1) := by decide +kernel
theorem dX9_tellsLine_23 : decode cX9_tellsLine 23 = .ok (.iconst (-1), 1) := by decide +kernel
theorem dX9_tellsLine_24 : decode cX9_tellsLine 24 = .ok (.invokevirtual 141, 3) := by decide +kernel
theorem dX9_tellsLine_27 : decode cX9_tellsLine 27 = .ok (.i2l, 1) := by decide +kernel
theorem dX9_tellsLine_28 : decode cX9_tellsLine 28 = .ok (.ladd, 1) := by decide +kernel
theorem dX9_tellsLine_29 : decode cX9_tellsLine 29 = .ok (.lstore 4, 2) := by decide +kernel
theorem dX9_tellsLine_31 : decode cX9_tellsLine 31 = .ok (.ldc2_w 266, 3) := by decide +kernel
theorem dX9_tellsLine_34 : decode cX9_tellsLine 34 = .ok (.lload 4, 2) := by decide +kernel
theorem dX9_tellsLine_36 : decode cX9_tellsLine 36 = .ok (.lmul, 1) := by decide +kernel
theorem dX9_tellsLine_37 : decode cX9_tellsLine 37 = .ok (.aload_n 0, 1) := by decide +kernel
theorem dX9_tellsLine_38 : decode cX9_tellsLine 38 = .ok (.iload_n 3, 1) := by decide +kernel
theorem dX9_tellsLine_39 : decode cX9_tellsLine 39 = .ok (.iconst 0, 1) := by decide +kernel
theorem dX9_tellsLine_40 : decode cX9_tellsLine 40 = .ok (.invokevirtual 213, 3) := by decide +kernel
theorem dX9_tellsLine_43 : decode cX9_tellsLine 43 = .ok (.i2l, 1) := by decide +kernel
theorem dX9_tellsLine_44 : decode cX9_tellsLine 44 = .ok (.ladd, 1) := by decide +kernel
theorem dX9_tellsLine_45 : decode cX9_tellsLine 45 = .ok (.lstore 4, 2) := by decide +kernel
theorem dX9_tellsLine_47 : decode cX9_tellsLine 47 = .ok (.ldc2_w 266, 3) := by decide +kernel
theorem dX9_tellsLine_50 : decode cX9_tellsLine 50 = .ok (.lload 4, 2) := by decide +kernel
theorem dX9_tellsLine_52 : decode cX9_tellsLine 52 = .ok (.lmul, 1) := by decide +kernel
theorem dX9_tellsLine_53 : decode cX9_tellsLine 53 = .ok (.aload_n 0, 1) := by decide +kernel
theorem dX9_tellsLine_54 : decode cX9_tellsLine 54 = .ok (.iload_n 3, 1) := by decide +kernel
theorem dX9_tellsLine_55 : decode cX9_tellsLine 55 = .ok (.iconst 1, 1) := by decide +kernel
theorem dX9_tellsLine_56 : decode cX9_tellsLine 56 = .ok (.invokevirtual 213, 3) := by decide +kernel
theorem dX9_tellsLine_59 : decode cX9_tellsLine 59 = .ok (.i2l, 1) := by decide +kernel
theorem dX9_tellsLine_60 : decode cX9_tellsLine 60 = .ok (.ladd, 1) := by decide +kernel
theorem dX9_tellsLine_61 : decode cX9_tellsLine 61 = .ok (.lstore 4, 2) := by decide +kernel
theorem dX9_tellsLine_63 : decode cX9_tellsLine 63 = .ok (.ldc2_w 266, 3) := by decide +kernel
theorem dX9_tellsLine_66 : decode cX9_tellsLine 66 = .ok (.lload 4, 2) := by decide +kernel
theorem dX9_tellsLine_68 : decode cX9_tellsLine 68 = .ok (.lmul, 1) := by decide +kernel
theorem dX9_tellsLine_69 : decode cX9_tellsLine 69 = .ok (.aload_n 0, 1) := by decide +kernel
theorem dX9_tellsLine_70 : decode cX9_tellsLine 70 = .ok (.iconst 5, 1) := by decide +kernel
theorem dX9_tellsLine_71 : decode cX9_tellsLine 71 = .ok (.iconst 0, 1) := by decide +kernel
theorem dX9_tellsLine_72 : decode cX9_tellsLine 72 = .ok (.iload_n 3, 1) := by decide +kernel
theorem dX9_tellsLine_73 : decode cX9_tellsLine 73 = .ok (.iconst 5, 1) := by decide +kernel
theorem dX9_tellsLine_74 : decode cX9_tellsLine 74 = .ok (.iconst 0, 1) := by decide +kernel
theorem dX9_tellsLine_75 : decode cX9_tellsLine 75 = .ok (.invokevirtual 268, 3) := by decide +kernel
theorem dX9_tellsLine_78 : decode cX9_tellsLine 78 = .ok (.ladd, 1) := by decide +kernel
theorem dX9_tellsLine_79 : decode cX9_tellsLine 79 = .ok (.lstore 4, 2) := by decide +kernel
theorem dX9_tellsLine_81 : decode cX9_tellsLine 81 = .ok (.ldc2_w 266, 3) := by decide +kernel
theorem dX9_tellsLine_84 : decode cX9_tellsLine 84 = .ok (.lload 4, 2) := by decide +kernel
theorem dX9_tellsLine_86 : decode cX9_tellsLine 86 = .ok (.lmul, 1) := by decide +kernel
theorem dX9_tellsLine_87 : decode cX9_tellsLine 87 = .ok (.aload_n 0, 1) := by decide +kernel
theorem dX9_tellsLine_88 : decode cX9_tellsLine 88 = .ok (.iconst 5, 1) := by decide +kernel
theorem dX9_tellsLine_89 : decode cX9_tellsLine 89 = .ok (.iconst 0, 1) := by decide +kernel
theorem dX9_tellsLine_90 : decode cX9_tellsLine 90 = .ok (.iload_n 3, 1) := by decide +kernel
theorem dX9_tellsLine_91 : decode cX9_tellsLine 91 = .ok (.iconst 5, 1) := by decide +kernel
theorem dX9_tellsLine_92 : decode cX9_tellsLine 92 = .ok (.iconst 1, 1) := by decide +kernel
theorem dX9_tellsLine_93 : decode cX9_tellsLine 93 = .ok (.invokevirtual 268, 3) := by decide +kernel
theorem dX9_tellsLine_96 : decode cX9_tellsLine 96 = .ok (.ladd, 1) := by decide +kernel
theorem dX9_tellsLine_97 : decode cX9_tellsLine 97 = .ok (.lstore 4, 2) := by decide +kernel
theorem dX9_tellsLine_99 : decode cX9_tellsLine 99 = .ok (.iconst 0, 1) := by decide +kernel
theorem dX9_tellsLine_100 : decode cX9_tellsLine 100 = .ok (.istore 6, 2) := by decide +kernel
theorem dX9_tellsLine_102 : decode cX9_tellsLine 102 = .ok (.iload 6, 2) := by decide +kernel
theorem dX9_tellsLine_104 : decode cX9_tellsLine 104 = .ok (.iconst 3, 1) := by decide +kernel
theorem dX9_tellsLine_105 : decode cX9_tellsLine 105 = .ok (.if_icmp .ge 29, 3) := by decide +kernel
theorem dX9_tellsLine_108 : decode cX9_tellsLine 108 = .ok (.ldc2_w 266, 3) := by decide +kernel
theorem dX9_tellsLine_111 : decode cX9_tellsLine 111 = .ok (.lload 4, 2) := by decide +kernel
theorem dX9_tellsLine_113 : decode cX9_tellsLine 113 = .ok (.lmul, 1) := by decide +kernel
theorem dX9_tellsLine_114 : decode cX9_tellsLine 114 = .ok (.aload_n 0, 1) := by decide +kernel
theorem dX9_tellsLine_115 : decode cX9_tellsLine 115 = .ok (.iconst 3, 1) := by decide +kernel
theorem dX9_tellsLine_116 : decode cX9_tellsLine 116 = .ok (.bipush 6, 2) := by decide +kernel
theorem dX9_tellsLine_118 : decode cX9_tellsLine 118 = .ok (.iload_n 3, 1) := by decide +kernel
theorem dX9_tellsLine_119 : decode cX9_tellsLine 119 = .ok (.iload 6, 2) := by decide +kernel
theorem dX9_tellsLine_121 : decode cX9_tellsLine 121 = .ok (.invokevirtual 219, 3) := by decide +kernel
theorem dX9_tellsLine_124 : decode cX9_tellsLine 124 = .ok (.i2l, 1) := by decide +kernel
theorem dX9_tellsLine_125 : decode cX9_tellsLine 125 = .ok (.ladd, 1) := by decide +kernel
theorem dX9_tellsLine_126 : decode cX9_tellsLine 126 = .ok (.lstore 4, 2) := by decide +kernel
theorem dX9_tellsLine_128 : decode cX9_tellsLine 128 = .ok (.iinc 6 1, 3) := by decide +kernel
theorem dX9_tellsLine_131 : decode cX9_tellsLine 131 = .ok (.goto (-29), 3) := by decide +kernel
theorem dX9_tellsLine_134 : decode cX9_tellsLine 134 = .ok (.lload 4, 2) := by decide +kernel
theorem dX9_tellsLine_136 : decode cX9_tellsLine 136 = .ok (.lreturn, 1) := by decide +kernel
theorem dX9_digest_0 : decode cX9_digest 0 = .ok (.ldc2_w 271, 3) := by decide +kernel
theorem dX9_digest_3 : decode cX9_digest 3 = .ok (.lstore_n 1, 1) := by decide +kernel
theorem dX9_digest_4 : decode cX9_digest 4 = .ok (.iconst 0, 1) := by decide +kernel
theorem dX9_digest_5 : decode cX9_digest 5 = .ok (.istore_n 3, 1) := by decide +kernel
theorem dX9_digest_6 : decode cX9_digest 6 = .ok (.iload_n 3, 1) := by decide +kernel
theorem dX9_digest_7 : decode cX9_digest 7 = .ok (.bipush 8, 2) := by decide +kernel
theorem dX9_digest_9 : decode cX9_digest 9 = .ok (.if_icmp .ge 22, 3) := by decide +kernel
theorem dX9_digest_12 : decode cX9_digest 12 = .ok (.ldc2_w 266, 3) := by decide +kernel
theorem dX9_digest_15 : decode cX9_digest 15 = .ok (.lload_n 1, 1) := by decide +kernel
theorem dX9_digest_16 : decode cX9_digest 16 = .ok (.lmul, 1) := by decide +kernel
theorem dX9_digest_17 : decode cX9_digest 17 = .ok (.aload_n 0, 1) := by decide +kernel
theorem dX9_digest_18 : decode cX9_digest 18 = .ok (.iload_n 3, 1) := by decide +kernel
theorem dX9_digest_19 : decode cX9_digest 19 = .ok (.invokevirtual 273, 3) := by decide +kernel
theorem dX9_digest_22 : decode cX9_digest 22 = .ok (.i2l, 1) := by decide +kernel
theorem dX9_digest_23 : decode cX9_digest 23 = .ok (.ladd, 1) := by decide +kernel
theorem dX9_digest_24 : decode cX9_digest 24 = .ok (.lstore_n 1, 1) := by decide +kernel
theorem dX9_digest_25 : decode cX9_digest 25 = .ok (.iinc 3 1, 3) := by decide +kernel
theorem dX9_digest_28 : decode cX9_digest 28 = .ok (.goto (-22), 3) := by decide +kernel
theorem dX9_digest_31 : decode cX9_digest 31 = .ok (.ldc2_w 266, 3) := by decide +kernel
theorem dX9_digest_34 : decode cX9_digest 34 = .ok (.lload_n 1, 1) := by decide +kernel
theorem dX9_digest_35 : decode cX9_digest 35 = .ok (.lmul, 1) := by decide +kernel
theorem dX9_digest_36 : decode cX9_digest 36 = .ok (.aload_n 0, 1) := by decide +kernel
theorem dX9_digest_37 : decode cX9_digest 37 = .ok (.invokevirtual 119, 3) := by decide +kernel
theorem dX9_digest_40 : decode cX9_digest 40 = .ok (.i2l, 1) := by decide +kernel
theorem dX9_digest_41 : decode cX9_digest 41 = .ok (.ladd, 1) := by decide +kernel
theorem dX9_digest_42 : decode cX9_digest 42 = .ok (.lstore_n 1, 1) := by decide +kernel
theorem dX9_digest_43 : decode cX9_digest 43 = .ok (.ldc2_w 266, 3) := by decide +kernel
theorem dX9_digest_46 : decode cX9_digest 46 = .ok (.lload_n 1, 1) := by decide +kernel
theorem dX9_digest_47 : decode cX9_digest 47 = .ok (.lmul, 1) := by decide +kernel
theorem dX9_digest_48 : decode cX9_digest 48 = .ok (.aload_n 0, 1) := by decide +kernel
theorem dX9_digest_49 : decode cX9_digest 49 = .ok (.invokevirtual 123, 3) := by decide +kernel
theorem dX9_digest_52 : decode cX9_digest 52 = .ok (.i2l, 1) := by decide +kernel
theorem dX9_digest_53 : decode cX9_digest 53 = .ok (.ladd, 1) := by decide +kernel
theorem dX9_digest_54 : decode cX9_digest 54 = .ok (.lstore_n 1, 1) := by decide +kernel
theorem dX9_digest_55 : decode cX9_digest 55 = .ok (.aload_n 0, 1) := by decide +kernel
theorem dX9_digest_56 : decode cX9_digest 56 = .ok (.invokevirtual 198, 3) := by decide +kernel
theorem dX9_digest_59 : decode cX9_digest 59 = .ok (.iconst 0, 1) := by decide +kernel
theorem dX9_digest_60 : decode cX9_digest 60 = .ok (.istore_n 3, 1) := by decide +kernel
theorem dX9_digest_61 : decode cX9_digest 61 = .ok (.iload_n 3, 1) := by decide +kernel
theorem dX9_digest_62 : decode cX9_digest 62 = .ok (.bipush 8, 2) := by decide +kernel
theorem dX9_digest_64 : decode cX9_digest 64 = .ok (.if_icmp .ge 16, 3) := by decide +kernel
theorem dX9_digest_67 : decode cX9_digest 67 = .ok (.aload_n 0, 1) := by decide +kernel
theorem dX9_digest_68 : decode cX9_digest 68 = .ok (.lload_n 1, 1) := by decide +kernel
theorem dX9_digest_69 : decode cX9_digest 69 = .ok (.iload_n 3, 1) := by decide +kernel
theorem dX9_digest_70 : decode cX9_digest 70 = .ok (.invokevirtual 276, 3) := by decide +kernel
theorem dX9_digest_73 : decode cX9_digest 73 = .ok (.lstore_n 1, 1) := by decide +kernel
theorem dX9_digest_74 : decode cX9_digest 74 = .ok (.iinc 3 1, 3) := by decide +kernel
theorem dX9_digest_77 : decode cX9_digest 77 = .ok (.goto (-16), 3) := by decide +kernel
theorem dX9_digest_80 : decode cX9_digest 80 = .ok (.iconst 0, 1) := by decide +kernel
theorem dX9_digest_81 : decode cX9_digest 81 = .ok (.istore_n 3, 1) := by decide +kernel
theorem dX9_digest_82 : decode cX9_digest 82 = .ok (.iload_n 3, 1) := by decide +kernel
theorem dX9_digest_83 : decode cX9_digest 83 = .ok (.aload_n 0, 1) := by decide +kernel
theorem dX9_digest_84 : decode cX9_digest 84 = .ok (.getfield 113, 3) := by decide +kernel
theorem dX9_digest_87 : decode cX9_digest 87 = .ok (.if_icmp .ge 83, 3) := by decide +kernel
theorem dX9_digest_90 : decode cX9_digest 90 = .ok (.iconst 0, 1) := by decide +kernel
theorem dX9_digest_91 : decode cX9_digest 91 = .ok (.istore 4, 2) := by decide +kernel
theorem dX9_digest_93 : decode cX9_digest 93 = .ok (.iload 4, 2) := by decide +kernel
theorem dX9_digest_95 : decode cX9_digest 95 = .ok (.iconst 4, 1) := by decide +kernel
theorem dX9_digest_96 : decode cX9_digest 96 = .ok (.if_icmp .ge 28, 3) := by decide +kernel
theorem dX9_digest_99 : decode cX9_digest 99 = .ok (.ldc2_w 266, 3) := by decide +kernel
theorem dX9_digest_102 : decode cX9_digest 102 = .ok (.lload_n 1, 1) := by decide +kernel
theorem dX9_digest_103 : decode cX9_digest 103 = .ok (.lmul, 1) := by decide +kernel
theorem dX9_digest_104 : decode cX9_digest 104 = .ok (.aload_n 0, 1) := by decide +kernel
theorem dX9_digest_105 : decode cX9_digest 105 = .ok (.getfield 31, 3) := by decide +kernel
theorem dX9_digest_108 : decode cX9_digest 108 = .ok (.iconst 4, 1) := by decide +kernel
theorem dX9_digest_109 : decode cX9_digest 109 = .ok (.iload_n 3, 1) := by decide +kernel
theorem dX9_digest_110 : decode cX9_digest 110 = .ok (.imul, 1) := by decide +kernel
theorem dX9_digest_111 : decode cX9_digest 111 = .ok (.iload 4, 2) := by decide +kernel
theorem dX9_digest_113 : decode cX9_digest 113 = .ok (.iadd, 1) := by decide +kernel
theorem dX9_digest_114 : decode cX9_digest 114 = .ok (.iaload, 1) := by decide +kernel
theorem dX9_digest_115 : decode cX9_digest 115 = .ok (.i2l, 1) := by decide +kernel
theorem dX9_digest_116 : decode cX9_digest 116 = .ok (.ladd, 1) := by decide +kernel
theorem dX9_digest_117 : decode cX9_digest 117 = .ok (.lstore_n 1, 1) := by decide +kernel
theorem dX9_digest_118 : decode cX9_digest 118 = .ok (.iinc 4 1, 3) := by decide +kernel
theorem dX9_digest_121 : decode cX9_digest 121 = .ok (.goto (-28), 3) := by decide +kernel
theorem dX9_digest_124 : decode cX9_digest 124 = .ok (.ldc2_w 266, 3) := by decide +kernel
theorem dX9_digest_127 : decode cX9_digest 127 = .ok (.lload_n 1, 1) := by decide +kernel
theorem dX9_digest_128 : decode cX9_digest 128 = .ok (.lmul, 1) := by decide +kernel
theorem dX9_digest_129 : decode cX9_digest 129 = .ok (.aload_n 0, 1) := by decide +kernel
theorem dX9_digest_130 : decode cX9_digest 130 = .ok (.iconst 3, 1) := by decide +kernel
theorem dX9_digest_131 : decode cX9_digest 131 = .ok (.iload_n 3, 1) := by decide +kernel
theorem dX9_digest_132 : decode cX9_digest 132 = .ok (.invokevirtual 181, 3) := by decide +kernel
theorem dX9_digest_135 : decode cX9_digest 135 = .ok (.i2l, 1) := by decide +kernel
theorem dX9_digest_136 : decode cX9_digest 136 = .ok (.ladd, 1) := by decide +kernel
theorem dX9_digest_137 : decode cX9_digest 137 = .ok (.lstore_n 1, 1) := by decide +kernel
theorem dX9_digest_138 : decode cX9_digest 138 = .ok (.ldc2_w 266, 3) := by decide +kernel
theorem dX9_digest_141 : decode cX9_digest 141 = .ok (.lload_n 1, 1) := by decide +kernel
theorem dX9_digest_142 : decode cX9_digest 142 = .ok (.lmul, 1) := by decide +kernel
theorem dX9_digest_143 : decode cX9_digest 143 = .ok (.aload_n 0, 1) := by decide +kernel
theorem dX9_digest_144 : decode cX9_digest 144 = .ok (.iload_n 3, 1) := by decide +kernel
theorem dX9_digest_145 : decode cX9_digest 145 = .ok (.invokevirtual 233, 3) := by decide +kernel
theorem dX9_digest_148 : decode cX9_digest 148 = .ok (.i2l, 1) := by decide +kernel
theorem dX9_digest_149 : decode cX9_digest 149 = .ok (.ladd, 1) := by decide +kernel
theorem dX9_digest_150 : decode cX9_digest 150 = .ok (.lstore_n 1, 1) := by decide +kernel
theorem dX9_digest_151 : decode cX9_digest 151 = .ok (.ldc2_w 266, 3) := by decide +kernel
theorem dX9_digest_154 : decode cX9_digest 154 = .ok (.lload_n 1, 1) := by decide +kernel
theorem dX9_digest_155 : decode cX9_digest 155 = .ok (.lmul, 1) := by decide +kernel
theorem dX9_digest_156 : decode cX9_digest 156 = .ok (.aload_n 0, 1) := by decide +kernel
theorem dX9_digest_157 : decode cX9_digest 157 = .ok (.iload_n 3, 1) := by decide +kernel
theorem dX9_digest_158 : decode cX9_digest 158 = .ok (.invokevirtual 236, 3) := by decide +kernel
theorem dX9_digest_161 : decode cX9_digest 161 = .ok (.i2l, 1) := by decide +kernel
theorem dX9_digest_162 : decode cX9_digest 162 = .ok (.ladd, 1) := by decide +kernel
theorem dX9_digest_163 : decode cX9_digest 163 = .ok (.lstore_n 1, 1) := by decide +kernel
theorem dX9_digest_164 : decode cX9_digest 164 = .ok (.iinc 3 1, 3) := by decide +kernel
theorem dX9_digest_167 : decode cX9_digest 167 = .ok (.goto (-85), 3) := by decide +kernel
theorem dX9_digest_170 : decode cX9_digest 170 = .ok (.iconst 0, 1) := by decide +kernel
theorem dX9_digest_171 : decode cX9_digest 171 = .ok (.istore_n 3, 1) := by decide +kernel
theorem dX9_digest_172 : decode cX9_digest 172 = .ok (.iload_n 3, 1) := by decide +kernel
theorem dX9_digest_173 : decode cX9_digest 173 = .ok (.iconst 5, 1) := by decide +kernel
theorem dX9_digest_174 : decode cX9_digest 174 = .ok (.if_icmp .ge 112, 3) := by decide +kernel
theorem dX9_digest_177 : decode cX9_digest 177 = .ok (.iload_n 3, 1) := by decide +kernel
theorem dX9_digest_178 : decode cX9_digest 178 = .ok (.iconst 3, 1) := by decide +kernel
theorem dX9_digest_179 : decode cX9_digest 179 = .ok (.if_icmp .ge 7, 3) := by decide +kernel
theorem dX9_digest_182 : decode cX9_digest 182 = .ok (.iload_n 3, 1) := by decide +kernel
theorem dX9_digest_183 : decode cX9_digest 183 = .ok (.goto 15, 3) := by decide +kernel
theorem dX9_digest_186 : decode cX9_digest 186 = .ok (.iload_n 3, 1) := by decide +kernel
theorem dX9_digest_187 : decode cX9_digest 187 = .ok (.iconst 3, 1) := by decide +kernel
theorem dX9_digest_188 : decode cX9_digest 188 = .ok (.if_icmp .ne 8, 3) := by decide +kernel
theorem dX9_digest_191 : decode cX9_digest 191 = .ok (.bipush 9, 2) := by decide +kernel
theorem dX9_digest_193 : decode cX9_digest 193 = .ok (.goto 5, 3) := by decide +kernel
theorem dX9_digest_196 : decode cX9_digest 196 = .ok (.bipush 39, 2) := by decide +kernel
theorem dX9_digest_198 : decode cX9_digest 198 = .ok (.istore 4, 2) := by decide +kernel
theorem dX9_digest_200 : decode cX9_digest 200 = .ok (.iconst 0, 1) := by decide +kernel
theorem dX9_digest_201 : decode cX9_digest 201 = .ok (.istore 5, 2) := by decide +kernel
theorem dX9_digest_203 : decode cX9_digest 203 = .ok (.iload 5, 2) := by decide +kernel
theorem dX9_digest_205 : decode cX9_digest 205 = .ok (.iconst 4, 1) := by decide +kernel
theorem dX9_digest_206 : decode cX9_digest 206 = .ok (.if_icmp .ge 25, 3) := by decide +kernel
theorem dX9_digest_209 : decode cX9_digest 209 = .ok (.ldc2_w 266, 3) := by decide +kernel
theorem dX9_digest_212 : decode cX9_digest 212 = .ok (.lload_n 1, 1) := by decide +kernel
theorem dX9_digest_213 : decode cX9_digest 213 = .ok (.lmul, 1) := by decide +kernel
theorem dX9_digest_214 : decode cX9_digest 214 = .ok (.aload_n 0, 1) := by decide +kernel
theorem dX9_digest_215 : decode cX9_digest 215 = .ok (.iload 4, 2) := by decide +kernel
theorem dX9_digest_217 : decode cX9_digest 217 = .ok (.iload 5, 2) := by decide +kernel
theorem dX9_digest_219 : decode cX9_digest 219 = .ok (.invokevirtual 201, 3) := by decide +kernel
theorem dX9_digest_222 : decode cX9_digest 222 = .ok (.i2l, 1) := by decide +kernel
theorem dX9_digest_223 : decode cX9_digest 223 = .ok (.ladd, 1) := by decide +kernel
theorem dX9_digest_224 : decode cX9_digest 224 = .ok (.lstore_n 1, 1) := by decide +kernel
theorem dX9_digest_225 : decode cX9_digest 225 = .ok (.iinc 5 1, 3) := by decide +kernel
theorem dX9_digest_228 : decode cX9_digest 228 = .ok (.goto (-25), 3) := by decide +kernel
theorem dX9_digest_231 : decode cX9_digest 231 = .ok (.ldc2_w 266, 3) := by decide +kernel
theorem dX9_digest_234 : decode cX9_digest 234 = .ok (.lload_n 1, 1) := by decide +kernel
theorem dX9_digest_235 : decode cX9_digest 235 = .ok (.lmul, 1) := by decide +kernel
theorem dX9_digest_236 : decode cX9_digest 236 = .ok (.aload_n 0, 1) := by decide +kernel
theorem dX9_digest_237 : decode cX9_digest 237 = .ok (.iconst 3, 1) := by decide +kernel
theorem dX9_digest_238 : decode cX9_digest 238 = .ok (.iload 4, 2) := by decide +kernel
theorem dX9_digest_240 : decode cX9_digest 240 = .ok (.invokevirtual 216, 3) := by decide +kernel
theorem dX9_digest_243 : decode cX9_digest 243 = .ok (.i2l, 1) := by decide +kernel
theorem dX9_digest_244 : decode cX9_digest 244 = .ok (.ladd, 1) := by decide +kernel
theorem dX9_digest_245 : decode cX9_digest 245 = .ok (.lstore_n 1, 1) := by decide +kernel
theorem dX9_digest_246 : decode cX9_digest 246 = .ok (.ldc2_w 266, 3) := by decide +kernel
theorem dX9_digest_249 : decode cX9_digest 249 = .ok (.lload_n 1, 1) := by decide +kernel
theorem dX9_digest_250 : decode cX9_digest 250 = .ok (.lmul, 1) := by decide +kernel
theorem dX9_digest_251 : decode cX9_digest 251 = .ok (.aload_n 0, 1) := by decide +kernel
theorem dX9_digest_252 : decode cX9_digest 252 = .ok (.bipush 7, 2) := by decide +kernel
theorem dX9_digest_254 : decode cX9_digest 254 = .ok (.iload 4, 2) := by decide +kernel
theorem dX9_digest_256 : decode cX9_digest 256 = .ok (.iconst 0, 1) := by decide +kernel
theorem dX9_digest_257 : decode cX9_digest 257 = .ok (.invokevirtual 260, 3) := by decide +kernel
theorem dX9_digest_260 : decode cX9_digest 260 = .ok (.i2l, 1) := by decide +kernel
theorem dX9_digest_261 : decode cX9_digest 261 = .ok (.ladd, 1) := by decide +kernel
theorem dX9_digest_262 : decode cX9_digest 262 = .ok (.lstore_n 1, 1) := by decide +kernel
theorem dX9_digest_263 : decode cX9_digest 263 = .ok (.ldc2_w 266, 3) := by decide +kernel
theorem dX9_digest_266 : decode cX9_digest 266 = .ok (.lload_n 1, 1) := by decide +kernel
theorem dX9_digest_267 : decode cX9_digest 267 = .ok (.lmul, 1) := by decide +kernel
theorem dX9_digest_268 : decode cX9_digest 268 = .ok (.aload_n 0, 1) := by decide +kernel
theorem dX9_digest_269 : decode cX9_digest 269 = .ok (.bipush 7, 2) := by decide +kernel
theorem dX9_digest_271 : decode cX9_digest 271 = .ok (.iload 4, 2) := by decide +kernel
theorem dX9_digest_273 : decode cX9_digest 273 = .ok (.iconst 1, 1) := by decide +kernel
theorem dX9_digest_274 : decode cX9_digest 274 = .ok (.invokevirtual 260, 3) := by decide +kernel
theorem dX9_digest_277 : decode cX9_digest 277 = .ok (.i2l, 1) := by decide +kernel
theorem dX9_digest_278 : decode cX9_digest 278 = .ok (.ladd, 1) := by decide +kernel
theorem dX9_digest_279 : decode cX9_digest 279 = .ok (.lstore_n 1, 1) := by decide +kernel
theorem dX9_digest_280 : decode cX9_digest 280 = .ok (.iinc 3 1, 3) := by decide +kernel
theorem dX9_digest_283 : decode cX9_digest 283 = .ok (.goto (-111), 3) := by decide +kernel
theorem dX9_digest_286 : decode cX9_digest 286 = .ok (.ldc2_w 266, 3) := by decide +kernel
theorem dX9_digest_289 : decode cX9_digest 289 = .ok (.lload_n 1, 1) := by decide +kernel
theorem dX9_digest_290 : decode cX9_digest 290 = .ok (.lmul, 1) := by decide +kernel
theorem dX9_digest_291 : decode cX9_digest 291 = .ok (.aload_n 0, 1) := by decide +kernel
theorem dX9_digest_292 : decode cX9_digest 292 = .ok (.iconst 0, 1) := by decide +kernel
theorem dX9_digest_293 : decode cX9_digest 293 = .ok (.invokevirtual 207, 3) := by decide +kernel
theorem dX9_digest_296 : decode cX9_digest 296 = .ok (.i2l, 1) := by decide +kernel
theorem dX9_digest_297 : decode cX9_digest 297 = .ok (.ladd, 1) := by decide +kernel
theorem dX9_digest_298 : decode cX9_digest 298 = .ok (.lstore_n 1, 1) := by decide +kernel
theorem dX9_digest_299 : decode cX9_digest 299 = .ok (.ldc2_w 266, 3) := by decide +kernel
theorem dX9_digest_302 : decode cX9_digest 302 = .ok (.lload_n 1, 1) := by decide +kernel
theorem dX9_digest_303 : decode cX9_digest 303 = .ok (.lmul, 1) := by decide +kernel
theorem dX9_digest_304 : decode cX9_digest 304 = .ok (.aload_n 0, 1) := by decide +kernel
theorem dX9_digest_305 : decode cX9_digest 305 = .ok (.iconst 1, 1) := by decide +kernel
theorem dX9_digest_306 : decode cX9_digest 306 = .ok (.invokevirtual 207, 3) := by decide +kernel
theorem dX9_digest_309 : decode cX9_digest 309 = .ok (.i2l, 1) := by decide +kernel
theorem dX9_digest_310 : decode cX9_digest 310 = .ok (.ladd, 1) := by decide +kernel
theorem dX9_digest_311 : decode cX9_digest 311 = .ok (.lstore_n 1, 1) := by decide +kernel
theorem dX9_digest_312 : decode cX9_digest 312 = .ok (.ldc2_w 266, 3) := by decide +kernel
theorem dX9_digest_315 : decode cX9_digest 315 = .ok (.lload_n 1, 1) := by decide +kernel
theorem dX9_digest_316 : decode cX9_digest 316 = .ok (.lmul, 1) := by decide +kernel
theorem dX9_digest_317 : decode cX9_digest 317 = .ok (.aload_n 0, 1) := by decide +kernel
theorem dX9_digest_318 : decode cX9_digest 318 = .ok (.invokevirtual 210, 3) := by decide +kernel
theorem dX9_digest_321 : decode cX9_digest 321 = .ok (.i2l, 1) := by decide +kernel
theorem dX9_digest_322 : decode cX9_digest 322 = .ok (.ladd, 1) := by decide +kernel
theorem dX9_digest_323 : decode cX9_digest 323 = .ok (.lstore_n 1, 1) := by decide +kernel
theorem dX9_digest_324 : decode cX9_digest 324 = .ok (.ldc2_w 266, 3) := by decide +kernel
theorem dX9_digest_327 : decode cX9_digest 327 = .ok (.lload_n 1, 1) := by decide +kernel
theorem dX9_digest_328 : decode cX9_digest 328 = .ok (.lmul, 1) := by decide +kernel
theorem dX9_digest_329 : decode cX9_digest 329 = .ok (.aload_n 0, 1) := by decide +kernel
theorem dX9_digest_330 : decode cX9_digest 330 = .ok (.invokevirtual 230, 3) := by decide +kernel
theorem dX9_digest_333 : decode cX9_digest 333 = .ok (.i2l, 1) := by decide +kernel
theorem dX9_digest_334 : decode cX9_digest 334 = .ok (.ladd, 1) := by decide +kernel
theorem dX9_digest_335 : decode cX9_digest 335 = .ok (.lreturn, 1) := by decide +kernel
theorem dJ6_bitCount_0f7a4_0 : decode cJ6_bitCount_0f7a4 0 = .ok (.iload_n 0, 1) := by decide +kernel
theorem dJ6_bitCount_0f7a4_1 : decode cJ6_bitCount_0f7a4 1 = .ok (.iload_n 0, 1) := by decide +kernel
theorem dJ6_bitCount_0f7a4_2 : decode cJ6_bitCount_0f7a4 2 = .ok (.iconst 1, 1) := by decide +kernel
theorem dJ6_bitCount_0f7a4_3 : decode cJ6_bitCount_0f7a4 3 = .ok (.iushr, 1) := by decide +kernel
theorem dJ6_bitCount_0f7a4_4 : decode cJ6_bitCount_0f7a4 4 = .ok (.ldc_w 265, 3) := by decide +kernel
theorem dJ6_bitCount_0f7a4_7 : decode cJ6_bitCount_0f7a4 7 = .ok (.iand, 1) := by decide +kernel
theorem dJ6_bitCount_0f7a4_8 : decode cJ6_bitCount_0f7a4 8 = .ok (.isub, 1) := by decide +kernel
theorem dJ6_bitCount_0f7a4_9 : decode cJ6_bitCount_0f7a4 9 = .ok (.istore_n 0, 1) := by decide +kernel
theorem dJ6_bitCount_0f7a4_10 : decode cJ6_bitCount_0f7a4 10 = .ok (.iload_n 0, 1) := by decide +kernel
theorem dJ6_bitCount_0f7a4_11 : decode cJ6_bitCount_0f7a4 11 = .ok (.ldc_w 266, 3) := by decide +kernel
theorem dJ6_bitCount_0f7a4_14 : decode cJ6_bitCount_0f7a4 14 = .ok (.iand, 1) := by decide +kernel
theorem dJ6_bitCount_0f7a4_15 : decode cJ6_bitCount_0f7a4 15 = .ok (.iload_n 0, 1) := by decide +kernel
theorem dJ6_bitCount_0f7a4_16 : decode cJ6_bitCount_0f7a4 16 = .ok (.iconst 2, 1) := by decide +kernel
theorem dJ6_bitCount_0f7a4_17 : decode cJ6_bitCount_0f7a4 17 = .ok (.iushr, 1) := by decide +kernel
theorem dJ6_bitCount_0f7a4_18 : decode cJ6_bitCount_0f7a4 18 = .ok (.ldc_w 266, 3) := by decide +kernel
theorem dJ6_bitCount_0f7a4_21 : decode cJ6_bitCount_0f7a4 21 = .ok (.iand, 1) := by decide +kernel
theorem dJ6_bitCount_0f7a4_22 : decode cJ6_bitCount_0f7a4 22 = .ok (.iadd, 1) := by decide +kernel
theorem dJ6_bitCount_0f7a4_23 : decode cJ6_bitCount_0f7a4 23 = .ok (.istore_n 0, 1) := by decide +kernel
theorem dJ6_bitCount_0f7a4_24 : decode cJ6_bitCount_0f7a4 24 = .ok (.iload_n 0, 1) := by decide +kernel
theorem dJ6_bitCount_0f7a4_25 : decode cJ6_bitCount_0f7a4 25 = .ok (.iload_n 0, 1) := by decide +kernel
theorem dJ6_bitCount_0f7a4_26 : decode cJ6_bitCount_0f7a4 26 = .ok (.iconst 4, 1) := by decide +kernel
theorem dJ6_bitCount_0f7a4_27 : decode cJ6_bitCount_0f7a4 27 = .ok (.iushr, 1) := by decide +kernel
theorem dJ6_bitCount_0f7a4_28 : decode cJ6_bitCount_0f7a4 28 = .ok (.iadd, 1) := by decide +kernel
theorem dJ6_bitCount_0f7a4_29 : decode cJ6_bitCount_0f7a4 29 = .ok (.ldc_w 267, 3) := by decide +kernel
theorem dJ6_bitCount_0f7a4_32 : decode cJ6_bitCount_0f7a4 32 = .ok (.iand, 1) := by decide +kernel
theorem dJ6_bitCount_0f7a4_33 : decode cJ6_bitCount_0f7a4 33 = .ok (.istore_n 0, 1) := by decide +kernel
theorem dJ6_bitCount_0f7a4_34 : decode cJ6_bitCount_0f7a4 34 = .ok (.iload_n 0, 1) := by decide +kernel
theorem dJ6_bitCount_0f7a4_35 : decode cJ6_bitCount_0f7a4 35 = .ok (.iload_n 0, 1) := by decide +kernel
theorem dJ6_bitCount_0f7a4_36 : decode cJ6_bitCount_0f7a4 36 = .ok (.bipush 8, 2) := by decide +kernel
theorem dJ6_bitCount_0f7a4_38 : decode cJ6_bitCount_0f7a4 38 = .ok (.iushr, 1) := by decide +kernel
theorem dJ6_bitCount_0f7a4_39 : decode cJ6_bitCount_0f7a4 39 = .ok (.iadd, 1) := by decide +kernel
theorem dJ6_bitCount_0f7a4_40 : decode cJ6_bitCount_0f7a4 40 = .ok (.istore_n 0, 1) := by decide +kernel
theorem dJ6_bitCount_0f7a4_41 : decode cJ6_bitCount_0f7a4 41 = .ok (.iload_n 0, 1) := by decide +kernel
theorem dJ6_bitCount_0f7a4_42 : decode cJ6_bitCount_0f7a4 42 = .ok (.iload_n 0, 1) := by decide +kernel
theorem dJ6_bitCount_0f7a4_43 : decode cJ6_bitCount_0f7a4 43 = .ok (.bipush 16, 2) := by decide +kernel
theorem dJ6_bitCount_0f7a4_45 : decode cJ6_bitCount_0f7a4 45 = .ok (.iushr, 1) := by decide +kernel
theorem dJ6_bitCount_0f7a4_46 : decode cJ6_bitCount_0f7a4 46 = .ok (.iadd, 1) := by decide +kernel
theorem dJ6_bitCount_0f7a4_47 : decode cJ6_bitCount_0f7a4 47 = .ok (.istore_n 0, 1) := by decide +kernel
theorem dJ6_bitCount_0f7a4_48 : decode cJ6_bitCount_0f7a4 48 = .ok (.iload_n 0, 1) := by decide +kernel
theorem dJ6_bitCount_0f7a4_49 : decode cJ6_bitCount_0f7a4 49 = .ok (.bipush 63, 2) := by decide +kernel
theorem dJ6_bitCount_0f7a4_51 : decode cJ6_bitCount_0f7a4 51 = .ok (.iand, 1) := by decide +kernel
theorem dJ6_bitCount_0f7a4_52 : decode cJ6_bitCount_0f7a4 52 = .ok (.ireturn, 1) := by decide +kernel
theorem dJ9_abs_0f7a4_0 : decode cJ9_abs_0f7a4 0 = .ok (.iload_n 0, 1) := by decide +kernel
theorem dJ9_abs_0f7a4_1 : decode cJ9_abs_0f7a4 1 = .ok (.ifCond .ge 8, 3) := by decide +kernel
theorem dJ9_abs_0f7a4_4 : decode cJ9_abs_0f7a4 4 = .ok (.iload_n 0, 1) := by decide +kernel
theorem dJ9_abs_0f7a4_5 : decode cJ9_abs_0f7a4 5 = .ok (.ineg, 1) := by decide +kernel
theorem dJ9_abs_0f7a4_6 : decode cJ9_abs_0f7a4 6 = .ok (.goto 4, 3) := by decide +kernel
theorem dJ9_abs_0f7a4_9 : decode cJ9_abs_0f7a4 9 = .ok (.iload_n 0, 1) := by decide +kernel
theorem dJ9_abs_0f7a4_10 : decode cJ9_abs_0f7a4 10 = .ok (.ireturn, 1) := by decide +kernel
theorem dJ9_max_7cf53_0 : decode cJ9_max_7cf53 0 = .ok (.iload_n 0, 1) := by decide +kernel
theorem dJ9_max_7cf53_1 : decode cJ9_max_7cf53 1 = .ok (.iload_n 1, 1) := by decide +kernel
theorem dJ9_max_7cf53_2 : decode cJ9_max_7cf53 2 = .ok (.if_icmp .lt 7, 3) := by decide +kernel
theorem dJ9_max_7cf53_5 : decode cJ9_max_7cf53 5 = .ok (.iload_n 0, 1) := by decide +kernel
theorem dJ9_max_7cf53_6 : decode cJ9_max_7cf53 6 = .ok (.goto 4, 3) := by decide +kernel
theorem dJ9_max_7cf53_9 : decode cJ9_max_7cf53 9 = .ok (.iload_n 1, 1) := by decide +kernel
theorem dJ9_max_7cf53_10 : decode cJ9_max_7cf53 10 = .ok (.ireturn, 1) := by decide +kernel
theorem dJ9_min_7cf53_0 : decode cJ9_min_7cf53 0 = .ok (.iload_n 0, 1) := by decide +kernel
theorem dJ9_min_7cf53_1 : decode cJ9_min_7cf53 1 = .ok (.iload_n 1, 1) := by decide +kernel
theorem dJ9_min_7cf53_2 : decode cJ9_min_7cf53 2 = .ok (.if_icmp .gt 7, 3) := by decide +kernel
theorem dJ9_min_7cf53_5 : decode cJ9_min_7cf53 5 = .ok (.iload_n 0, 1) := by decide +kernel
theorem dJ9_min_7cf53_6 : decode cJ9_min_7cf53 6 = .ok (.goto 4, 3) := by decide +kernel
theorem dJ9_min_7cf53_9 : decode cJ9_min_7cf53 9 = .ok (.iload_n 1, 1) := by decide +kernel
theorem dJ9_min_7cf53_10 : decode cJ9_min_7cf53 10 = .ok (.ireturn, 1) := by decide +kernel
theorem dL_law_0 : decode cL_law 0 = .ok (.new 7, 3) := by decide +kernel
theorem dL_law_3 : decode cL_law 3 = .ok (.dup, 1) := by decide +kernel
theorem dL_law_4 : decode cL_law 4 = .ok (.invokespecial 9, 3) := by decide +kernel
theorem dL_law_7 : decode cL_law 7 = .ok (.astore_n 1, 1) := by decide +kernel
theorem dL_law_8 : decode cL_law 8 = .ok (.new 10, 3) := by decide +kernel
theorem dL_law_11 : decode cL_law 11 = .ok (.dup, 1) := by decide +kernel
theorem dL_law_12 : decode cL_law 12 = .ok (.invokespecial 12, 3) := by decide +kernel
theorem dL_law_15 : decode cL_law 15 = .ok (.astore_n 2, 1) := by decide +kernel
theorem dL_law_16 : decode cL_law 16 = .ok (.iconst 0, 1) := by decide +kernel
theorem dL_law_17 : decode cL_law 17 = .ok (.istore_n 3, 1) := by decide +kernel
theorem dL_law_18 : decode cL_law 18 = .ok (.iload_n 3, 1) := by decide +kernel
theorem dL_law_19 : decode cL_law 19 = .ok (.aload_n 0, 1) := by decide +kernel
theorem dL_law_20 : decode cL_law 20 = .ok (.arraylength, 1) := by decide +kernel
theorem dL_law_21 : decode cL_law 21 = .ok (.bipush 6, 2) := by decide +kernel
theorem dL_law_23 : decode cL_law 23 = .ok (.isub, 1) := by decide +kernel
theorem dL_law_24 : decode cL_law 24 = .ok (.if_icmp .gt 1220, 3) := by decide +kernel
theorem dL_law_27 : decode cL_law 27 = .ok (.aload_n 0, 1) := by decide +kernel
theorem dL_law_28 : decode cL_law 28 = .ok (.iload_n 3, 1) := by decide +kernel
theorem dL_law_29 : decode cL_law 29 = .ok (.iaload, 1) := by decide +kernel
theorem dL_law_30 : decode cL_law 30 = .ok (.bipush 63, 2) := by decide +kernel
theorem dL_law_32 : decode cL_law 32 = .ok (.iand, 1) := by decide +kernel
theorem dL_law_33 : decode cL_law 33 = .ok (.tableswitch 1205 0 33 #[151, 184, 207, 230, 253, 276, 309, 342, 375, 408, 431, 454, 477, 510, 543, 566, 579, 612, 645, 698, 731, 744, 757, 780, 803, 867, 910, 953, 976, 1029, 1072, 1135, 1168, 1191], 151) := by decide +kernel
theorem dL_law_184 : decode cL_law 184 = .ok (.aload_n 1, 1) := by decide +kernel
theorem dL_law_185 : decode cL_law 185 = .ok (.aload_n 0, 1) := by decide +kernel
theorem dL_law_186 : decode cL_law 186 = .ok (.iload_n 3, 1) := by decide +kernel
theorem dL_law_187 : decode cL_law 187 = .ok (.iconst 1, 1) := by decide +kernel
theorem dL_law_188 : decode cL_law 188 = .ok (.iadd, 1) := by decide +kernel
theorem dL_law_189 : decode cL_law 189 = .ok (.iaload, 1) := by decide +kernel
theorem dL_law_190 : decode cL_law 190 = .ok (.aload_n 0, 1) := by decide +kernel
theorem dL_law_191 : decode cL_law 191 = .ok (.iload_n 3, 1) := by decide +kernel
theorem dL_law_192 : decode cL_law 192 = .ok (.iconst 2, 1) := by decide +kernel
theorem dL_law_193 : decode cL_law 193 = .ok (.iadd, 1) := by decide +kernel
theorem dL_law_194 : decode cL_law 194 = .ok (.iaload, 1) := by decide +kernel
theorem dL_law_195 : decode cL_law 195 = .ok (.invokevirtual 13, 3) := by decide +kernel
theorem dL_law_198 : decode cL_law 198 = .ok (.aload_n 2, 1) := by decide +kernel
theorem dL_law_199 : decode cL_law 199 = .ok (.aload_n 0, 1) := by decide +kernel
theorem dL_law_200 : decode cL_law 200 = .ok (.iload_n 3, 1) := by decide +kernel
theorem dL_law_201 : decode cL_law 201 = .ok (.iconst 1, 1) := by decide +kernel
theorem dL_law_202 : decode cL_law 202 = .ok (.iadd, 1) := by decide +kernel
theorem dL_law_203 : decode cL_law 203 = .ok (.iaload, 1) := by decide +kernel
theorem dL_law_204 : decode cL_law 204 = .ok (.aload_n 0, 1) := by decide +kernel
theorem dL_law_205 : decode cL_law 205 = .ok (.iload_n 3, 1) := by decide +kernel
theorem dL_law_206 : decode cL_law 206 = .ok (.iconst 2, 1) := by decide +kernel
theorem dL_law_207 : decode cL_law 207 = .ok (.iadd, 1) := by decide +kernel
theorem dL_law_208 : decode cL_law 208 = .ok (.iaload, 1) := by decide +kernel
theorem dL_law_209 : decode cL_law 209 = .ok (.invokevirtual 17, 3) := by decide +kernel
theorem dL_law_212 : decode cL_law 212 = .ok (.if_icmp .eq 1026, 3) := by decide +kernel
theorem dL_law_215 : decode cL_law 215 = .ok (.iconst 0, 1) := by decide +kernel
theorem dL_law_216 : decode cL_law 216 = .ok (.ireturn, 1) := by decide +kernel
theorem dL_law_217 : decode cL_law 217 = .ok (.aload_n 1, 1) := by decide +kernel
theorem dL_law_218 : decode cL_law 218 = .ok (.aload_n 0, 1) := by decide +kernel
theorem dL_law_219 : decode cL_law 219 = .ok (.iload_n 3, 1) := by decide +kernel
theorem dL_law_220 : decode cL_law 220 = .ok (.iconst 1, 1) := by decide +kernel
theorem dL_law_221 : decode cL_law 221 = .ok (.iadd, 1) := by decide +kernel
theorem dL_law_222 : decode cL_law 222 = .ok (.iaload, 1) := by decide +kernel
theorem dL_law_223 : decode cL_law 223 = .ok (.invokevirtual 18, 3) := by decide +kernel
theorem dL_law_226 : decode cL_law 226 = .ok (.aload_n 2, 1) := by decide +kernel
theorem dL_law_227 : decode cL_law 227 = .ok (.aload_n 0, 1) := by decide +kernel
theorem dL_law_228 : decode cL_law 228 = .ok (.iload_n 3, 1) := by decide +kernel
theorem dL_law_229 : decode cL_law 229 = .ok (.iconst 1, 1) := by decide +kernel
theorem dL_law_230 : decode cL_law 230 = .ok (.iadd, 1) := by decide +kernel
theorem dL_law_231 : decode cL_law 231 = .ok (.iaload, 1) := by decide +kernel
theorem dL_law_232 : decode cL_law 232 = .ok (.invokevirtual 22, 3) := by decide +kernel
theorem dL_law_235 : decode cL_law 235 = .ok (.if_icmp .eq 1003, 3) := by decide +kernel
theorem dL_law_238 : decode cL_law 238 = .ok (.iconst 0, 1) := by decide +kernel
theorem dL_law_239 : decode cL_law 239 = .ok (.ireturn, 1) := by decide +kernel
theorem dL_law_240 : decode cL_law 240 = .ok (.aload_n 1, 1) := by decide +kernel
theorem dL_law_241 : decode cL_law 241 = .ok (.aload_n 0, 1) := by decide +kernel
theorem dL_law_242 : decode cL_law 242 = .ok (.iload_n 3, 1) := by decide +kernel
theorem dL_law_243 : decode cL_law 243 = .ok (.iconst 1, 1) := by decide +kernel
theorem dL_law_244 : decode cL_law 244 = .ok (.iadd, 1) := by decide +kernel
theorem dL_law_245 : decode cL_law 245 = .ok (.iaload, 1) := by decide +kernel
theorem dL_law_246 : decode cL_law 246 = .ok (.invokevirtual 23, 3) := by decide +kernel
theorem dL_law_249 : decode cL_law 249 = .ok (.aload_n 2, 1) := by decide +kernel
theorem dL_law_250 : decode cL_law 250 = .ok (.aload_n 0, 1) := by decide +kernel
theorem dL_law_251 : decode cL_law 251 = .ok (.iload_n 3, 1) := by decide +kernel
theorem dL_law_252 : decode cL_law 252 = .ok (.iconst 1, 1) := by decide +kernel
theorem dL_law_253 : decode cL_law 253 = .ok (.iadd, 1) := by decide +kernel
theorem dL_law_254 : decode cL_law 254 = .ok (.iaload, 1) := by decide +kernel
theorem dL_law_255 : decode cL_law 255 = .ok (.invokevirtual 26, 3) := by decide +kernel
theorem dL_law_258 : decode cL_law 258 = .ok (.if_icmp .eq 980, 3) := by decide +kernel
theorem dL_law_261 : decode cL_law 261 = .ok (.iconst 0, 1) := by decide +kernel
theorem dL_law_262 : decode cL_law 262 = .ok (.ireturn, 1) := by decide +kernel
theorem dL_law_263 : decode cL_law 263 = .ok (.aload_n 1, 1) := by decide +kernel
theorem dL_law_264 : decode cL_law 264 = .ok (.aload_n 0, 1) := by decide +kernel
theorem dL_law_265 : decode cL_law 265 = .ok (.iload_n 3, 1) := by decide +kernel
theorem dL_law_266 : decode cL_law 266 = .ok (.iconst 1, 1) := by decide +kernel
theorem dL_law_267 : decode cL_law 267 = .ok (.iadd, 1) := by decide +kernel
theorem dL_law_268 : decode cL_law 268 = .ok (.iaload, 1) := by decide +kernel
theorem dL_law_269 : decode cL_law 269 = .ok (.invokevirtual 27, 3) := by decide +kernel
theorem dL_law_272 : decode cL_law 272 = .ok (.aload_n 2, 1) := by decide +kernel
theorem dL_law_273 : decode cL_law 273 = .ok (.aload_n 0, 1) := by decide +kernel
theorem dL_law_274 : decode cL_law 274 = .ok (.iload_n 3, 1) := by decide +kernel
theorem dL_law_275 : decode cL_law 275 = .ok (.iconst 1, 1) := by decide +kernel
theorem dL_law_276 : decode cL_law 276 = .ok (.iadd, 1) := by decide +kernel
theorem dL_law_277 : decode cL_law 277 = .ok (.iaload, 1) := by decide +kernel
theorem dL_law_278 : decode cL_law 278 = .ok (.invokevirtual 30, 3) := by decide +kernel
theorem dL_law_281 : decode cL_law 281 = .ok (.if_icmp .eq 957, 3) := by decide +kernel
theorem dL_law_284 : decode cL_law 284 = .ok (.iconst 0, 1) := by decide +kernel
theorem dL_law_285 : decode cL_law 285 = .ok (.ireturn, 1) := by decide +kernel
theorem dL_law_286 : decode cL_law 286 = .ok (.aload_n 1, 1) := by decide +kernel
theorem dL_law_287 : decode cL_law 287 = .ok (.aload_n 0, 1) := by decide +kernel
theorem dL_law_288 : decode cL_law 288 = .ok (.iload_n 3, 1) := by decide +kernel
theorem dL_law_289 : decode cL_law 289 = .ok (.iconst 1, 1) := by decide +kernel
theorem dL_law_290 : decode cL_law 290 = .ok (.iadd, 1) := by decide +kernel
theorem dL_law_291 : decode cL_law 291 = .ok (.iaload, 1) := by decide +kernel
theorem dL_law_292 : decode cL_law 292 = .ok (.invokevirtual 31, 3) := by decide +kernel
theorem dL_law_295 : decode cL_law 295 = .ok (.aload_n 2, 1) := by decide +kernel
theorem dL_law_296 : decode cL_law 296 = .ok (.aload_n 0, 1) := by decide +kernel
theorem dL_law_297 : decode cL_law 297 = .ok (.iload_n 3, 1) := by decide +kernel
theorem dL_law_298 : decode cL_law 298 = .ok (.iconst 1, 1) := by decide +kernel
theorem dL_law_299 : decode cL_law 299 = .ok (.iadd, 1) := by decide +kernel
theorem dL_law_300 : decode cL_law 300 = .ok (.iaload, 1) := by decide +kernel
theorem dL_law_301 : decode cL_law 301 = .ok (.invokevirtual 34, 3) := by decide +kernel
theorem dL_law_304 : decode cL_law 304 = .ok (.if_icmp .eq 934, 3) := by decide +kernel
theorem dL_law_307 : decode cL_law 307 = .ok (.iconst 0, 1) := by decide +kernel
theorem dL_law_308 : decode cL_law 308 = .ok (.ireturn, 1) := by decide +kernel
theorem dL_law_309 : decode cL_law 309 = .ok (.aload_n 1, 1) := by decide +kernel
theorem dL_law_310 : decode cL_law 310 = .ok (.aload_n 0, 1) := by decide +kernel
theorem dL_law_311 : decode cL_law 311 = .ok (.iload_n 3, 1) := by decide +kernel
theorem dL_law_312 : decode cL_law 312 = .ok (.iconst 1, 1) := by decide +kernel
theorem dL_law_313 : decode cL_law 313 = .ok (.iadd, 1) := by decide +kernel
theorem dL_law_314 : decode cL_law 314 = .ok (.iaload, 1) := by decide +kernel
theorem dL_law_315 : decode cL_law 315 = .ok (.aload_n 0, 1) := by decide +kernel
theorem dL_law_316 : decode cL_law 316 = .ok (.iload_n 3, 1) := by decide +kernel
theorem dL_law_317 : decode cL_law 317 = .ok (.iconst 2, 1) := by decide +kernel
theorem dL_law_318 : decode cL_law 318 = .ok (.iadd, 1) := by decide +kernel
theorem dL_law_319 : decode cL_law 319 = .ok (.iaload, 1) := by decide +kernel
theorem dL_law_320 : decode cL_law 320 = .ok (.invokevirtual 35, 3) := by decide +kernel
theorem dL_law_323 : decode cL_law 323 = .ok (.aload_n 2, 1) := by decide +kernel
theorem dL_law_324 : decode cL_law 324 = .ok (.aload_n 0, 1) := by decide +kernel
theorem dL_law_325 : decode cL_law 325 = .ok (.iload_n 3, 1) := by decide +kernel
theorem dL_law_326 : decode cL_law 326 = .ok (.iconst 1, 1) := by decide +kernel
theorem dL_law_327 : decode cL_law 327 = .ok (.iadd, 1) := by decide +kernel
theorem dL_law_328 : decode cL_law 328 = .ok (.iaload, 1) := by decide +kernel
theorem dL_law_329 : decode cL_law 329 = .ok (.aload_n 0, 1) := by decide +kernel
theorem dL_law_330 : decode cL_law 330 = .ok (.iload_n 3, 1) := by decide +kernel
theorem dL_law_331 : decode cL_law 331 = .ok (.iconst 2, 1) := by decide +kernel
theorem dL_law_332 : decode cL_law 332 = .ok (.iadd, 1) := by decide +kernel
theorem dL_law_333 : decode cL_law 333 = .ok (.iaload, 1) := by decide +kernel
theorem dL_law_334 : decode cL_law 334 = .ok (.invokevirtual 38, 3) := by decide +kernel
theorem dL_law_337 : decode cL_law 337 = .ok (.if_icmp .eq 901, 3) := by decide +kernel
theorem dL_law_340 : decode cL_law 340 = .ok (.iconst 0, 1) := by decide +kernel
theorem dL_law_341 : decode cL_law 341 = .ok (.ireturn, 1) := by decide +kernel
theorem dL_law_342 : decode cL_law 342 = .ok (.aload_n 1, 1) := by decide +kernel
theorem dL_law_343 : decode cL_law 343 = .ok (.aload_n 0, 1) := by decide +kernel
theorem dL_law_344 : decode cL_law 344 = .ok (.iload_n 3, 1) := by decide +kernel
theorem dL_law_345 : decode cL_law 345 = .ok (.iconst 1, 1) := by decide +kernel
theorem dL_law_346 : decode cL_law 346 = .ok (.iadd, 1) := by decide +kernel
theorem dL_law_347 : decode cL_law 347 = .ok (.iaload, 1) := by decide +kernel
theorem dL_law_348 : decode cL_law 348 = .ok (.aload_n 0, 1) := by decide +kernel
theorem dL_law_349 : decode cL_law 349 = .ok (.iload_n 3, 1) := by decide +kernel
theorem dL_law_350 : decode cL_law 350 = .ok (.iconst 2, 1) := by decide +kernel
theorem dL_law_351 : decode cL_law 351 = .ok (.iadd, 1) := by decide +kernel
theorem dL_law_352 : decode cL_law 352 = .ok (.iaload, 1) := by decide +kernel
theorem dL_law_353 : decode cL_law 353 = .ok (.invokevirtual 39, 3) := by decide +kernel
theorem dL_law_356 : decode cL_law 356 = .ok (.aload_n 2, 1) := by decide +kernel
theorem dL_law_357 : decode cL_law 357 = .ok (.aload_n 0, 1) := by decide +kernel
theorem dL_law_358 : decode cL_law 358 = .ok (.iload_n 3, 1) := by decide +kernel
theorem dL_law_359 : decode cL_law 359 = .ok (.iconst 1, 1) := by decide +kernel
theorem dL_law_360 : decode cL_law 360 = .ok (.iadd, 1) := by decide +kernel
theorem dL_law_361 : decode cL_law 361 = .ok (.iaload, 1) := by decide +kernel
theorem dL_law_362 : decode cL_law 362 = .ok (.aload_n 0, 1) := by decide +kernel
theorem dL_law_363 : decode cL_law 363 = .ok (.iload_n 3, 1) := by decide +kernel
theorem dL_law_364 : decode cL_law 364 = .ok (.iconst 2, 1) := by decide +kernel
theorem dL_law_365 : decode cL_law 365 = .ok (.iadd, 1) := by decide +kernel
theorem dL_law_366 : decode cL_law 366 = .ok (.iaload, 1) := by decide +kernel
theorem dL_law_367 : decode cL_law 367 = .ok (.invokevirtual 42, 3) := by decide +kernel
theorem dL_law_370 : decode cL_law 370 = .ok (.if_icmp .eq 868, 3) := by decide +kernel
theorem dL_law_373 : decode cL_law 373 = .ok (.iconst 0, 1) := by decide +kernel
theorem dL_law_374 : decode cL_law 374 = .ok (.ireturn, 1) := by decide +kernel
theorem dL_law_375 : decode cL_law 375 = .ok (.aload_n 1, 1) := by decide +kernel
theorem dL_law_376 : decode cL_law 376 = .ok (.aload_n 0, 1) := by decide +kernel
theorem dL_law_377 : decode cL_law 377 = .ok (.iload_n 3, 1) := by decide +kernel
theorem dL_law_378 : decode cL_law 378 = .ok (.iconst 1, 1) := by decide +kernel
theorem dL_law_379 : decode cL_law 379 = .ok (.iadd, 1) := by decide +kernel
theorem dL_law_380 : decode cL_law 380 = .ok (.iaload, 1) := by decide +kernel
theorem dL_law_381 : decode cL_law 381 = .ok (.aload_n 0, 1) := by decide +kernel
theorem dL_law_382 : decode cL_law 382 = .ok (.iload_n 3, 1) := by decide +kernel
theorem dL_law_383 : decode cL_law 383 = .ok (.iconst 2, 1) := by decide +kernel
theorem dL_law_384 : decode cL_law 384 = .ok (.iadd, 1) := by decide +kernel
theorem dL_law_385 : decode cL_law 385 = .ok (.iaload, 1) := by decide +kernel
theorem dL_law_386 : decode cL_law 386 = .ok (.invokevirtual 43, 3) := by decide +kernel
theorem dL_law_389 : decode cL_law 389 = .ok (.aload_n 2, 1) := by decide +kernel
theorem dL_law_390 : decode cL_law 390 = .ok (.aload_n 0, 1) := by decide +kernel
theorem dL_law_391 : decode cL_law 391 = .ok (.iload_n 3, 1) := by decide +kernel
theorem dL_law_392 : decode cL_law 392 = .ok (.iconst 1, 1) := by decide +kernel
theorem dL_law_393 : decode cL_law 393 = .ok (.iadd, 1) := by decide +kernel
theorem dL_law_394 : decode cL_law 394 = .ok (.iaload, 1) := by decide +kernel
theorem dL_law_395 : decode cL_law 395 = .ok (.aload_n 0, 1) := by decide +kernel
theorem dL_law_396 : decode cL_law 396 = .ok (.iload_n 3, 1) := by decide +kernel
theorem dL_law_397 : decode cL_law 397 = .ok (.iconst 2, 1) := by decide +kernel
theorem dL_law_398 : decode cL_law 398 = .ok (.iadd, 1) := by decide +kernel
theorem dL_law_399 : decode cL_law 399 = .ok (.iaload, 1) := by decide +kernel
theorem dL_law_400 : decode cL_law 400 = .ok (.invokevirtual 46, 3) := by decide +kernel
theorem dL_law_403 : decode cL_law 403 = .ok (.if_icmp .eq 835, 3) := by decide +kernel
theorem dL_law_406 : decode cL_law 406 = .ok (.iconst 0, 1) := by decide +kernel
theorem dL_law_407 : decode cL_law 407 = .ok (.ireturn, 1) := by decide +kernel
theorem dL_law_408 : decode cL_law 408 = .ok (.aload_n 1, 1) := by decide +kernel
theorem dL_law_409 : decode cL_law 409 = .ok (.aload_n 0, 1) := by decide +kernel
theorem dL_law_410 : decode cL_law 410 = .ok (.iload_n 3, 1) := by decide +kernel
theorem dL_law_411 : decode cL_law 411 = .ok (.iconst 1, 1) := by decide +kernel
theorem dL_law_412 : decode cL_law 412 = .ok (.iadd, 1) := by decide +kernel
theorem dL_law_413 : decode cL_law 413 = .ok (.iaload, 1) := by decide +kernel
theorem dL_law_414 : decode cL_law 414 = .ok (.aload_n 0, 1) := by decide +kernel
theorem dL_law_415 : decode cL_law 415 = .ok (.iload_n 3, 1) := by decide +kernel
theorem dL_law_416 : decode cL_law 416 = .ok (.iconst 2, 1) := by decide +kernel
theorem dL_law_417 : decode cL_law 417 = .ok (.iadd, 1) := by decide +kernel
theorem dL_law_418 : decode cL_law 418 = .ok (.iaload, 1) := by decide +kernel
theorem dL_law_419 : decode cL_law 419 = .ok (.invokevirtual 47, 3) := by decide +kernel
theorem dL_law_422 : decode cL_law 422 = .ok (.aload_n 2, 1) := by decide +kernel
theorem dL_law_423 : decode cL_law 423 = .ok (.aload_n 0, 1) := by decide +kernel
theorem dL_law_424 : decode cL_law 424 = .ok (.iload_n 3, 1) := by decide +kernel
theorem dL_law_425 : decode cL_law 425 = .ok (.iconst 1, 1) := by decide +kernel
theorem dL_law_426 : decode cL_law 426 = .ok (.iadd, 1) := by decide +kernel
theorem dL_law_427 : decode cL_law 427 = .ok (.iaload, 1) := by decide +kernel
theorem dL_law_428 : decode cL_law 428 = .ok (.aload_n 0, 1) := by decide +kernel
theorem dL_law_429 : decode cL_law 429 = .ok (.iload_n 3, 1) := by decide +kernel
theorem dL_law_430 : decode cL_law 430 = .ok (.iconst 2, 1) := by decide +kernel
theorem dL_law_431 : decode cL_law 431 = .ok (.iadd, 1) := by decide +kernel
theorem dL_law_432 : decode cL_law 432 = .ok (.iaload, 1) := by decide +kernel
theorem dL_law_433 : decode cL_law 433 = .ok (.invokevirtual 50, 3) := by decide +kernel
theorem dL_law_436 : decode cL_law 436 = .ok (.if_icmp .eq 802, 3) := by decide +kernel
theorem dL_law_439 : decode cL_law 439 = .ok (.iconst 0, 1) := by decide +kernel
theorem dL_law_440 : decode cL_law 440 = .ok (.ireturn, 1) := by decide +kernel
theorem dL_law_441 : decode cL_law 441 = .ok (.aload_n 1, 1) := by decide +kernel
theorem dL_law_442 : decode cL_law 442 = .ok (.aload_n 0, 1) := by decide +kernel
theorem dL_law_443 : decode cL_law 443 = .ok (.iload_n 3, 1) := by decide +kernel
theorem dL_law_444 : decode cL_law 444 = .ok (.iconst 1, 1) := by decide +kernel
theorem dL_law_445 : decode cL_law 445 = .ok (.iadd, 1) := by decide +kernel
theorem dL_law_446 : decode cL_law 446 = .ok (.iaload, 1) := by decide +kernel
theorem dL_law_447 : decode cL_law 447 = .ok (.invokevirtual 51, 3) := by decide +kernel
theorem dL_law_450 : decode cL_law 450 = .ok (.aload_n 2, 1) := by decide +kernel
theorem dL_law_451 : decode cL_law 451 = .ok (.aload_n 0, 1) := by decide +kernel
theorem dL_law_452 : decode cL_law 452 = .ok (.iload_n 3, 1) := by decide +kernel
theorem dL_law_453 : decode cL_law 453 = .ok (.iconst 1, 1) := by decide +kernel
theorem dL_law_454 : decode cL_law 454 = .ok (.iadd, 1) := by decide +kernel
theorem dL_law_455 : decode cL_law 455 = .ok (.iaload, 1) := by decide +kernel
theorem dL_law_456 : decode cL_law 456 = .ok (.invokevirtual 54, 3) := by decide +kernel
theorem dL_law_459 : decode cL_law 459 = .ok (.if_icmp .eq 779, 3) := by decide +kernel
theorem dL_law_462 : decode cL_law 462 = .ok (.iconst 0, 1) := by decide +kernel
theorem dL_law_463 : decode cL_law 463 = .ok (.ireturn, 1) := by decide +kernel
theorem dL_law_464 : decode cL_law 464 = .ok (.aload_n 1, 1) := by decide +kernel
theorem dL_law_465 : decode cL_law 465 = .ok (.aload_n 0, 1) := by decide +kernel
theorem dL_law_466 : decode cL_law 466 = .ok (.iload_n 3, 1) := by decide +kernel
theorem dL_law_467 : decode cL_law 467 = .ok (.iconst 1, 1) := by decide +kernel
theorem dL_law_468 : decode cL_law 468 = .ok (.iadd, 1) := by decide +kernel
theorem dL_law_469 : decode cL_law 469 = .ok (.iaload, 1) := by decide +kernel
theorem dL_law_470 : decode cL_law 470 = .ok (.invokevirtual 55, 3) := by decide +kernel
theorem dL_law_473 : decode cL_law 473 = .ok (.aload_n 2, 1) := by decide +kernel
theorem dL_law_474 : decode cL_law 474 = .ok (.aload_n 0, 1) := by decide +kernel
theorem dL_law_475 : decode cL_law 475 = .ok (.iload_n 3, 1) := by decide +kernel
theorem dL_law_476 : decode cL_law 476 = .ok (.iconst 1, 1) := by decide +kernel
theorem dL_law_477 : decode cL_law 477 = .ok (.iadd, 1) := by decide +kernel
theorem dL_law_478 : decode cL_law 478 = .ok (.iaload, 1) := by decide +kernel
theorem dL_law_479 : decode cL_law 479 = .ok (.invokevirtual 58, 3) := by decide +kernel
theorem dL_law_482 : decode cL_law 482 = .ok (.if_icmp .eq 756, 3) := by decide +kernel
theorem dL_law_485 : decode cL_law 485 = .ok (.iconst 0, 1) := by decide +kernel
theorem dL_law_486 : decode cL_law 486 = .ok (.ireturn, 1) := by decide +kernel
theorem dL_law_487 : decode cL_law 487 = .ok (.aload_n 1, 1) := by decide +kernel
theorem dL_law_488 : decode cL_law 488 = .ok (.aload_n 0, 1) := by decide +kernel
theorem dL_law_489 : decode cL_law 489 = .ok (.iload_n 3, 1) := by decide +kernel
theorem dL_law_490 : decode cL_law 490 = .ok (.iconst 1, 1) := by decide +kernel
theorem dL_law_491 : decode cL_law 491 = .ok (.iadd, 1) := by decide +kernel
theorem dL_law_492 : decode cL_law 492 = .ok (.iaload, 1) := by decide +kernel
theorem dL_law_493 : decode cL_law 493 = .ok (.invokevirtual 59, 3) := by decide +kernel
theorem dL_law_496 : decode cL_law 496 = .ok (.aload_n 2, 1) := by decide +kernel
theorem dL_law_497 : decode cL_law 497 = .ok (.aload_n 0, 1) := by decide +kernel
theorem dL_law_498 : decode cL_law 498 = .ok (.iload_n 3, 1) := by decide +kernel
theorem dL_law_499 : decode cL_law 499 = .ok (.iconst 1, 1) := by decide +kernel
theorem dL_law_500 : decode cL_law 500 = .ok (.iadd, 1) := by decide +kernel
theorem dL_law_501 : decode cL_law 501 = .ok (.iaload, 1) := by decide +kernel
theorem dL_law_502 : decode cL_law 502 = .ok (.invokevirtual 62, 3) := by decide +kernel
theorem dL_law_505 : decode cL_law 505 = .ok (.if_icmp .eq 733, 3) := by decide +kernel
theorem dL_law_508 : decode cL_law 508 = .ok (.iconst 0, 1) := by decide +kernel
theorem dL_law_509 : decode cL_law 509 = .ok (.ireturn, 1) := by decide +kernel
theorem dL_law_510 : decode cL_law 510 = .ok (.aload_n 1, 1) := by decide +kernel
theorem dL_law_511 : decode cL_law 511 = .ok (.aload_n 0, 1) := by decide +kernel
theorem dL_law_512 : decode cL_law 512 = .ok (.iload_n 3, 1) := by decide +kernel
theorem dL_law_513 : decode cL_law 513 = .ok (.iconst 1, 1) := by decide +kernel
theorem dL_law_514 : decode cL_law 514 = .ok (.iadd, 1) := by decide +kernel
theorem dL_law_515 : decode cL_law 515 = .ok (.iaload, 1) := by decide +kernel
theorem dL_law_516 : decode cL_law 516 = .ok (.aload_n 0, 1) := by decide +kernel
theorem dL_law_517 : decode cL_law 517 = .ok (.iload_n 3, 1) := by decide +kernel
theorem dL_law_518 : decode cL_law 518 = .ok (.iconst 2, 1) := by decide +kernel
theorem dL_law_519 : decode cL_law 519 = .ok (.iadd, 1) := by decide +kernel
theorem dL_law_520 : decode cL_law 520 = .ok (.iaload, 1) := by decide +kernel
theorem dL_law_521 : decode cL_law 521 = .ok (.invokevirtual 63, 3) := by decide +kernel
theorem dL_law_524 : decode cL_law 524 = .ok (.aload_n 2, 1) := by decide +kernel
theorem dL_law_525 : decode cL_law 525 = .ok (.aload_n 0, 1) := by decide +kernel
theorem dL_law_526 : decode cL_law 526 = .ok (.iload_n 3, 1) := by decide +kernel
theorem dL_law_527 : decode cL_law 527 = .ok (.iconst 1, 1) := by decide +kernel
theorem dL_law_528 : decode cL_law 528 = .ok (.iadd, 1) := by decide +kernel
theorem dL_law_529 : decode cL_law 529 = .ok (.iaload, 1) := by decide +kernel
theorem dL_law_530 : decode cL_law 530 = .ok (.aload_n 0, 1) := by decide +kernel
theorem dL_law_531 : decode cL_law 531 = .ok (.iload_n 3, 1) := by decide +kernel
theorem dL_law_532 : decode cL_law 532 = .ok (.iconst 2, 1) := by decide +kernel
theorem dL_law_533 : decode cL_law 533 = .ok (.iadd, 1) := by decide +kernel
theorem dL_law_534 : decode cL_law 534 = .ok (.iaload, 1) := by decide +kernel
theorem dL_law_535 : decode cL_law 535 = .ok (.invokevirtual 66, 3) := by decide +kernel
theorem dL_law_538 : decode cL_law 538 = .ok (.if_icmp .eq 700, 3) := by decide +kernel
theorem dL_law_541 : decode cL_law 541 = .ok (.iconst 0, 1) := by decide +kernel
theorem dL_law_542 : decode cL_law 542 = .ok (.ireturn, 1) := by decide +kernel
theorem dL_law_543 : decode cL_law 543 = .ok (.aload_n 1, 1) := by decide +kernel
theorem dL_law_544 : decode cL_law 544 = .ok (.aload_n 0, 1) := by decide +kernel
theorem dL_law_545 : decode cL_law 545 = .ok (.iload_n 3, 1) := by decide +kernel
theorem dL_law_546 : decode cL_law 546 = .ok (.iconst 1, 1) := by decide +kernel
theorem dL_law_547 : decode cL_law 547 = .ok (.iadd, 1) := by decide +kernel
theorem dL_law_548 : decode cL_law 548 = .ok (.iaload, 1) := by decide +kernel
theorem dL_law_549 : decode cL_law 549 = .ok (.aload_n 0, 1) := by decide +kernel
theorem dL_law_550 : decode cL_law 550 = .ok (.iload_n 3, 1) := by decide +kernel
theorem dL_law_551 : decode cL_law 551 = .ok (.iconst 2, 1) := by decide +kernel
theorem dL_law_552 : decode cL_law 552 = .ok (.iadd, 1) := by decide +kernel
theorem dL_law_553 : decode cL_law 553 = .ok (.iaload, 1) := by decide +kernel
theorem dL_law_554 : decode cL_law 554 = .ok (.invokevirtual 67, 3) := by decide +kernel
theorem dL_law_557 : decode cL_law 557 = .ok (.aload_n 2, 1) := by decide +kernel
theorem dL_law_558 : decode cL_law 558 = .ok (.aload_n 0, 1) := by decide +kernel
theorem dL_law_559 : decode cL_law 559 = .ok (.iload_n 3, 1) := by decide +kernel
theorem dL_law_560 : decode cL_law 560 = .ok (.iconst 1, 1) := by decide +kernel
theorem dL_law_561 : decode cL_law 561 = .ok (.iadd, 1) := by decide +kernel
theorem dL_law_562 : decode cL_law 562 = .ok (.iaload, 1) := by decide +kernel
theorem dL_law_563 : decode cL_law 563 = .ok (.aload_n 0, 1) := by decide +kernel
theorem dL_law_564 : decode cL_law 564 = .ok (.iload_n 3, 1) := by decide +kernel
theorem dL_law_565 : decode cL_law 565 = .ok (.iconst 2, 1) := by decide +kernel
theorem dL_law_566 : decode cL_law 566 = .ok (.iadd, 1) := by decide +kernel
theorem dL_law_567 : decode cL_law 567 = .ok (.iaload, 1) := by decide +kernel
theorem dL_law_568 : decode cL_law 568 = .ok (.invokevirtual 70, 3) := by decide +kernel
theorem dL_law_571 : decode cL_law 571 = .ok (.if_icmp .eq 667, 3) := by decide +kernel
theorem dL_law_574 : decode cL_law 574 = .ok (.iconst 0, 1) := by decide +kernel
theorem dL_law_575 : decode cL_law 575 = .ok (.ireturn, 1) := by decide +kernel
theorem dL_law_576 : decode cL_law 576 = .ok (.aload_n 1, 1) := by decide +kernel
theorem dL_law_577 : decode cL_law 577 = .ok (.aload_n 0, 1) := by decide +kernel
theorem dL_law_578 : decode cL_law 578 = .ok (.iload_n 3, 1) := by decide +kernel
theorem dL_law_579 : decode cL_law 579 = .ok (.iconst 1, 1) := by decide +kernel
theorem dL_law_580 : decode cL_law 580 = .ok (.iadd, 1) := by decide +kernel
theorem dL_law_581 : decode cL_law 581 = .ok (.iaload, 1) := by decide +kernel
theorem dL_law_582 : decode cL_law 582 = .ok (.invokevirtual 71, 3) := by decide +kernel
theorem dL_law_585 : decode cL_law 585 = .ok (.aload_n 2, 1) := by decide +kernel
theorem dL_law_586 : decode cL_law 586 = .ok (.aload_n 0, 1) := by decide +kernel
theorem dL_law_587 : decode cL_law 587 = .ok (.iload_n 3, 1) := by decide +kernel
theorem dL_law_588 : decode cL_law 588 = .ok (.iconst 1, 1) := by decide +kernel
theorem dL_law_589 : decode cL_law 589 = .ok (.iadd, 1) := by decide +kernel
theorem dL_law_590 : decode cL_law 590 = .ok (.iaload, 1) := by decide +kernel
theorem dL_law_591 : decode cL_law 591 = .ok (.invokevirtual 74, 3) := by decide +kernel
theorem dL_law_594 : decode cL_law 594 = .ok (.if_icmp .eq 644, 3) := by decide +kernel
theorem dL_law_597 : decode cL_law 597 = .ok (.iconst 0, 1) := by decide +kernel
theorem dL_law_598 : decode cL_law 598 = .ok (.ireturn, 1) := by decide +kernel
theorem dL_law_599 : decode cL_law 599 = .ok (.aload_n 1, 1) := by decide +kernel
theorem dL_law_600 : decode cL_law 600 = .ok (.invokevirtual 75, 3) := by decide +kernel
theorem dL_law_603 : decode cL_law 603 = .ok (.aload_n 2, 1) := by decide +kernel
theorem dL_law_604 : decode cL_law 604 = .ok (.invokevirtual 79, 3) := by decide +kernel
theorem dL_law_607 : decode cL_law 607 = .ok (.if_icmp .eq 631, 3) := by decide +kernel
theorem dL_law_610 : decode cL_law 610 = .ok (.iconst 0, 1) := by decide +kernel
theorem dL_law_611 : decode cL_law 611 = .ok (.ireturn, 1) := by decide +kernel
theorem dL_law_612 : decode cL_law 612 = .ok (.aload_n 1, 1) := by decide +kernel
theorem dL_law_613 : decode cL_law 613 = .ok (.aload_n 0, 1) := by decide +kernel
theorem dL_law_614 : decode cL_law 614 = .ok (.iload_n 3, 1) := by decide +kernel
theorem dL_law_615 : decode cL_law 615 = .ok (.iconst 1, 1) := by decide +kernel
theorem dL_law_616 : decode cL_law 616 = .ok (.iadd, 1) := by decide +kernel
theorem dL_law_617 : decode cL_law 617 = .ok (.iaload, 1) := by decide +kernel
theorem dL_law_618 : decode cL_law 618 = .ok (.aload_n 0, 1) := by decide +kernel
theorem dL_law_619 : decode cL_law 619 = .ok (.iload_n 3, 1) := by decide +kernel
theorem dL_law_620 : decode cL_law 620 = .ok (.iconst 2, 1) := by decide +kernel
theorem dL_law_621 : decode cL_law 621 = .ok (.iadd, 1) := by decide +kernel
theorem dL_law_622 : decode cL_law 622 = .ok (.iaload, 1) := by decide +kernel
theorem dL_law_623 : decode cL_law 623 = .ok (.invokevirtual 80, 3) := by decide +kernel
theorem dL_law_626 : decode cL_law 626 = .ok (.aload_n 2, 1) := by decide +kernel
theorem dL_law_627 : decode cL_law 627 = .ok (.aload_n 0, 1) := by decide +kernel
theorem dL_law_628 : decode cL_law 628 = .ok (.iload_n 3, 1) := by decide +kernel
theorem dL_law_629 : decode cL_law 629 = .ok (.iconst 1, 1) := by decide +kernel
theorem dL_law_630 : decode cL_law 630 = .ok (.iadd, 1) := by decide +kernel
theorem dL_law_631 : decode cL_law 631 = .ok (.iaload, 1) := by decide +kernel
theorem dL_law_632 : decode cL_law 632 = .ok (.aload_n 0, 1) := by decide +kernel
theorem dL_law_633 : decode cL_law 633 = .ok (.iload_n 3, 1) := by decide +kernel
theorem dL_law_634 : decode cL_law 634 = .ok (.iconst 2, 1) := by decide +kernel
theorem dL_law_635 : decode cL_law 635 = .ok (.iadd, 1) := by decide +kernel
theorem dL_law_636 : decode cL_law 636 = .ok (.iaload, 1) := by decide +kernel
theorem dL_law_637 : decode cL_law 637 = .ok (.invokevirtual 83, 3) := by decide +kernel
theorem dL_law_640 : decode cL_law 640 = .ok (.if_icmp .eq 598, 3) := by decide +kernel
theorem dL_law_643 : decode cL_law 643 = .ok (.iconst 0, 1) := by decide +kernel
theorem dL_law_644 : decode cL_law 644 = .ok (.ireturn, 1) := by decide +kernel
theorem dL_law_645 : decode cL_law 645 = .ok (.aload_n 1, 1) := by decide +kernel
theorem dL_law_646 : decode cL_law 646 = .ok (.aload_n 0, 1) := by decide +kernel
theorem dL_law_647 : decode cL_law 647 = .ok (.iload_n 3, 1) := by decide +kernel
theorem dL_law_648 : decode cL_law 648 = .ok (.iconst 1, 1) := by decide +kernel
theorem dL_law_649 : decode cL_law 649 = .ok (.iadd, 1) := by decide +kernel
theorem dL_law_650 : decode cL_law 650 = .ok (.iaload, 1) := by decide +kernel
theorem dL_law_651 : decode cL_law 651 = .ok (.aload_n 0, 1) := by decide +kernel
theorem dL_law_652 : decode cL_law 652 = .ok (.iload_n 3, 1) := by decide +kernel
theorem dL_law_653 : decode cL_law 653 = .ok (.iconst 2, 1) := by decide +kernel
theorem dL_law_654 : decode cL_law 654 = .ok (.iadd, 1) := by decide +kernel
theorem dL_law_655 : decode cL_law 655 = .ok (.iaload, 1) := by decide +kernel
theorem dL_law_656 : decode cL_law 656 = .ok (.invokevirtual 84, 3) := by decide +kernel
theorem dL_law_659 : decode cL_law 659 = .ok (.aload_n 2, 1) := by decide +kernel
theorem dL_law_660 : decode cL_law 660 = .ok (.aload_n 0, 1) := by decide +kernel
theorem dL_law_661 : decode cL_law 661 = .ok (.iload_n 3, 1) := by decide +kernel
theorem dL_law_662 : decode cL_law 662 = .ok (.iconst 1, 1) := by decide +kernel
theorem dL_law_663 : decode cL_law 663 = .ok (.iadd, 1) := by decide +kernel
theorem dL_law_664 : decode cL_law 664 = .ok (.iaload, 1) := by decide +kernel
theorem dL_law_665 : decode cL_law 665 = .ok (.aload_n 0, 1) := by decide +kernel
theorem dL_law_666 : decode cL_law 666 = .ok (.iload_n 3, 1) := by decide +kernel
theorem dL_law_667 : decode cL_law 667 = .ok (.iconst 2, 1) := by decide +kernel
theorem dL_law_668 : decode cL_law 668 = .ok (.iadd, 1) := by decide +kernel
theorem dL_law_669 : decode cL_law 669 = .ok (.iaload, 1) := by decide +kernel
theorem dL_law_670 : decode cL_law 670 = .ok (.invokevirtual 87, 3) := by decide +kernel
theorem dL_law_673 : decode cL_law 673 = .ok (.if_icmp .eq 565, 3) := by decide +kernel
theorem dL_law_676 : decode cL_law 676 = .ok (.iconst 0, 1) := by decide +kernel
theorem dL_law_677 : decode cL_law 677 = .ok (.ireturn, 1) := by decide +kernel
theorem dL_law_678 : decode cL_law 678 = .ok (.aload_n 1, 1) := by decide +kernel
theorem dL_law_679 : decode cL_law 679 = .ok (.aload_n 0, 1) := by decide +kernel
theorem dL_law_680 : decode cL_law 680 = .ok (.iload_n 3, 1) := by decide +kernel
theorem dL_law_681 : decode cL_law 681 = .ok (.iconst 1, 1) := by decide +kernel
theorem dL_law_682 : decode cL_law 682 = .ok (.iadd, 1) := by decide +kernel
theorem dL_law_683 : decode cL_law 683 = .ok (.iaload, 1) := by decide +kernel
theorem dL_law_684 : decode cL_law 684 = .ok (.aload_n 0, 1) := by decide +kernel
theorem dL_law_685 : decode cL_law 685 = .ok (.iload_n 3, 1) := by decide +kernel
theorem dL_law_686 : decode cL_law 686 = .ok (.iconst 2, 1) := by decide +kernel
theorem dL_law_687 : decode cL_law 687 = .ok (.iadd, 1) := by decide +kernel
theorem dL_law_688 : decode cL_law 688 = .ok (.iaload, 1) := by decide +kernel
theorem dL_law_689 : decode cL_law 689 = .ok (.aload_n 0, 1) := by decide +kernel
theorem dL_law_690 : decode cL_law 690 = .ok (.iload_n 3, 1) := by decide +kernel
theorem dL_law_691 : decode cL_law 691 = .ok (.iconst 3, 1) := by decide +kernel
theorem dL_law_692 : decode cL_law 692 = .ok (.iadd, 1) := by decide +kernel
theorem dL_law_693 : decode cL_law 693 = .ok (.iaload, 1) := by decide +kernel
theorem dL_law_694 : decode cL_law 694 = .ok (.aload_n 0, 1) := by decide +kernel
theorem dL_law_695 : decode cL_law 695 = .ok (.iload_n 3, 1) := by decide +kernel
theorem dL_law_696 : decode cL_law 696 = .ok (.iconst 4, 1) := by decide +kernel
theorem dL_law_697 : decode cL_law 697 = .ok (.iadd, 1) := by decide +kernel
theorem dL_law_698 : decode cL_law 698 = .ok (.iaload, 1) := by decide +kernel
theorem dL_law_699 : decode cL_law 699 = .ok (.invokevirtual 88, 3) := by decide +kernel
theorem dL_law_702 : decode cL_law 702 = .ok (.aload_n 2, 1) := by decide +kernel
theorem dL_law_703 : decode cL_law 703 = .ok (.aload_n 0, 1) := by decide +kernel
theorem dL_law_704 : decode cL_law 704 = .ok (.iload_n 3, 1) := by decide +kernel
theorem dL_law_705 : decode cL_law 705 = .ok (.iconst 1, 1) := by decide +kernel
theorem dL_law_706 : decode cL_law 706 = .ok (.iadd, 1) := by decide +kernel
theorem dL_law_707 : decode cL_law 707 = .ok (.iaload, 1) := by decide +kernel
theorem dL_law_708 : decode cL_law 708 = .ok (.aload_n 0, 1) := by decide +kernel
theorem dL_law_709 : decode cL_law 709 = .ok (.iload_n 3, 1) := by decide +kernel
theorem dL_law_710 : decode cL_law 710 = .ok (.iconst 2, 1) := by decide +kernel
theorem dL_law_711 : decode cL_law 711 = .ok (.iadd, 1) := by decide +kernel
theorem dL_law_712 : decode cL_law 712 = .ok (.iaload, 1) := by decide +kernel
theorem dL_law_713 : decode cL_law 713 = .ok (.aload_n 0, 1) := by decide +kernel
theorem dL_law_714 : decode cL_law 714 = .ok (.iload_n 3, 1) := by decide +kernel
theorem dL_law_715 : decode cL_law 715 = .ok (.iconst 3, 1) := by decide +kernel
theorem dL_law_716 : decode cL_law 716 = .ok (.iadd, 1) := by decide +kernel
theorem dL_law_717 : decode cL_law 717 = .ok (.iaload, 1) := by decide +kernel
theorem dL_law_718 : decode cL_law 718 = .ok (.aload_n 0, 1) := by decide +kernel
theorem dL_law_719 : decode cL_law 719 = .ok (.iload_n 3, 1) := by decide +kernel
theorem dL_law_720 : decode cL_law 720 = .ok (.iconst 4, 1) := by decide +kernel
theorem dL_law_721 : decode cL_law 721 = .ok (.iadd, 1) := by decide +kernel
theorem dL_law_722 : decode cL_law 722 = .ok (.iaload, 1) := by decide +kernel
theorem dL_law_723 : decode cL_law 723 = .ok (.invokevirtual 92, 3) := by decide +kernel
theorem dL_law_726 : decode cL_law 726 = .ok (.if_icmp .eq 512, 3) := by decide +kernel
theorem dL_law_729 : decode cL_law 729 = .ok (.iconst 0, 1) := by decide +kernel
theorem dL_law_730 : decode cL_law 730 = .ok (.ireturn, 1) := by decide +kernel
theorem dL_law_731 : decode cL_law 731 = .ok (.aload_n 1, 1) := by decide +kernel
theorem dL_law_732 : decode cL_law 732 = .ok (.aload_n 0, 1) := by decide +kernel
theorem dL_law_733 : decode cL_law 733 = .ok (.iload_n 3, 1) := by decide +kernel
theorem dL_law_734 : decode cL_law 734 = .ok (.iconst 1, 1) := by decide +kernel
theorem dL_law_735 : decode cL_law 735 = .ok (.iadd, 1) := by decide +kernel
theorem dL_law_736 : decode cL_law 736 = .ok (.iaload, 1) := by decide +kernel
theorem dL_law_737 : decode cL_law 737 = .ok (.aload_n 0, 1) := by decide +kernel
theorem dL_law_738 : decode cL_law 738 = .ok (.iload_n 3, 1) := by decide +kernel
theorem dL_law_739 : decode cL_law 739 = .ok (.iconst 2, 1) := by decide +kernel
theorem dL_law_740 : decode cL_law 740 = .ok (.iadd, 1) := by decide +kernel
theorem dL_law_741 : decode cL_law 741 = .ok (.iaload, 1) := by decide +kernel
theorem dL_law_742 : decode cL_law 742 = .ok (.invokevirtual 93, 3) := by decide +kernel
theorem dL_law_745 : decode cL_law 745 = .ok (.aload_n 2, 1) := by decide +kernel
theorem dL_law_746 : decode cL_law 746 = .ok (.aload_n 0, 1) := by decide +kernel
theorem dL_law_747 : decode cL_law 747 = .ok (.iload_n 3, 1) := by decide +kernel
theorem dL_law_748 : decode cL_law 748 = .ok (.iconst 1, 1) := by decide +kernel
theorem dL_law_749 : decode cL_law 749 = .ok (.iadd, 1) := by decide +kernel
theorem dL_law_750 : decode cL_law 750 = .ok (.iaload, 1) := by decide +kernel
theorem dL_law_751 : decode cL_law 751 = .ok (.aload_n 0, 1) := by decide +kernel
theorem dL_law_752 : decode cL_law 752 = .ok (.iload_n 3, 1) := by decide +kernel
theorem dL_law_753 : decode cL_law 753 = .ok (.iconst 2, 1) := by decide +kernel
theorem dL_law_754 : decode cL_law 754 = .ok (.iadd, 1) := by decide +kernel
theorem dL_law_755 : decode cL_law 755 = .ok (.iaload, 1) := by decide +kernel
theorem dL_law_756 : decode cL_law 756 = .ok (.invokevirtual 96, 3) := by decide +kernel
theorem dL_law_759 : decode cL_law 759 = .ok (.if_icmp .eq 479, 3) := by decide +kernel
theorem dL_law_762 : decode cL_law 762 = .ok (.iconst 0, 1) := by decide +kernel
theorem dL_law_763 : decode cL_law 763 = .ok (.ireturn, 1) := by decide +kernel
theorem dL_law_764 : decode cL_law 764 = .ok (.aload_n 1, 1) := by decide +kernel
theorem dL_law_765 : decode cL_law 765 = .ok (.invokevirtual 97, 3) := by decide +kernel
theorem dL_law_768 : decode cL_law 768 = .ok (.aload_n 2, 1) := by decide +kernel
theorem dL_law_769 : decode cL_law 769 = .ok (.invokevirtual 100, 3) := by decide +kernel
theorem dL_law_772 : decode cL_law 772 = .ok (.if_icmp .eq 466, 3) := by decide +kernel
theorem dL_law_775 : decode cL_law 775 = .ok (.iconst 0, 1) := by decide +kernel
theorem dL_law_776 : decode cL_law 776 = .ok (.ireturn, 1) := by decide +kernel
theorem dL_law_777 : decode cL_law 777 = .ok (.aload_n 1, 1) := by decide +kernel
theorem dL_law_778 : decode cL_law 778 = .ok (.invokevirtual 101, 3) := by decide +kernel
theorem dL_law_781 : decode cL_law 781 = .ok (.aload_n 2, 1) := by decide +kernel
theorem dL_law_782 : decode cL_law 782 = .ok (.invokevirtual 104, 3) := by decide +kernel
theorem dL_law_785 : decode cL_law 785 = .ok (.if_icmp .eq 453, 3) := by decide +kernel
theorem dL_law_788 : decode cL_law 788 = .ok (.iconst 0, 1) := by decide +kernel
theorem dL_law_789 : decode cL_law 789 = .ok (.ireturn, 1) := by decide +kernel
theorem dL_law_790 : decode cL_law 790 = .ok (.aload_n 1, 1) := by decide +kernel
theorem dL_law_791 : decode cL_law 791 = .ok (.aload_n 0, 1) := by decide +kernel
theorem dL_law_792 : decode cL_law 792 = .ok (.iload_n 3, 1) := by decide +kernel
theorem dL_law_793 : decode cL_law 793 = .ok (.iconst 1, 1) := by decide +kernel
theorem dL_law_794 : decode cL_law 794 = .ok (.iadd, 1) := by decide +kernel
theorem dL_law_795 : decode cL_law 795 = .ok (.iaload, 1) := by decide +kernel
theorem dL_law_796 : decode cL_law 796 = .ok (.invokevirtual 105, 3) := by decide +kernel
theorem dL_law_799 : decode cL_law 799 = .ok (.aload_n 2, 1) := by decide +kernel
theorem dL_law_800 : decode cL_law 800 = .ok (.aload_n 0, 1) := by decide +kernel
theorem dL_law_801 : decode cL_law 801 = .ok (.iload_n 3, 1) := by decide +kernel
theorem dL_law_802 : decode cL_law 802 = .ok (.iconst 1, 1) := by decide +kernel
theorem dL_law_803 : decode cL_law 803 = .ok (.iadd, 1) := by decide +kernel
theorem dL_law_804 : decode cL_law 804 = .ok (.iaload, 1) := by decide +kernel
theorem dL_law_805 : decode cL_law 805 = .ok (.invokevirtual 108, 3) := by decide +kernel
theorem dL_law_808 : decode cL_law 808 = .ok (.if_icmp .eq 430, 3) := by decide +kernel
theorem dL_law_811 : decode cL_law 811 = .ok (.iconst 0, 1) := by decide +kernel
theorem dL_law_812 : decode cL_law 812 = .ok (.ireturn, 1) := by decide +kernel
theorem dL_law_813 : decode cL_law 813 = .ok (.aload_n 1, 1) := by decide +kernel
theorem dL_law_814 : decode cL_law 814 = .ok (.aload_n 0, 1) := by decide +kernel
theorem dL_law_815 : decode cL_law 815 = .ok (.iload_n 3, 1) := by decide +kernel
theorem dL_law_816 : decode cL_law 816 = .ok (.iconst 1, 1) := by decide +kernel
theorem dL_law_817 : decode cL_law 817 = .ok (.iadd, 1) := by decide +kernel
theorem dL_law_818 : decode cL_law 818 = .ok (.iaload, 1) := by decide +kernel
theorem dL_law_819 : decode cL_law 819 = .ok (.invokevirtual 109, 3) := by decide +kernel
theorem dL_law_822 : decode cL_law 822 = .ok (.aload_n 2, 1) := by decide +kernel
theorem dL_law_823 : decode cL_law 823 = .ok (.aload_n 0, 1) := by decide +kernel
theorem dL_law_824 : decode cL_law 824 = .ok (.iload_n 3, 1) := by decide +kernel
theorem dL_law_825 : decode cL_law 825 = .ok (.iconst 1, 1) := by decide +kernel
theorem dL_law_826 : decode cL_law 826 = .ok (.iadd, 1) := by decide +kernel
theorem dL_law_827 : decode cL_law 827 = .ok (.iaload, 1) := by decide +kernel
theorem dL_law_828 : decode cL_law 828 = .ok (.invokevirtual 112, 3) := by decide +kernel
theorem dL_law_831 : decode cL_law 831 = .ok (.if_icmp .eq 407, 3) := by decide +kernel
theorem dL_law_834 : decode cL_law 834 = .ok (.iconst 0, 1) := by decide +kernel
theorem dL_law_835 : decode cL_law 835 = .ok (.ireturn, 1) := by decide +kernel
theorem dL_law_836 : decode cL_law 836 = .ok (.aload_n 1, 1) := by decide +kernel
theorem dL_law_837 : decode cL_law 837 = .ok (.aload_n 0, 1) := by decide +kernel
theorem dL_law_838 : decode cL_law 838 = .ok (.iload_n 3, 1) := by decide +kernel
theorem dL_law_839 : decode cL_law 839 = .ok (.iconst 1, 1) := by decide +kernel
theorem dL_law_840 : decode cL_law 840 = .ok (.iadd, 1) := by decide +kernel
theorem dL_law_841 : decode cL_law 841 = .ok (.iaload, 1) := by decide +kernel
theorem dL_law_842 : decode cL_law 842 = .ok (.aload_n 0, 1) := by decide +kernel
theorem dL_law_843 : decode cL_law 843 = .ok (.iload_n 3, 1) := by decide +kernel
theorem dL_law_844 : decode cL_law 844 = .ok (.iconst 2, 1) := by decide +kernel
theorem dL_law_845 : decode cL_law 845 = .ok (.iadd, 1) := by decide +kernel
theorem dL_law_846 : decode cL_law 846 = .ok (.iaload, 1) := by decide +kernel
theorem dL_law_847 : decode cL_law 847 = .ok (.aload_n 0, 1) := by decide +kernel
theorem dL_law_848 : decode cL_law 848 = .ok (.iload_n 3, 1) := by decide +kernel
theorem dL_law_849 : decode cL_law 849 = .ok (.iconst 3, 1) := by decide +kernel
theorem dL_law_850 : decode cL_law 850 = .ok (.iadd, 1) := by decide +kernel
theorem dL_law_851 : decode cL_law 851 = .ok (.iaload, 1) := by decide +kernel
theorem dL_law_852 : decode cL_law 852 = .ok (.aload_n 0, 1) := by decide +kernel
theorem dL_law_853 : decode cL_law 853 = .ok (.iload_n 3, 1) := by decide +kernel
theorem dL_law_854 : decode cL_law 854 = .ok (.iconst 4, 1) := by decide +kernel
theorem dL_law_855 : decode cL_law 855 = .ok (.iadd, 1) := by decide +kernel
theorem dL_law_856 : decode cL_law 856 = .ok (.iaload, 1) := by decide +kernel
theorem dL_law_857 : decode cL_law 857 = .ok (.aload_n 0, 1) := by decide +kernel
theorem dL_law_858 : decode cL_law 858 = .ok (.iload_n 3, 1) := by decide +kernel
theorem dL_law_859 : decode cL_law 859 = .ok (.iconst 5, 1) := by decide +kernel
theorem dL_law_860 : decode cL_law 860 = .ok (.iadd, 1) := by decide +kernel
theorem dL_law_861 : decode cL_law 861 = .ok (.iaload, 1) := by decide +kernel
theorem dL_law_862 : decode cL_law 862 = .ok (.invokevirtual 113, 3) := by decide +kernel
theorem dL_law_865 : decode cL_law 865 = .ok (.aload_n 2, 1) := by decide +kernel
theorem dL_law_866 : decode cL_law 866 = .ok (.aload_n 0, 1) := by decide +kernel
theorem dL_law_867 : decode cL_law 867 = .ok (.iload_n 3, 1) := by decide +kernel
theorem dL_law_868 : decode cL_law 868 = .ok (.iconst 1, 1) := by decide +kernel
theorem dL_law_869 : decode cL_law 869 = .ok (.iadd, 1) := by decide +kernel
theorem dL_law_870 : decode cL_law 870 = .ok (.iaload, 1) := by decide +kernel
theorem dL_law_871 : decode cL_law 871 = .ok (.aload_n 0, 1) := by decide +kernel
theorem dL_law_872 : decode cL_law 872 = .ok (.iload_n 3, 1) := by decide +kernel
theorem dL_law_873 : decode cL_law 873 = .ok (.iconst 2, 1) := by decide +kernel
theorem dL_law_874 : decode cL_law 874 = .ok (.iadd, 1) := by decide +kernel
theorem dL_law_875 : decode cL_law 875 = .ok (.iaload, 1) := by decide +kernel
theorem dL_law_876 : decode cL_law 876 = .ok (.aload_n 0, 1) := by decide +kernel
theorem dL_law_877 : decode cL_law 877 = .ok (.iload_n 3, 1) := by decide +kernel
theorem dL_law_878 : decode cL_law 878 = .ok (.iconst 3, 1) := by decide +kernel
theorem dL_law_879 : decode cL_law 879 = .ok (.iadd, 1) := by decide +kernel
theorem dL_law_880 : decode cL_law 880 = .ok (.iaload, 1) := by decide +kernel
theorem dL_law_881 : decode cL_law 881 = .ok (.aload_n 0, 1) := by decide +kernel
theorem dL_law_882 : decode cL_law 882 = .ok (.iload_n 3, 1) := by decide +kernel
theorem dL_law_883 : decode cL_law 883 = .ok (.iconst 4, 1) := by decide +kernel
theorem dL_law_884 : decode cL_law 884 = .ok (.iadd, 1) := by decide +kernel
theorem dL_law_885 : decode cL_law 885 = .ok (.iaload, 1) := by decide +kernel
theorem dL_law_886 : decode cL_law 886 = .ok (.aload_n 0, 1) := by decide +kernel
theorem dL_law_887 : decode cL_law 887 = .ok (.iload_n 3, 1) := by decide +kernel
theorem dL_law_888 : decode cL_law 888 = .ok (.iconst 5, 1) := by decide +kernel
theorem dL_law_889 : decode cL_law 889 = .ok (.iadd, 1) := by decide +kernel
theorem dL_law_890 : decode cL_law 890 = .ok (.iaload, 1) := by decide +kernel
theorem dL_law_891 : decode cL_law 891 = .ok (.invokevirtual 117, 3) := by decide +kernel
theorem dL_law_894 : decode cL_law 894 = .ok (.lcmp, 1) := by decide +kernel
theorem dL_law_895 : decode cL_law 895 = .ok (.ifCond .eq 343, 3) := by decide +kernel
theorem dL_law_898 : decode cL_law 898 = .ok (.iconst 0, 1) := by decide +kernel
theorem dL_law_899 : decode cL_law 899 = .ok (.ireturn, 1) := by decide +kernel
theorem dL_law_900 : decode cL_law 900 = .ok (.aload_n 1, 1) := by decide +kernel
theorem dL_law_901 : decode cL_law 901 = .ok (.aload_n 0, 1) := by decide +kernel
theorem dL_law_902 : decode cL_law 902 = .ok (.iload_n 3, 1) := by decide +kernel
theorem dL_law_903 : decode cL_law 903 = .ok (.iconst 1, 1) := by decide +kernel
theorem dL_law_904 : decode cL_law 904 = .ok (.iadd, 1) := by decide +kernel
theorem dL_law_905 : decode cL_law 905 = .ok (.iaload, 1) := by decide +kernel
theorem dL_law_906 : decode cL_law 906 = .ok (.aload_n 0, 1) := by decide +kernel
theorem dL_law_907 : decode cL_law 907 = .ok (.iload_n 3, 1) := by decide +kernel
theorem dL_law_908 : decode cL_law 908 = .ok (.iconst 2, 1) := by decide +kernel
theorem dL_law_909 : decode cL_law 909 = .ok (.iadd, 1) := by decide +kernel
theorem dL_law_910 : decode cL_law 910 = .ok (.iaload, 1) := by decide +kernel
theorem dL_law_911 : decode cL_law 911 = .ok (.aload_n 0, 1) := by decide +kernel
theorem dL_law_912 : decode cL_law 912 = .ok (.iload_n 3, 1) := by decide +kernel
theorem dL_law_913 : decode cL_law 913 = .ok (.iconst 3, 1) := by decide +kernel
theorem dL_law_914 : decode cL_law 914 = .ok (.iadd, 1) := by decide +kernel
theorem dL_law_915 : decode cL_law 915 = .ok (.iaload, 1) := by decide +kernel
theorem dL_law_916 : decode cL_law 916 = .ok (.invokevirtual 118, 3) := by decide +kernel
theorem dL_law_919 : decode cL_law 919 = .ok (.aload_n 2, 1) := by decide +kernel
theorem dL_law_920 : decode cL_law 920 = .ok (.aload_n 0, 1) := by decide +kernel
theorem dL_law_921 : decode cL_law 921 = .ok (.iload_n 3, 1) := by decide +kernel
theorem dL_law_922 : decode cL_law 922 = .ok (.iconst 1, 1) := by decide +kernel
theorem dL_law_923 : decode cL_law 923 = .ok (.iadd, 1) := by decide +kernel
theorem dL_law_924 : decode cL_law 924 = .ok (.iaload, 1) := by decide +kernel
theorem dL_law_925 : decode cL_law 925 = .ok (.aload_n 0, 1) := by decide +kernel
theorem dL_law_926 : decode cL_law 926 = .ok (.iload_n 3, 1) := by decide +kernel
theorem dL_law_927 : decode cL_law 927 = .ok (.iconst 2, 1) := by decide +kernel
theorem dL_law_928 : decode cL_law 928 = .ok (.iadd, 1) := by decide +kernel
theorem dL_law_929 : decode cL_law 929 = .ok (.iaload, 1) := by decide +kernel
theorem dL_law_930 : decode cL_law 930 = .ok (.aload_n 0, 1) := by decide +kernel
theorem dL_law_931 : decode cL_law 931 = .ok (.iload_n 3, 1) := by decide +kernel
theorem dL_law_932 : decode cL_law 932 = .ok (.iconst 3, 1) := by decide +kernel
theorem dL_law_933 : decode cL_law 933 = .ok (.iadd, 1) := by decide +kernel
theorem dL_law_934 : decode cL_law 934 = .ok (.iaload, 1) := by decide +kernel
theorem dL_law_935 : decode cL_law 935 = .ok (.invokevirtual 122, 3) := by decide +kernel
theorem dL_law_938 : decode cL_law 938 = .ok (.if_icmp .eq 300, 3) := by decide +kernel
theorem dL_law_941 : decode cL_law 941 = .ok (.iconst 0, 1) := by decide +kernel
theorem dL_law_942 : decode cL_law 942 = .ok (.ireturn, 1) := by decide +kernel
theorem dL_law_943 : decode cL_law 943 = .ok (.aload_n 1, 1) := by decide +kernel
theorem dL_law_944 : decode cL_law 944 = .ok (.aload_n 0, 1) := by decide +kernel
theorem dL_law_945 : decode cL_law 945 = .ok (.iload_n 3, 1) := by decide +kernel
theorem dL_law_946 : decode cL_law 946 = .ok (.iconst 1, 1) := by decide +kernel
theorem dL_law_947 : decode cL_law 947 = .ok (.iadd, 1) := by decide +kernel
theorem dL_law_948 : decode cL_law 948 = .ok (.iaload, 1) := by decide +kernel
theorem dL_law_949 : decode cL_law 949 = .ok (.aload_n 0, 1) := by decide +kernel
theorem dL_law_950 : decode cL_law 950 = .ok (.iload_n 3, 1) := by decide +kernel
theorem dL_law_951 : decode cL_law 951 = .ok (.iconst 2, 1) := by decide +kernel
theorem dL_law_952 : decode cL_law 952 = .ok (.iadd, 1) := by decide +kernel
theorem dL_law_953 : decode cL_law 953 = .ok (.iaload, 1) := by decide +kernel
theorem dL_law_954 : decode cL_law 954 = .ok (.aload_n 0, 1) := by decide +kernel
theorem dL_law_955 : decode cL_law 955 = .ok (.iload_n 3, 1) := by decide +kernel
theorem dL_law_956 : decode cL_law 956 = .ok (.iconst 3, 1) := by decide +kernel
theorem dL_law_957 : decode cL_law 957 = .ok (.iadd, 1) := by decide +kernel
theorem dL_law_958 : decode cL_law 958 = .ok (.iaload, 1) := by decide +kernel
theorem dL_law_959 : decode cL_law 959 = .ok (.invokevirtual 123, 3) := by decide +kernel
theorem dL_law_962 : decode cL_law 962 = .ok (.aload_n 2, 1) := by decide +kernel
theorem dL_law_963 : decode cL_law 963 = .ok (.aload_n 0, 1) := by decide +kernel
theorem dL_law_964 : decode cL_law 964 = .ok (.iload_n 3, 1) := by decide +kernel
theorem dL_law_965 : decode cL_law 965 = .ok (.iconst 1, 1) := by decide +kernel
theorem dL_law_966 : decode cL_law 966 = .ok (.iadd, 1) := by decide +kernel
theorem dL_law_967 : decode cL_law 967 = .ok (.iaload, 1) := by decide +kernel
theorem dL_law_968 : decode cL_law 968 = .ok (.aload_n 0, 1) := by decide +kernel
theorem dL_law_969 : decode cL_law 969 = .ok (.iload_n 3, 1) := by decide +kernel
theorem dL_law_970 : decode cL_law 970 = .ok (.iconst 2, 1) := by decide +kernel
theorem dL_law_971 : decode cL_law 971 = .ok (.iadd, 1) := by decide +kernel
theorem dL_law_972 : decode cL_law 972 = .ok (.iaload, 1) := by decide +kernel
theorem dL_law_973 : decode cL_law 973 = .ok (.aload_n 0, 1) := by decide +kernel
theorem dL_law_974 : decode cL_law 974 = .ok (.iload_n 3, 1) := by decide +kernel
theorem dL_law_975 : decode cL_law 975 = .ok (.iconst 3, 1) := by decide +kernel
theorem dL_law_976 : decode cL_law 976 = .ok (.iadd, 1) := by decide +kernel
theorem dL_law_977 : decode cL_law 977 = .ok (.iaload, 1) := by decide +kernel
theorem dL_law_978 : decode cL_law 978 = .ok (.invokevirtual 126, 3) := by decide +kernel
theorem dL_law_981 : decode cL_law 981 = .ok (.if_icmp .eq 257, 3) := by decide +kernel
theorem dL_law_984 : decode cL_law 984 = .ok (.iconst 0, 1) := by decide +kernel
theorem dL_law_985 : decode cL_law 985 = .ok (.ireturn, 1) := by decide +kernel
theorem dL_law_986 : decode cL_law 986 = .ok (.aload_n 1, 1) := by decide +kernel
theorem dL_law_987 : decode cL_law 987 = .ok (.aload_n 0, 1) := by decide +kernel
theorem dL_law_988 : decode cL_law 988 = .ok (.iload_n 3, 1) := by decide +kernel
theorem dL_law_989 : decode cL_law 989 = .ok (.iconst 1, 1) := by decide +kernel
theorem dL_law_990 : decode cL_law 990 = .ok (.iadd, 1) := by decide +kernel
theorem dL_law_991 : decode cL_law 991 = .ok (.iaload, 1) := by decide +kernel
theorem dL_law_992 : decode cL_law 992 = .ok (.invokevirtual 127, 3) := by decide +kernel
theorem dL_law_995 : decode cL_law 995 = .ok (.aload_n 2, 1) := by decide +kernel
theorem dL_law_996 : decode cL_law 996 = .ok (.aload_n 0, 1) := by decide +kernel
theorem dL_law_997 : decode cL_law 997 = .ok (.iload_n 3, 1) := by decide +kernel
theorem dL_law_998 : decode cL_law 998 = .ok (.iconst 1, 1) := by decide +kernel
theorem dL_law_999 : decode cL_law 999 = .ok (.iadd, 1) := by decide +kernel
theorem dL_law_1000 : decode cL_law 1000 = .ok (.iaload, 1) := by decide +kernel
theorem dL_law_1001 : decode cL_law 1001 = .ok (.invokevirtual 130, 3) := by decide +kernel
theorem dL_law_1004 : decode cL_law 1004 = .ok (.if_icmp .eq 234, 3) := by decide +kernel
theorem dL_law_1007 : decode cL_law 1007 = .ok (.iconst 0, 1) := by decide +kernel
theorem dL_law_1008 : decode cL_law 1008 = .ok (.ireturn, 1) := by decide +kernel
theorem dL_law_1009 : decode cL_law 1009 = .ok (.aload_n 1, 1) := by decide +kernel
theorem dL_law_1010 : decode cL_law 1010 = .ok (.aload_n 0, 1) := by decide +kernel
theorem dL_law_1011 : decode cL_law 1011 = .ok (.iload_n 3, 1) := by decide +kernel
theorem dL_law_1012 : decode cL_law 1012 = .ok (.iconst 1, 1) := by decide +kernel
theorem dL_law_1013 : decode cL_law 1013 = .ok (.iadd, 1) := by decide +kernel
theorem dL_law_1014 : decode cL_law 1014 = .ok (.iaload, 1) := by decide +kernel
theorem dL_law_1015 : decode cL_law 1015 = .ok (.aload_n 0, 1) := by decide +kernel
theorem dL_law_1016 : decode cL_law 1016 = .ok (.iload_n 3, 1) := by decide +kernel
theorem dL_law_1017 : decode cL_law 1017 = .ok (.iconst 2, 1) := by decide +kernel
theorem dL_law_1018 : decode cL_law 1018 = .ok (.iadd, 1) := by decide +kernel
theorem dL_law_1019 : decode cL_law 1019 = .ok (.iaload, 1) := by decide +kernel
theorem dL_law_1020 : decode cL_law 1020 = .ok (.aload_n 0, 1) := by decide +kernel
theorem dL_law_1021 : decode cL_law 1021 = .ok (.iload_n 3, 1) := by decide +kernel
theorem dL_law_1022 : decode cL_law 1022 = .ok (.iconst 3, 1) := by decide +kernel
theorem dL_law_1023 : decode cL_law 1023 = .ok (.iadd, 1) := by decide +kernel
theorem dL_law_1024 : decode cL_law 1024 = .ok (.iaload, 1) := by decide +kernel
theorem dL_law_1025 : decode cL_law 1025 = .ok (.aload_n 0, 1) := by decide +kernel
theorem dL_law_1026 : decode cL_law 1026 = .ok (.iload_n 3, 1) := by decide +kernel
theorem dL_law_1027 : decode cL_law 1027 = .ok (.iconst 4, 1) := by decide +kernel
theorem dL_law_1028 : decode cL_law 1028 = .ok (.iadd, 1) := by decide +kernel
theorem dL_law_1029 : decode cL_law 1029 = .ok (.iaload, 1) := by decide +kernel
theorem dL_law_1030 : decode cL_law 1030 = .ok (.invokevirtual 131, 3) := by decide +kernel
theorem dL_law_1033 : decode cL_law 1033 = .ok (.aload_n 2, 1) := by decide +kernel
theorem dL_law_1034 : decode cL_law 1034 = .ok (.aload_n 0, 1) := by decide +kernel
theorem dL_law_1035 : decode cL_law 1035 = .ok (.iload_n 3, 1) := by decide +kernel
theorem dL_law_1036 : decode cL_law 1036 = .ok (.iconst 1, 1) := by decide +kernel
theorem dL_law_1037 : decode cL_law 1037 = .ok (.iadd, 1) := by decide +kernel
theorem dL_law_1038 : decode cL_law 1038 = .ok (.iaload, 1) := by decide +kernel
theorem dL_law_1039 : decode cL_law 1039 = .ok (.aload_n 0, 1) := by decide +kernel
theorem dL_law_1040 : decode cL_law 1040 = .ok (.iload_n 3, 1) := by decide +kernel
theorem dL_law_1041 : decode cL_law 1041 = .ok (.iconst 2, 1) := by decide +kernel
theorem dL_law_1042 : decode cL_law 1042 = .ok (.iadd, 1) := by decide +kernel
theorem dL_law_1043 : decode cL_law 1043 = .ok (.iaload, 1) := by decide +kernel
theorem dL_law_1044 : decode cL_law 1044 = .ok (.aload_n 0, 1) := by decide +kernel
theorem dL_law_1045 : decode cL_law 1045 = .ok (.iload_n 3, 1) := by decide +kernel
theorem dL_law_1046 : decode cL_law 1046 = .ok (.iconst 3, 1) := by decide +kernel
theorem dL_law_1047 : decode cL_law 1047 = .ok (.iadd, 1) := by decide +kernel
theorem dL_law_1048 : decode cL_law 1048 = .ok (.iaload, 1) := by decide +kernel
theorem dL_law_1049 : decode cL_law 1049 = .ok (.aload_n 0, 1) := by decide +kernel
theorem dL_law_1050 : decode cL_law 1050 = .ok (.iload_n 3, 1) := by decide +kernel
theorem dL_law_1051 : decode cL_law 1051 = .ok (.iconst 4, 1) := by decide +kernel
theorem dL_law_1052 : decode cL_law 1052 = .ok (.iadd, 1) := by decide +kernel
theorem dL_law_1053 : decode cL_law 1053 = .ok (.iaload, 1) := by decide +kernel
theorem dL_law_1054 : decode cL_law 1054 = .ok (.invokevirtual 134, 3) := by decide +kernel
theorem dL_law_1057 : decode cL_law 1057 = .ok (.if_icmp .eq 181, 3) := by decide +kernel
theorem dL_law_1060 : decode cL_law 1060 = .ok (.iconst 0, 1) := by decide +kernel
theorem dL_law_1061 : decode cL_law 1061 = .ok (.ireturn, 1) := by decide +kernel
theorem dL_law_1062 : decode cL_law 1062 = .ok (.aload_n 1, 1) := by decide +kernel
theorem dL_law_1063 : decode cL_law 1063 = .ok (.aload_n 0, 1) := by decide +kernel
theorem dL_law_1064 : decode cL_law 1064 = .ok (.iload_n 3, 1) := by decide +kernel
theorem dL_law_1065 : decode cL_law 1065 = .ok (.iconst 1, 1) := by decide +kernel
theorem dL_law_1066 : decode cL_law 1066 = .ok (.iadd, 1) := by decide +kernel
theorem dL_law_1067 : decode cL_law 1067 = .ok (.iaload, 1) := by decide +kernel
theorem dL_law_1068 : decode cL_law 1068 = .ok (.aload_n 0, 1) := by decide +kernel
theorem dL_law_1069 : decode cL_law 1069 = .ok (.iload_n 3, 1) := by decide +kernel
theorem dL_law_1070 : decode cL_law 1070 = .ok (.iconst 2, 1) := by decide +kernel
theorem dL_law_1071 : decode cL_law 1071 = .ok (.iadd, 1) := by decide +kernel
theorem dL_law_1072 : decode cL_law 1072 = .ok (.iaload, 1) := by decide +kernel
theorem dL_law_1073 : decode cL_law 1073 = .ok (.aload_n 0, 1) := by decide +kernel
theorem dL_law_1074 : decode cL_law 1074 = .ok (.iload_n 3, 1) := by decide +kernel
theorem dL_law_1075 : decode cL_law 1075 = .ok (.iconst 3, 1) := by decide +kernel
theorem dL_law_1076 : decode cL_law 1076 = .ok (.iadd, 1) := by decide +kernel
theorem dL_law_1077 : decode cL_law 1077 = .ok (.iaload, 1) := by decide +kernel
theorem dL_law_1078 : decode cL_law 1078 = .ok (.invokevirtual 135, 3) := by decide +kernel
theorem dL_law_1081 : decode cL_law 1081 = .ok (.aload_n 2, 1) := by decide +kernel
theorem dL_law_1082 : decode cL_law 1082 = .ok (.aload_n 0, 1) := by decide +kernel
theorem dL_law_1083 : decode cL_law 1083 = .ok (.iload_n 3, 1) := by decide +kernel
theorem dL_law_1084 : decode cL_law 1084 = .ok (.iconst 1, 1) := by decide +kernel
theorem dL_law_1085 : decode cL_law 1085 = .ok (.iadd, 1) := by decide +kernel
theorem dL_law_1086 : decode cL_law 1086 = .ok (.iaload, 1) := by decide +kernel
theorem dL_law_1087 : decode cL_law 1087 = .ok (.aload_n 0, 1) := by decide +kernel
theorem dL_law_1088 : decode cL_law 1088 = .ok (.iload_n 3, 1) := by decide +kernel
theorem dL_law_1089 : decode cL_law 1089 = .ok (.iconst 2, 1) := by decide +kernel
theorem dL_law_1090 : decode cL_law 1090 = .ok (.iadd, 1) := by decide +kernel
theorem dL_law_1091 : decode cL_law 1091 = .ok (.iaload, 1) := by decide +kernel
theorem dL_law_1092 : decode cL_law 1092 = .ok (.aload_n 0, 1) := by decide +kernel
theorem dL_law_1093 : decode cL_law 1093 = .ok (.iload_n 3, 1) := by decide +kernel
theorem dL_law_1094 : decode cL_law 1094 = .ok (.iconst 3, 1) := by decide +kernel
theorem dL_law_1095 : decode cL_law 1095 = .ok (.iadd, 1) := by decide +kernel
theorem dL_law_1096 : decode cL_law 1096 = .ok (.iaload, 1) := by decide +kernel
theorem dL_law_1097 : decode cL_law 1097 = .ok (.invokevirtual 138, 3) := by decide +kernel
theorem dL_law_1100 : decode cL_law 1100 = .ok (.if_icmp .eq 138, 3) := by decide +kernel
theorem dL_law_1103 : decode cL_law 1103 = .ok (.iconst 0, 1) := by decide +kernel
theorem dL_law_1104 : decode cL_law 1104 = .ok (.ireturn, 1) := by decide +kernel
theorem dL_law_1105 : decode cL_law 1105 = .ok (.aload_n 1, 1) := by decide +kernel
theorem dL_law_1106 : decode cL_law 1106 = .ok (.aload_n 0, 1) := by decide +kernel
theorem dL_law_1107 : decode cL_law 1107 = .ok (.iload_n 3, 1) := by decide +kernel
theorem dL_law_1108 : decode cL_law 1108 = .ok (.iconst 1, 1) := by decide +kernel
theorem dL_law_1109 : decode cL_law 1109 = .ok (.iadd, 1) := by decide +kernel
theorem dL_law_1110 : decode cL_law 1110 = .ok (.iaload, 1) := by decide +kernel
theorem dL_law_1111 : decode cL_law 1111 = .ok (.aload_n 0, 1) := by decide +kernel
theorem dL_law_1112 : decode cL_law 1112 = .ok (.iload_n 3, 1) := by decide +kernel
theorem dL_law_1113 : decode cL_law 1113 = .ok (.iconst 2, 1) := by decide +kernel
theorem dL_law_1114 : decode cL_law 1114 = .ok (.iadd, 1) := by decide +kernel
theorem dL_law_1115 : decode cL_law 1115 = .ok (.iaload, 1) := by decide +kernel
theorem dL_law_1116 : decode cL_law 1116 = .ok (.aload_n 0, 1) := by decide +kernel
theorem dL_law_1117 : decode cL_law 1117 = .ok (.iload_n 3, 1) := by decide +kernel
theorem dL_law_1118 : decode cL_law 1118 = .ok (.iconst 3, 1) := by decide +kernel
theorem dL_law_1119 : decode cL_law 1119 = .ok (.iadd, 1) := by decide +kernel
theorem dL_law_1120 : decode cL_law 1120 = .ok (.iaload, 1) := by decide +kernel
theorem dL_law_1121 : decode cL_law 1121 = .ok (.aload_n 0, 1) := by decide +kernel
theorem dL_law_1122 : decode cL_law 1122 = .ok (.iload_n 3, 1) := by decide +kernel
theorem dL_law_1123 : decode cL_law 1123 = .ok (.iconst 4, 1) := by decide +kernel
theorem dL_law_1124 : decode cL_law 1124 = .ok (.iadd, 1) := by decide +kernel
theorem dL_law_1125 : decode cL_law 1125 = .ok (.iaload, 1) := by decide +kernel
theorem dL_law_1126 : decode cL_law 1126 = .ok (.aload_n 0, 1) := by decide +kernel
theorem dL_law_1127 : decode cL_law 1127 = .ok (.iload_n 3, 1) := by decide +kernel
theorem dL_law_1128 : decode cL_law 1128 = .ok (.iconst 5, 1) := by decide +kernel
theorem dL_law_1129 : decode cL_law 1129 = .ok (.iadd, 1) := by decide +kernel
theorem dL_law_1130 : decode cL_law 1130 = .ok (.iaload, 1) := by decide +kernel
theorem dL_law_1131 : decode cL_law 1131 = .ok (.invokevirtual 139, 3) := by decide +kernel
theorem dL_law_1134 : decode cL_law 1134 = .ok (.aload_n 2, 1) := by decide +kernel
theorem dL_law_1135 : decode cL_law 1135 = .ok (.aload_n 0, 1) := by decide +kernel
theorem dL_law_1136 : decode cL_law 1136 = .ok (.iload_n 3, 1) := by decide +kernel
theorem dL_law_1137 : decode cL_law 1137 = .ok (.iconst 1, 1) := by decide +kernel
theorem dL_law_1138 : decode cL_law 1138 = .ok (.iadd, 1) := by decide +kernel
theorem dL_law_1139 : decode cL_law 1139 = .ok (.iaload, 1) := by decide +kernel
theorem dL_law_1140 : decode cL_law 1140 = .ok (.aload_n 0, 1) := by decide +kernel
theorem dL_law_1141 : decode cL_law 1141 = .ok (.iload_n 3, 1) := by decide +kernel
theorem dL_law_1142 : decode cL_law 1142 = .ok (.iconst 2, 1) := by decide +kernel
theorem dL_law_1143 : decode cL_law 1143 = .ok (.iadd, 1) := by decide +kernel
theorem dL_law_1144 : decode cL_law 1144 = .ok (.iaload, 1) := by decide +kernel
theorem dL_law_1145 : decode cL_law 1145 = .ok (.aload_n 0, 1) := by decide +kernel
theorem dL_law_1146 : decode cL_law 1146 = .ok (.iload_n 3, 1) := by decide +kernel
theorem dL_law_1147 : decode cL_law 1147 = .ok (.iconst 3, 1) := by decide +kernel
theorem dL_law_1148 : decode cL_law 1148 = .ok (.iadd, 1) := by decide +kernel
theorem dL_law_1149 : decode cL_law 1149 = .ok (.iaload, 1) := by decide +kernel
theorem dL_law_1150 : decode cL_law 1150 = .ok (.aload_n 0, 1) := by decide +kernel
theorem dL_law_1151 : decode cL_law 1151 = .ok (.iload_n 3, 1) := by decide +kernel
theorem dL_law_1152 : decode cL_law 1152 = .ok (.iconst 4, 1) := by decide +kernel
theorem dL_law_1153 : decode cL_law 1153 = .ok (.iadd, 1) := by decide +kernel
theorem dL_law_1154 : decode cL_law 1154 = .ok (.iaload, 1) := by decide +kernel
theorem dL_law_1155 : decode cL_law 1155 = .ok (.aload_n 0, 1) := by decide +kernel
theorem dL_law_1156 : decode cL_law 1156 = .ok (.iload_n 3, 1) := by decide +kernel
theorem dL_law_1157 : decode cL_law 1157 = .ok (.iconst 5, 1) := by decide +kernel
theorem dL_law_1158 : decode cL_law 1158 = .ok (.iadd, 1) := by decide +kernel
theorem dL_law_1159 : decode cL_law 1159 = .ok (.iaload, 1) := by decide +kernel
theorem dL_law_1160 : decode cL_law 1160 = .ok (.invokevirtual 143, 3) := by decide +kernel
theorem dL_law_1163 : decode cL_law 1163 = .ok (.if_icmp .eq 75, 3) := by decide +kernel
theorem dL_law_1166 : decode cL_law 1166 = .ok (.iconst 0, 1) := by decide +kernel
theorem dL_law_1167 : decode cL_law 1167 = .ok (.ireturn, 1) := by decide +kernel
theorem dL_law_1168 : decode cL_law 1168 = .ok (.aload_n 1, 1) := by decide +kernel
theorem dL_law_1169 : decode cL_law 1169 = .ok (.aload_n 0, 1) := by decide +kernel
theorem dL_law_1170 : decode cL_law 1170 = .ok (.iload_n 3, 1) := by decide +kernel
theorem dL_law_1171 : decode cL_law 1171 = .ok (.iconst 1, 1) := by decide +kernel
theorem dL_law_1172 : decode cL_law 1172 = .ok (.iadd, 1) := by decide +kernel
theorem dL_law_1173 : decode cL_law 1173 = .ok (.iaload, 1) := by decide +kernel
theorem dL_law_1174 : decode cL_law 1174 = .ok (.aload_n 0, 1) := by decide +kernel
theorem dL_law_1175 : decode cL_law 1175 = .ok (.iload_n 3, 1) := by decide +kernel
theorem dL_law_1176 : decode cL_law 1176 = .ok (.iconst 2, 1) := by decide +kernel
theorem dL_law_1177 : decode cL_law 1177 = .ok (.iadd, 1) := by decide +kernel
theorem dL_law_1178 : decode cL_law 1178 = .ok (.iaload, 1) := by decide +kernel
theorem dL_law_1179 : decode cL_law 1179 = .ok (.invokevirtual 144, 3) := by decide +kernel
theorem dL_law_1182 : decode cL_law 1182 = .ok (.aload_n 2, 1) := by decide +kernel
theorem dL_law_1183 : decode cL_law 1183 = .ok (.aload_n 0, 1) := by decide +kernel
theorem dL_law_1184 : decode cL_law 1184 = .ok (.iload_n 3, 1) := by decide +kernel
theorem dL_law_1185 : decode cL_law 1185 = .ok (.iconst 1, 1) := by decide +kernel
theorem dL_law_1186 : decode cL_law 1186 = .ok (.iadd, 1) := by decide +kernel
theorem dL_law_1187 : decode cL_law 1187 = .ok (.iaload, 1) := by decide +kernel
theorem dL_law_1188 : decode cL_law 1188 = .ok (.aload_n 0, 1) := by decide +kernel
theorem dL_law_1189 : decode cL_law 1189 = .ok (.iload_n 3, 1) := by decide +kernel
theorem dL_law_1190 : decode cL_law 1190 = .ok (.iconst 2, 1) := by decide +kernel
theorem dL_law_1191 : decode cL_law 1191 = .ok (.iadd, 1) := by decide +kernel
theorem dL_law_1192 : decode cL_law 1192 = .ok (.iaload, 1) := by decide +kernel
theorem dL_law_1193 : decode cL_law 1193 = .ok (.invokevirtual 147, 3) := by decide +kernel
theorem dL_law_1196 : decode cL_law 1196 = .ok (.if_icmp .eq 42, 3) := by decide +kernel
theorem dL_law_1199 : decode cL_law 1199 = .ok (.iconst 0, 1) := by decide +kernel
theorem dL_law_1200 : decode cL_law 1200 = .ok (.ireturn, 1) := by decide +kernel
theorem dL_law_1201 : decode cL_law 1201 = .ok (.aload_n 1, 1) := by decide +kernel
theorem dL_law_1202 : decode cL_law 1202 = .ok (.aload_n 0, 1) := by decide +kernel
theorem dL_law_1203 : decode cL_law 1203 = .ok (.iload_n 3, 1) := by decide +kernel
theorem dL_law_1204 : decode cL_law 1204 = .ok (.iconst 1, 1) := by decide +kernel
theorem dL_law_1205 : decode cL_law 1205 = .ok (.iadd, 1) := by decide +kernel
theorem dL_law_1206 : decode cL_law 1206 = .ok (.iaload, 1) := by decide +kernel
theorem dL_law_1207 : decode cL_law 1207 = .ok (.invokevirtual 148, 3) := by decide +kernel
theorem dL_law_1210 : decode cL_law 1210 = .ok (.aload_n 2, 1) := by decide +kernel
theorem dL_law_1211 : decode cL_law 1211 = .ok (.aload_n 0, 1) := by decide +kernel
theorem dL_law_1212 : decode cL_law 1212 = .ok (.iload_n 3, 1) := by decide +kernel
theorem dL_law_1213 : decode cL_law 1213 = .ok (.iconst 1, 1) := by decide +kernel
theorem dL_law_1214 : decode cL_law 1214 = .ok (.iadd, 1) := by decide +kernel
theorem dL_law_1215 : decode cL_law 1215 = .ok (.iaload, 1) := by decide +kernel
theorem dL_law_1216 : decode cL_law 1216 = .ok (.invokevirtual 151, 3) := by decide +kernel
theorem dL_law_1219 : decode cL_law 1219 = .ok (.if_icmp .eq 19, 3) := by decide +kernel
theorem dL_law_1222 : decode cL_law 1222 = .ok (.iconst 0, 1) := by decide +kernel
theorem dL_law_1223 : decode cL_law 1223 = .ok (.ireturn, 1) := by decide +kernel
theorem dL_law_1224 : decode cL_law 1224 = .ok (.aload_n 1, 1) := by decide +kernel
theorem dL_law_1225 : decode cL_law 1225 = .ok (.invokevirtual 152, 3) := by decide +kernel
theorem dL_law_1228 : decode cL_law 1228 = .ok (.aload_n 2, 1) := by decide +kernel
theorem dL_law_1229 : decode cL_law 1229 = .ok (.invokevirtual 156, 3) := by decide +kernel
theorem dL_law_1232 : decode cL_law 1232 = .ok (.lcmp, 1) := by decide +kernel
theorem dL_law_1233 : decode cL_law 1233 = .ok (.ifCond .eq 5, 3) := by decide +kernel
theorem dL_law_1236 : decode cL_law 1236 = .ok (.iconst 0, 1) := by decide +kernel
theorem dL_law_1237 : decode cL_law 1237 = .ok (.ireturn, 1) := by decide +kernel
theorem dL_law_1238 : decode cL_law 1238 = .ok (.iinc 3 6, 3) := by decide +kernel
theorem dL_law_1241 : decode cL_law 1241 = .ok (.goto (-1223), 3) := by decide +kernel
theorem dL_law_1244 : decode cL_law 1244 = .ok (.iconst 1, 1) := by decide +kernel
theorem dL_law_1245 : decode cL_law 1245 = .ok (.ireturn, 1) := by decide +kernel
