theorem dX10_lines_210 : decode cX10_lines 210 = .ok (.iadd, 1) := by decide +kernel
theorem dX10_lines_211 : decode cX10_lines 211 = .ok (.putfield 260, 3) := by decide +kernel
theorem dX10_lines_214 : decode cX10_lines 214 = .ok (.aload_n 0, 1) := by decide +kernel
theorem dX10_lines_215 : decode cX10_lines 215 = .ok (.getfield 193, 3) := by decide +kernel
theorem dX10_lines_218 : decode cX10_lines 218 = .ok (.ifCond .gt 13, 3) := by decide +kernel
theorem dX10_lines_221 : decode cX10_lines 221 = .ok (.aload_n 0, 1) := by decide +kernel
theorem dX10_lines_222 : decode cX10_lines 222 = .ok (.iload 6, 2) := by decide +kernel
theorem dX10_lines_224 : decode cX10_lines 224 = .ok (.iconst 1, 1) := by decide +kernel
theorem dX10_lines_225 : decode cX10_lines 225 = .ok (.invokevirtual 270, 3) := by decide +kernel
theorem dX10_lines_228 : decode cX10_lines 228 = .ok (.ifCond .ne 21, 3) := by decide +kernel
theorem dX10_lines_231 : decode cX10_lines 231 = .ok (.iinc 3 1, 3) := by decide +kernel
theorem dX10_lines_234 : decode cX10_lines 234 = .ok (.aload_n 0, 1) := by decide +kernel
theorem dX10_lines_235 : decode cX10_lines 235 = .ok (.getfield 100, 3) := by decide +kernel
theorem dX10_lines_238 : decode cX10_lines 238 = .ok (.iload_n 3, 1) := by decide +kernel
theorem dX10_lines_239 : decode cX10_lines 239 = .ok (.iload 6, 2) := by decide +kernel
theorem dX10_lines_241 : decode cX10_lines 241 = .ok (.iastore, 1) := by decide +kernel
theorem dX10_lines_242 : decode cX10_lines 242 = .ok (.aload_n 0, 1) := by decide +kernel
theorem dX10_lines_243 : decode cX10_lines 243 = .ok (.getfield 103, 3) := by decide +kernel
theorem dX10_lines_246 : decode cX10_lines 246 = .ok (.iload_n 3, 1) := by decide +kernel
theorem dX10_lines_247 : decode cX10_lines 247 = .ok (.iconst 0, 1) := by decide +kernel
theorem dX10_lines_248 : decode cX10_lines 248 = .ok (.iastore, 1) := by decide +kernel
theorem dX10_lines_249 : decode cX10_lines 249 = .ok (.goto (-179), 3) := by decide +kernel
theorem dX10_lines_252 : decode cX10_lines 252 = .ok (.return_, 1) := by decide +kernel
theorem dX10_upFrom_0 : decode cX10_upFrom 0 = .ok (.iload_n 1, 1) := by decide +kernel
theorem dX10_upFrom_1 : decode cX10_upFrom 1 = .ok (.istore_n 2, 1) := by decide +kernel
theorem dX10_upFrom_2 : decode cX10_upFrom 2 = .ok (.aload_n 0, 1) := by decide +kernel
theorem dX10_upFrom_3 : decode cX10_upFrom 3 = .ok (.getfield 91, 3) := by decide +kernel
theorem dX10_upFrom_6 : decode cX10_upFrom 6 = .ok (.iload_n 2, 1) := by decide +kernel
theorem dX10_upFrom_7 : decode cX10_upFrom 7 = .ok (.iaload, 1) := by decide +kernel
theorem dX10_upFrom_8 : decode cX10_upFrom 8 = .ok (.aload_n 0, 1) := by decide +kernel
theorem dX10_upFrom_9 : decode cX10_upFrom 9 = .ok (.getfield 91, 3) := by decide +kernel
theorem dX10_upFrom_12 : decode cX10_upFrom 12 = .ok (.iload_n 1, 1) := by decide +kernel
theorem dX10_upFrom_13 : decode cX10_upFrom 13 = .ok (.iaload, 1) := by decide +kernel
theorem dX10_upFrom_14 : decode cX10_upFrom 14 = .ok (.if_icmp .lt 9, 3) := by decide +kernel
theorem dX10_upFrom_17 : decode cX10_upFrom 17 = .ok (.iinc 2 (-1), 3) := by decide +kernel
theorem dX10_upFrom_20 : decode cX10_upFrom 20 = .ok (.goto (-18), 3) := by decide +kernel
theorem dX10_upFrom_23 : decode cX10_upFrom 23 = .ok (.iload_n 2, 1) := by decide +kernel
theorem dX10_upFrom_24 : decode cX10_upFrom 24 = .ok (.ireturn, 1) := by decide +kernel
theorem dX10_writes_0 : decode cX10_writes 0 = .ok (.iload_n 1, 1) := by decide +kernel
theorem dX10_writes_1 : decode cX10_writes 1 = .ok (.istore_n 2, 1) := by decide +kernel
theorem dX10_writes_2 : decode cX10_writes 2 = .ok (.aload_n 0, 1) := by decide +kernel
theorem dX10_writes_3 : decode cX10_writes 3 = .ok (.getfield 91, 3) := by decide +kernel
theorem dX10_writes_6 : decode cX10_writes 6 = .ok (.iload_n 1, 1) := by decide +kernel
theorem dX10_writes_7 : decode cX10_writes 7 = .ok (.iaload, 1) := by decide +kernel
theorem dX10_writes_8 : decode cX10_writes 8 = .ok (.istore_n 3, 1) := by decide +kernel
theorem dX10_writes_9 : decode cX10_writes 9 = .ok (.iload_n 3, 1) := by decide +kernel
theorem dX10_writes_10 : decode cX10_writes 10 = .ok (.istore 4, 2) := by decide +kernel
theorem dX10_writes_12 : decode cX10_writes 12 = .ok (.iload 4, 2) := by decide +kernel
theorem dX10_writes_14 : decode cX10_writes 14 = .ok (.ifCond .lt 37, 3) := by decide +kernel
theorem dX10_writes_17 : decode cX10_writes 17 = .ok (.aload_n 0, 1) := by decide +kernel
theorem dX10_writes_18 : decode cX10_writes 18 = .ok (.getfield 106, 3) := by decide +kernel
theorem dX10_writes_21 : decode cX10_writes 21 = .ok (.iload 4, 2) := by decide +kernel
theorem dX10_writes_23 : decode cX10_writes 23 = .ok (.aload_n 0, 1) := by decide +kernel
theorem dX10_writes_24 : decode cX10_writes 24 = .ok (.getfield 88, 3) := by decide +kernel
theorem dX10_writes_27 : decode cX10_writes 27 = .ok (.iload_n 2, 1) := by decide +kernel
theorem dX10_writes_28 : decode cX10_writes 28 = .ok (.iaload, 1) := by decide +kernel
theorem dX10_writes_29 : decode cX10_writes 29 = .ok (.iastore, 1) := by decide +kernel
theorem dX10_writes_30 : decode cX10_writes 30 = .ok (.iload 4, 2) := by decide +kernel
theorem dX10_writes_32 : decode cX10_writes 32 = .ok (.ifCond .le 11, 3) := by decide +kernel
theorem dX10_writes_35 : decode cX10_writes 35 = .ok (.aload_n 0, 1) := by decide +kernel
theorem dX10_writes_36 : decode cX10_writes 36 = .ok (.iload_n 2, 1) := by decide +kernel
theorem dX10_writes_37 : decode cX10_writes 37 = .ok (.invokevirtual 267, 3) := by decide +kernel
theorem dX10_writes_40 : decode cX10_writes 40 = .ok (.goto 4, 3) := by decide +kernel
theorem dX10_writes_43 : decode cX10_writes 43 = .ok (.iload_n 2, 1) := by decide +kernel
theorem dX10_writes_44 : decode cX10_writes 44 = .ok (.istore_n 2, 1) := by decide +kernel
theorem dX10_writes_45 : decode cX10_writes 45 = .ok (.iinc 4 (-1), 3) := by decide +kernel
theorem dX10_writes_48 : decode cX10_writes 48 = .ok (.goto (-36), 3) := by decide +kernel
theorem dX10_writes_51 : decode cX10_writes 51 = .ok (.iconst 0, 1) := by decide +kernel
theorem dX10_writes_52 : decode cX10_writes 52 = .ok (.istore 4, 2) := by decide +kernel
theorem dX10_writes_54 : decode cX10_writes 54 = .ok (.iconst 0, 1) := by decide +kernel
theorem dX10_writes_55 : decode cX10_writes 55 = .ok (.istore 5, 2) := by decide +kernel
theorem dX10_writes_57 : decode cX10_writes 57 = .ok (.iload 5, 2) := by decide +kernel
theorem dX10_writes_59 : decode cX10_writes 59 = .ok (.iload_n 3, 1) := by decide +kernel
theorem dX10_writes_60 : decode cX10_writes 60 = .ok (.if_icmp .gt 88, 3) := by decide +kernel
theorem dX10_writes_63 : decode cX10_writes 63 = .ok (.iload 5, 2) := by decide +kernel
theorem dX10_writes_65 : decode cX10_writes 65 = .ok (.ifCond .le 15, 3) := by decide +kernel
theorem dX10_writes_68 : decode cX10_writes 68 = .ok (.aload_n 0, 1) := by decide +kernel
theorem dX10_writes_69 : decode cX10_writes 69 = .ok (.getfield 109, 3) := by decide +kernel
theorem dX10_writes_72 : decode cX10_writes 72 = .ok (.iload 4, 2) := by decide +kernel
theorem dX10_writes_74 : decode cX10_writes 74 = .ok (.bipush 47, 2) := by decide +kernel
theorem dX10_writes_76 : decode cX10_writes 76 = .ok (.iastore, 1) := by decide +kernel
theorem dX10_writes_77 : decode cX10_writes 77 = .ok (.iinc 4 1, 3) := by decide +kernel
theorem dX10_writes_80 : decode cX10_writes 80 = .ok (.iconst 0, 1) := by decide +kernel
theorem dX10_writes_81 : decode cX10_writes 81 = .ok (.istore 6, 2) := by decide +kernel
theorem dX10_writes_83 : decode cX10_writes 83 = .ok (.iload 6, 2) := by decide +kernel
theorem dX10_writes_85 : decode cX10_writes 85 = .ok (.aload_n 0, 1) := by decide +kernel
theorem dX10_writes_86 : decode cX10_writes 86 = .ok (.getfield 7, 3) := by decide +kernel
theorem dX10_writes_89 : decode cX10_writes 89 = .ok (.sipush 245, 3) := by decide +kernel
theorem dX10_writes_92 : decode cX10_writes 92 = .ok (.aload_n 0, 1) := by decide +kernel
theorem dX10_writes_93 : decode cX10_writes 93 = .ok (.getfield 106, 3) := by decide +kernel
theorem dX10_writes_96 : decode cX10_writes 96 = .ok (.iload 5, 2) := by decide +kernel
theorem dX10_writes_98 : decode cX10_writes 98 = .ok (.iaload, 1) := by decide +kernel
theorem dX10_writes_99 : decode cX10_writes 99 = .ok (.iadd, 1) := by decide +kernel
theorem dX10_writes_100 : decode cX10_writes 100 = .ok (.iaload, 1) := by decide +kernel
theorem dX10_writes_101 : decode cX10_writes 101 = .ok (.if_icmp .ge 41, 3) := by decide +kernel
theorem dX10_writes_104 : decode cX10_writes 104 = .ok (.aload_n 0, 1) := by decide +kernel
theorem dX10_writes_105 : decode cX10_writes 105 = .ok (.getfield 109, 3) := by decide +kernel
theorem dX10_writes_108 : decode cX10_writes 108 = .ok (.iload 4, 2) := by decide +kernel
theorem dX10_writes_110 : decode cX10_writes 110 = .ok (.aload_n 0, 1) := by decide +kernel
theorem dX10_writes_111 : decode cX10_writes 111 = .ok (.getfield 7, 3) := by decide +kernel
theorem dX10_writes_114 : decode cX10_writes 114 = .ok (.sipush 306, 3) := by decide +kernel
theorem dX10_writes_117 : decode cX10_writes 117 = .ok (.bipush 10, 2) := by decide +kernel
theorem dX10_writes_119 : decode cX10_writes 119 = .ok (.aload_n 0, 1) := by decide +kernel
theorem dX10_writes_120 : decode cX10_writes 120 = .ok (.getfield 106, 3) := by decide +kernel
theorem dX10_writes_123 : decode cX10_writes 123 = .ok (.iload 5, 2) := by decide +kernel
theorem dX10_writes_125 : decode cX10_writes 125 = .ok (.iaload, 1) := by decide +kernel
theorem dX10_writes_126 : decode cX10_writes 126 = .ok (.imul, 1) := by decide +kernel
theorem dX10_writes_127 : decode cX10_writes 127 = .ok (.iadd, 1) := by decide +kernel
theorem dX10_writes_128 : decode cX10_writes 128 = .ok (.iload 6, 2) := by decide +kernel
theorem dX10_writes_130 : decode cX10_writes 130 = .ok (.iadd, 1) := by decide +kernel
theorem dX10_writes_131 : decode cX10_writes 131 = .ok (.iaload, 1) := by decide +kernel
theorem dX10_writes_132 : decode cX10_writes 132 = .ok (.iastore, 1) := by decide +kernel
theorem dX10_writes_133 : decode cX10_writes 133 = .ok (.iinc 4 1, 3) := by decide +kernel
theorem dX10_writes_136 : decode cX10_writes 136 = .ok (.iinc 6 1, 3) := by decide +kernel
theorem dX10_writes_139 : decode cX10_writes 139 = .ok (.goto (-56), 3) := by decide +kernel
theorem dX10_writes_142 : decode cX10_writes 142 = .ok (.iinc 5 1, 3) := by decide +kernel
theorem dX10_writes_145 : decode cX10_writes 145 = .ok (.goto (-88), 3) := by decide +kernel
theorem dX10_writes_148 : decode cX10_writes 148 = .ok (.iload 4, 2) := by decide +kernel
theorem dX10_writes_150 : decode cX10_writes 150 = .ok (.ireturn, 1) := by decide +kernel
theorem dX10_hoist_0 : decode cX10_hoist 0 = .ok (.aload_n 0, 1) := by decide +kernel
theorem dX10_hoist_1 : decode cX10_hoist 1 = .ok (.iconst 0, 1) := by decide +kernel
theorem dX10_hoist_2 : decode cX10_hoist 2 = .ok (.putfield 139, 3) := by decide +kernel
theorem dX10_hoist_5 : decode cX10_hoist 5 = .ok (.aload_n 0, 1) := by decide +kernel
theorem dX10_hoist_6 : decode cX10_hoist 6 = .ok (.iload_n 1, 1) := by decide +kernel
theorem dX10_hoist_7 : decode cX10_hoist 7 = .ok (.invokevirtual 146, 3) := by decide +kernel
theorem dX10_hoist_10 : decode cX10_hoist 10 = .ok (.ifCond .ne 9, 3) := by decide +kernel
theorem dX10_hoist_13 : decode cX10_hoist 13 = .ok (.aload_n 0, 1) := by decide +kernel
theorem dX10_hoist_14 : decode cX10_hoist 14 = .ok (.iconst 1, 1) := by decide +kernel
theorem dX10_hoist_15 : decode cX10_hoist 15 = .ok (.invokevirtual 186, 3) := by decide +kernel
theorem dX10_hoist_18 : decode cX10_hoist 18 = .ok (.ireturn, 1) := by decide +kernel
theorem dX10_hoist_19 : decode cX10_hoist 19 = .ok (.aload_n 0, 1) := by decide +kernel
theorem dX10_hoist_20 : decode cX10_hoist 20 = .ok (.getfield 154, 3) := by decide +kernel
theorem dX10_hoist_23 : decode cX10_hoist 23 = .ok (.iconst 4, 1) := by decide +kernel
theorem dX10_hoist_24 : decode cX10_hoist 24 = .ok (.if_icmp .ne 9, 3) := by decide +kernel
theorem dX10_hoist_27 : decode cX10_hoist 27 = .ok (.aload_n 0, 1) := by decide +kernel
theorem dX10_hoist_28 : decode cX10_hoist 28 = .ok (.iconst 2, 1) := by decide +kernel
theorem dX10_hoist_29 : decode cX10_hoist 29 = .ok (.invokevirtual 186, 3) := by decide +kernel
theorem dX10_hoist_32 : decode cX10_hoist 32 = .ok (.ireturn, 1) := by decide +kernel
theorem dX10_hoist_33 : decode cX10_hoist 33 = .ok (.aload_n 0, 1) := by decide +kernel
theorem dX10_hoist_34 : decode cX10_hoist 34 = .ok (.getfield 22, 3) := by decide +kernel
theorem dX10_hoist_37 : decode cX10_hoist 37 = .ok (.aload_n 0, 1) := by decide +kernel
theorem dX10_hoist_38 : decode cX10_hoist 38 = .ok (.getfield 154, 3) := by decide +kernel
theorem dX10_hoist_41 : decode cX10_hoist 41 = .ok (.iload_n 1, 1) := by decide +kernel
theorem dX10_hoist_42 : decode cX10_hoist 42 = .ok (.iastore, 1) := by decide +kernel
theorem dX10_hoist_43 : decode cX10_hoist 43 = .ok (.aload_n 0, 1) := by decide +kernel
theorem dX10_hoist_44 : decode cX10_hoist 44 = .ok (.dup, 1) := by decide +kernel
theorem dX10_hoist_45 : decode cX10_hoist 45 = .ok (.getfield 154, 3) := by decide +kernel
theorem dX10_hoist_48 : decode cX10_hoist 48 = .ok (.iconst 1, 1) := by decide +kernel
theorem dX10_hoist_49 : decode cX10_hoist 49 = .ok (.iadd, 1) := by decide +kernel
theorem dX10_hoist_50 : decode cX10_hoist 50 = .ok (.putfield 154, 3) := by decide +kernel
theorem dX10_hoist_53 : decode cX10_hoist 53 = .ok (.aload_n 0, 1) := by decide +kernel
theorem dX10_hoist_54 : decode cX10_hoist 54 = .ok (.getfield 154, 3) := by decide +kernel
theorem dX10_hoist_57 : decode cX10_hoist 57 = .ok (.ireturn, 1) := by decide +kernel
theorem dX10_unhoist_0 : decode cX10_unhoist 0 = .ok (.aload_n 0, 1) := by decide +kernel
theorem dX10_unhoist_1 : decode cX10_unhoist 1 = .ok (.iconst 0, 1) := by decide +kernel
theorem dX10_unhoist_2 : decode cX10_unhoist 2 = .ok (.putfield 139, 3) := by decide +kernel
theorem dX10_unhoist_5 : decode cX10_unhoist 5 = .ok (.aload_n 0, 1) := by decide +kernel
theorem dX10_unhoist_6 : decode cX10_unhoist 6 = .ok (.getfield 154, 3) := by decide +kernel
theorem dX10_unhoist_9 : decode cX10_unhoist 9 = .ok (.ifCond .ne 9, 3) := by decide +kernel
theorem dX10_unhoist_12 : decode cX10_unhoist 12 = .ok (.aload_n 0, 1) := by decide +kernel
theorem dX10_unhoist_13 : decode cX10_unhoist 13 = .ok (.iconst 1, 1) := by decide +kernel
theorem dX10_unhoist_14 : decode cX10_unhoist 14 = .ok (.invokevirtual 186, 3) := by decide +kernel
theorem dX10_unhoist_17 : decode cX10_unhoist 17 = .ok (.ireturn, 1) := by decide +kernel
theorem dX10_unhoist_18 : decode cX10_unhoist 18 = .ok (.aload_n 0, 1) := by decide +kernel
theorem dX10_unhoist_19 : decode cX10_unhoist 19 = .ok (.dup, 1) := by decide +kernel
theorem dX10_unhoist_20 : decode cX10_unhoist 20 = .ok (.getfield 154, 3) := by decide +kernel
theorem dX10_unhoist_23 : decode cX10_unhoist 23 = .ok (.iconst 1, 1) := by decide +kernel
theorem dX10_unhoist_24 : decode cX10_unhoist 24 = .ok (.isub, 1) := by decide +kernel
theorem dX10_unhoist_25 : decode cX10_unhoist 25 = .ok (.putfield 154, 3) := by decide +kernel
theorem dX10_unhoist_28 : decode cX10_unhoist 28 = .ok (.aload_n 0, 1) := by decide +kernel
theorem dX10_unhoist_29 : decode cX10_unhoist 29 = .ok (.invokevirtual 285, 3) := by decide +kernel
theorem dX10_unhoist_32 : decode cX10_unhoist 32 = .ok (.ireturn, 1) := by decide +kernel
theorem dX10_line_0 : decode cX10_line 0 = .ok (.aload_n 0, 1) := by decide +kernel
theorem dX10_line_1 : decode cX10_line 1 = .ok (.iconst 0, 1) := by decide +kernel
theorem dX10_line_2 : decode cX10_line 2 = .ok (.putfield 139, 3) := by decide +kernel
theorem dX10_line_5 : decode cX10_line 5 = .ok (.aload_n 0, 1) := by decide +kernel
theorem dX10_line_6 : decode cX10_line 6 = .ok (.invokevirtual 257, 3) := by decide +kernel
theorem dX10_line_9 : decode cX10_line 9 = .ok (.iload_n 1, 1) := by decide +kernel
theorem dX10_line_10 : decode cX10_line 10 = .ok (.iconst 0, 1) := by decide +kernel
theorem dX10_line_11 : decode cX10_line 11 = .ok (.aload_n 0, 1) := by decide +kernel
theorem dX10_line_12 : decode cX10_line 12 = .ok (.getfield 260, 3) := by decide +kernel
theorem dX10_line_15 : decode cX10_line 15 = .ok (.iconst 1, 1) := by decide +kernel
theorem dX10_line_16 : decode cX10_line 16 = .ok (.isub, 1) := by decide +kernel
theorem dX10_line_17 : decode cX10_line 17 = .ok (.invokestatic 142, 3) := by decide +kernel
theorem dX10_line_20 : decode cX10_line 20 = .ok (.ifCond .ne 9, 3) := by decide +kernel
theorem dX10_line_23 : decode cX10_line 23 = .ok (.aload_n 0, 1) := by decide +kernel
theorem dX10_line_24 : decode cX10_line 24 = .ok (.iconst 1, 1) := by decide +kernel
theorem dX10_line_25 : decode cX10_line 25 = .ok (.invokevirtual 186, 3) := by decide +kernel
theorem dX10_line_28 : decode cX10_line 28 = .ok (.ireturn, 1) := by decide +kernel
theorem dX10_line_29 : decode cX10_line 29 = .ok (.iload_n 2, 1) := by decide +kernel
theorem dX10_line_30 : decode cX10_line 30 = .ok (.tableswitch 91 0 5 #[38, 45, 52, 59, 66, 72], 38) := by decide +kernel
theorem dX10_line_68 : decode cX10_line 68 = .ok (.aload_n 0, 1) := by decide +kernel
theorem dX10_line_69 : decode cX10_line 69 = .ok (.getfield 88, 3) := by decide +kernel
theorem dX10_line_72 : decode cX10_line 72 = .ok (.iload_n 1, 1) := by decide +kernel
theorem dX10_line_73 : decode cX10_line 73 = .ok (.iaload, 1) := by decide +kernel
theorem dX10_line_74 : decode cX10_line 74 = .ok (.ireturn, 1) := by decide +kernel
theorem dX10_line_75 : decode cX10_line 75 = .ok (.aload_n 0, 1) := by decide +kernel
theorem dX10_line_76 : decode cX10_line 76 = .ok (.getfield 91, 3) := by decide +kernel
theorem dX10_line_79 : decode cX10_line 79 = .ok (.iload_n 1, 1) := by decide +kernel
theorem dX10_line_80 : decode cX10_line 80 = .ok (.iaload, 1) := by decide +kernel
theorem dX10_line_81 : decode cX10_line 81 = .ok (.ireturn, 1) := by decide +kernel
theorem dX10_line_82 : decode cX10_line 82 = .ok (.aload_n 0, 1) := by decide +kernel
theorem dX10_line_83 : decode cX10_line 83 = .ok (.getfield 94, 3) := by decide +kernel
theorem dX10_line_86 : decode cX10_line 86 = .ok (.iload_n 1, 1) := by decide +kernel
theorem dX10_line_87 : decode cX10_line 87 = .ok (.iaload, 1) := by decide +kernel
theorem dX10_line_88 : decode cX10_line 88 = .ok (.ireturn, 1) := by decide +kernel
theorem dX10_line_89 : decode cX10_line 89 = .ok (.aload_n 0, 1) := by decide +kernel
theorem dX10_line_90 : decode cX10_line 90 = .ok (.getfield 97, 3) := by decide +kernel
theorem dX10_line_93 : decode cX10_line 93 = .ok (.iload_n 1, 1) := by decide +kernel
theorem dX10_line_94 : decode cX10_line 94 = .ok (.iaload, 1) := by decide +kernel
theorem dX10_line_95 : decode cX10_line 95 = .ok (.ireturn, 1) := by decide +kernel
theorem dX10_line_96 : decode cX10_line 96 = .ok (.aload_n 0, 1) := by decide +kernel
theorem dX10_line_97 : decode cX10_line 97 = .ok (.iload_n 1, 1) := by decide +kernel
theorem dX10_line_98 : decode cX10_line 98 = .ok (.invokevirtual 345, 3) := by decide +kernel
theorem dX10_line_101 : decode cX10_line 101 = .ok (.ireturn, 1) := by decide +kernel
theorem dX10_line_102 : decode cX10_line 102 = .ok (.aload_n 0, 1) := by decide +kernel
theorem dX10_line_103 : decode cX10_line 103 = .ok (.aload_n 0, 1) := by decide +kernel
theorem dX10_line_104 : decode cX10_line 104 = .ok (.getfield 88, 3) := by decide +kernel
theorem dX10_line_107 : decode cX10_line 107 = .ok (.iload_n 1, 1) := by decide +kernel
theorem dX10_line_108 : decode cX10_line 108 = .ok (.iaload, 1) := by decide +kernel
theorem dX10_line_109 : decode cX10_line 109 = .ok (.invokevirtual 282, 3) := by decide +kernel
theorem dX10_line_112 : decode cX10_line 112 = .ok (.ifCond .eq 7, 3) := by decide +kernel
theorem dX10_line_115 : decode cX10_line 115 = .ok (.iconst 1, 1) := by decide +kernel
theorem dX10_line_116 : decode cX10_line 116 = .ok (.goto 4, 3) := by decide +kernel
theorem dX10_line_119 : decode cX10_line 119 = .ok (.iconst 0, 1) := by decide +kernel
theorem dX10_line_120 : decode cX10_line 120 = .ok (.ireturn, 1) := by decide +kernel
theorem dX10_line_121 : decode cX10_line 121 = .ok (.aload_n 0, 1) := by decide +kernel
theorem dX10_line_122 : decode cX10_line 122 = .ok (.iconst 2, 1) := by decide +kernel
theorem dX10_line_123 : decode cX10_line 123 = .ok (.invokevirtual 186, 3) := by decide +kernel
theorem dX10_line_126 : decode cX10_line 126 = .ok (.ireturn, 1) := by decide +kernel
theorem dX10_path_0 : decode cX10_path 0 = .ok (.aload_n 0, 1) := by decide +kernel
theorem dX10_path_1 : decode cX10_path 1 = .ok (.invokevirtual 257, 3) := by decide +kernel
theorem dX10_path_4 : decode cX10_path 4 = .ok (.aload_n 0, 1) := by decide +kernel
theorem dX10_path_5 : decode cX10_path 5 = .ok (.iload_n 1, 1) := by decide +kernel
theorem dX10_path_6 : decode cX10_path 6 = .ok (.iconst 0, 1) := by decide +kernel
theorem dX10_path_7 : decode cX10_path 7 = .ok (.aload_n 0, 1) := by decide +kernel
theorem dX10_path_8 : decode cX10_path 8 = .ok (.getfield 260, 3) := by decide +kernel
theorem dX10_path_11 : decode cX10_path 11 = .ok (.iconst 1, 1) := by decide +kernel
theorem dX10_path_12 : decode cX10_path 12 = .ok (.isub, 1) := by decide +kernel
theorem dX10_path_13 : decode cX10_path 13 = .ok (.invokestatic 142, 3) := by decide +kernel
theorem dX10_path_16 : decode cX10_path 16 = .ok (.ifCond .ne 7, 3) := by decide +kernel
theorem dX10_path_19 : decode cX10_path 19 = .ok (.iconst 1, 1) := by decide +kernel
theorem dX10_path_20 : decode cX10_path 20 = .ok (.goto 23, 3) := by decide +kernel
theorem dX10_path_23 : decode cX10_path 23 = .ok (.iload_n 2, 1) := by decide +kernel
theorem dX10_path_24 : decode cX10_path 24 = .ok (.iconst 0, 1) := by decide +kernel
theorem dX10_path_25 : decode cX10_path 25 = .ok (.aload_n 0, 1) := by decide +kernel
theorem dX10_path_26 : decode cX10_path 26 = .ok (.iload_n 1, 1) := by decide +kernel
theorem dX10_path_27 : decode cX10_path 27 = .ok (.invokevirtual 345, 3) := by decide +kernel
theorem dX10_path_30 : decode cX10_path 30 = .ok (.iconst 1, 1) := by decide +kernel
theorem dX10_path_31 : decode cX10_path 31 = .ok (.isub, 1) := by decide +kernel
theorem dX10_path_32 : decode cX10_path 32 = .ok (.invokestatic 142, 3) := by decide +kernel
theorem dX10_path_35 : decode cX10_path 35 = .ok (.ifCond .ne 7, 3) := by decide +kernel
theorem dX10_path_38 : decode cX10_path 38 = .ok (.iconst 2, 1) := by decide +kernel
theorem dX10_path_39 : decode cX10_path 39 = .ok (.goto 4, 3) := by decide +kernel
theorem dX10_path_42 : decode cX10_path 42 = .ok (.iconst 0, 1) := by decide +kernel
theorem dX10_path_43 : decode cX10_path 43 = .ok (.putfield 139, 3) := by decide +kernel
theorem dX10_path_46 : decode cX10_path 46 = .ok (.aload_n 0, 1) := by decide +kernel
theorem dX10_path_47 : decode cX10_path 47 = .ok (.getfield 139, 3) := by decide +kernel
theorem dX10_path_50 : decode cX10_path 50 = .ok (.ifCond .le 7, 3) := by decide +kernel
theorem dX10_path_53 : decode cX10_path 53 = .ok (.iconst 0, 1) := by decide +kernel
theorem dX10_path_54 : decode cX10_path 54 = .ok (.goto 10, 3) := by decide +kernel
theorem dX10_path_57 : decode cX10_path 57 = .ok (.aload_n 0, 1) := by decide +kernel
theorem dX10_path_58 : decode cX10_path 58 = .ok (.getfield 109, 3) := by decide +kernel
theorem dX10_path_61 : decode cX10_path 61 = .ok (.iload_n 2, 1) := by decide +kernel
theorem dX10_path_62 : decode cX10_path 62 = .ok (.iaload, 1) := by decide +kernel
theorem dX10_path_63 : decode cX10_path 63 = .ok (.i2c, 1) := by decide +kernel
theorem dX10_path_64 : decode cX10_path 64 = .ok (.ireturn, 1) := by decide +kernel
theorem dX10_lineOf_0 : decode cX10_lineOf 0 = .ok (.aload_n 0, 1) := by decide +kernel
theorem dX10_lineOf_1 : decode cX10_lineOf 1 = .ok (.iconst 0, 1) := by decide +kernel
theorem dX10_lineOf_2 : decode cX10_lineOf 2 = .ok (.putfield 139, 3) := by decide +kernel
theorem dX10_lineOf_5 : decode cX10_lineOf 5 = .ok (.aload_n 0, 1) := by decide +kernel
theorem dX10_lineOf_6 : decode cX10_lineOf 6 = .ok (.invokevirtual 257, 3) := by decide +kernel
theorem dX10_lineOf_9 : decode cX10_lineOf 9 = .ok (.iconst 0, 1) := by decide +kernel
theorem dX10_lineOf_10 : decode cX10_lineOf 10 = .ok (.istore_n 2, 1) := by decide +kernel
theorem dX10_lineOf_11 : decode cX10_lineOf 11 = .ok (.iload_n 2, 1) := by decide +kernel
theorem dX10_lineOf_12 : decode cX10_lineOf 12 = .ok (.aload_n 0, 1) := by decide +kernel
theorem dX10_lineOf_13 : decode cX10_lineOf 13 = .ok (.getfield 260, 3) := by decide +kernel
theorem dX10_lineOf_16 : decode cX10_lineOf 16 = .ok (.if_icmp .ge 21, 3) := by decide +kernel
theorem dX10_lineOf_19 : decode cX10_lineOf 19 = .ok (.aload_n 0, 1) := by decide +kernel
theorem dX10_lineOf_20 : decode cX10_lineOf 20 = .ok (.getfield 88, 3) := by decide +kernel
theorem dX10_lineOf_23 : decode cX10_lineOf 23 = .ok (.iload_n 2, 1) := by decide +kernel
theorem dX10_lineOf_24 : decode cX10_lineOf 24 = .ok (.iaload, 1) := by decide +kernel
theorem dX10_lineOf_25 : decode cX10_lineOf 25 = .ok (.iload_n 1, 1) := by decide +kernel
theorem dX10_lineOf_26 : decode cX10_lineOf 26 = .ok (.if_icmp .ne 5, 3) := by decide +kernel
theorem dX10_lineOf_29 : decode cX10_lineOf 29 = .ok (.iload_n 2, 1) := by decide +kernel
theorem dX10_lineOf_30 : decode cX10_lineOf 30 = .ok (.ireturn, 1) := by decide +kernel
theorem dX10_lineOf_31 : decode cX10_lineOf 31 = .ok (.iinc 2 1, 3) := by decide +kernel
theorem dX10_lineOf_34 : decode cX10_lineOf 34 = .ok (.goto (-23), 3) := by decide +kernel
theorem dX10_lineOf_37 : decode cX10_lineOf 37 = .ok (.iconst (-1), 1) := by decide +kernel
theorem dX10_lineOf_38 : decode cX10_lineOf 38 = .ok (.ireturn, 1) := by decide +kernel
theorem dX10_levelMost_0 : decode cX10_levelMost 0 = .ok (.aload_n 0, 1) := by decide +kernel
theorem dX10_levelMost_1 : decode cX10_levelMost 1 = .ok (.getfield 348, 3) := by decide +kernel
theorem dX10_levelMost_4 : decode cX10_levelMost 4 = .ok (.ifCond .ne 7, 3) := by decide +kernel
theorem dX10_levelMost_7 : decode cX10_levelMost 7 = .ok (.iconst 0, 1) := by decide +kernel
theorem dX10_levelMost_8 : decode cX10_levelMost 8 = .ok (.goto 45, 3) := by decide +kernel
theorem dX10_levelMost_11 : decode cX10_levelMost 11 = .ok (.aload_n 0, 1) := by decide +kernel
theorem dX10_levelMost_12 : decode cX10_levelMost 12 = .ok (.getfield 130, 3) := by decide +kernel
theorem dX10_levelMost_15 : decode cX10_levelMost 15 = .ok (.aload_n 0, 1) := by decide +kernel
theorem dX10_levelMost_16 : decode cX10_levelMost 16 = .ok (.getfield 348, 3) := by decide +kernel
theorem dX10_levelMost_19 : decode cX10_levelMost 19 = .ok (.iconst 1, 1) := by decide +kernel
theorem dX10_levelMost_20 : decode cX10_levelMost 20 = .ok (.isub, 1) := by decide +kernel
theorem dX10_levelMost_21 : decode cX10_levelMost 21 = .ok (.iaload, 1) := by decide +kernel
theorem dX10_levelMost_22 : decode cX10_levelMost 22 = .ok (.iconst (-1), 1) := by decide +kernel
theorem dX10_levelMost_23 : decode cX10_levelMost 23 = .ok (.if_icmp .eq 17, 3) := by decide +kernel
theorem dX10_levelMost_26 : decode cX10_levelMost 26 = .ok (.aload_n 0, 1) := by decide +kernel
theorem dX10_levelMost_27 : decode cX10_levelMost 27 = .ok (.getfield 112, 3) := by decide +kernel
theorem dX10_levelMost_30 : decode cX10_levelMost 30 = .ok (.aload_n 0, 1) := by decide +kernel
theorem dX10_levelMost_31 : decode cX10_levelMost 31 = .ok (.getfield 348, 3) := by decide +kernel
theorem dX10_levelMost_34 : decode cX10_levelMost 34 = .ok (.iconst 1, 1) := by decide +kernel
theorem dX10_levelMost_35 : decode cX10_levelMost 35 = .ok (.isub, 1) := by decide +kernel
theorem dX10_levelMost_36 : decode cX10_levelMost 36 = .ok (.iaload, 1) := by decide +kernel
theorem dX10_levelMost_37 : decode cX10_levelMost 37 = .ok (.goto 16, 3) := by decide +kernel
theorem dX10_levelMost_40 : decode cX10_levelMost 40 = .ok (.aload_n 0, 1) := by decide +kernel
theorem dX10_levelMost_41 : decode cX10_levelMost 41 = .ok (.getfield 112, 3) := by decide +kernel
theorem dX10_levelMost_44 : decode cX10_levelMost 44 = .ok (.aload_n 0, 1) := by decide +kernel
theorem dX10_levelMost_45 : decode cX10_levelMost 45 = .ok (.getfield 348, 3) := by decide +kernel
theorem dX10_levelMost_48 : decode cX10_levelMost 48 = .ok (.iconst 1, 1) := by decide +kernel
theorem dX10_levelMost_49 : decode cX10_levelMost 49 = .ok (.isub, 1) := by decide +kernel
theorem dX10_levelMost_50 : decode cX10_levelMost 50 = .ok (.iaload, 1) := by decide +kernel
theorem dX10_levelMost_51 : decode cX10_levelMost 51 = .ok (.iconst 1, 1) := by decide +kernel
theorem dX10_levelMost_52 : decode cX10_levelMost 52 = .ok (.iadd, 1) := by decide +kernel
theorem dX10_levelMost_53 : decode cX10_levelMost 53 = .ok (.ireturn, 1) := by decide +kernel
theorem dX10_readsEntry_0 : decode cX10_readsEntry 0 = .ok (.aload_n 0, 1) := by decide +kernel
theorem dX10_readsEntry_1 : decode cX10_readsEntry 1 = .ok (.invokevirtual 351, 3) := by decide +kernel
theorem dX10_readsEntry_4 : decode cX10_readsEntry 4 = .ok (.istore_n 1, 1) := by decide +kernel
theorem dX10_readsEntry_5 : decode cX10_readsEntry 5 = .ok (.iconst 0, 1) := by decide +kernel
theorem dX10_readsEntry_6 : decode cX10_readsEntry 6 = .ok (.istore_n 2, 1) := by decide +kernel
theorem dX10_readsEntry_7 : decode cX10_readsEntry 7 = .ok (.aload_n 0, 1) := by decide +kernel
theorem dX10_readsEntry_8 : decode cX10_readsEntry 8 = .ok (.getfield 205, 3) := by decide +kernel
theorem dX10_readsEntry_11 : decode cX10_readsEntry 11 = .ok (.ifCond .eq 65, 3) := by decide +kernel
theorem dX10_readsEntry_14 : decode cX10_readsEntry 14 = .ok (.aload_n 0, 1) := by decide +kernel
theorem dX10_readsEntry_15 : decode cX10_readsEntry 15 = .ok (.invokevirtual 209, 3) := by decide +kernel
theorem dX10_readsEntry_18 : decode cX10_readsEntry 18 = .ok (.bipush 46, 2) := by decide +kernel
theorem dX10_readsEntry_20 : decode cX10_readsEntry 20 = .ok (.if_icmp .ne 56, 3) := by decide +kernel
theorem dX10_readsEntry_23 : decode cX10_readsEntry 23 = .ok (.aload_n 0, 1) := by decide +kernel
theorem dX10_readsEntry_24 : decode cX10_readsEntry 24 = .ok (.iload_n 2, 1) := by decide +kernel
theorem dX10_readsEntry_25 : decode cX10_readsEntry 25 = .ok (.iload_n 1, 1) := by decide +kernel
theorem dX10_readsEntry_26 : decode cX10_readsEntry 26 = .ok (.if_icmp .ge 7, 3) := by decide +kernel
theorem dX10_readsEntry_29 : decode cX10_readsEntry 29 = .ok (.iconst 1, 1) := by decide +kernel
theorem dX10_readsEntry_30 : decode cX10_readsEntry 30 = .ok (.goto 4, 3) := by decide +kernel
theorem dX10_readsEntry_33 : decode cX10_readsEntry 33 = .ok (.iconst 0, 1) := by decide +kernel
theorem dX10_readsEntry_34 : decode cX10_readsEntry 34 = .ok (.putfield 205, 3) := by decide +kernel
theorem dX10_readsEntry_37 : decode cX10_readsEntry 37 = .ok (.iload_n 2, 1) := by decide +kernel
theorem dX10_readsEntry_38 : decode cX10_readsEntry 38 = .ok (.aload_n 0, 1) := by decide +kernel
theorem dX10_readsEntry_39 : decode cX10_readsEntry 39 = .ok (.getfield 205, 3) := by decide +kernel
theorem dX10_readsEntry_42 : decode cX10_readsEntry 42 = .ok (.ifCond .eq 7, 3) := by decide +kernel
theorem dX10_readsEntry_45 : decode cX10_readsEntry 45 = .ok (.iconst 1, 1) := by decide +kernel
theorem dX10_readsEntry_46 : decode cX10_readsEntry 46 = .ok (.goto 4, 3) := by decide +kernel
theorem dX10_readsEntry_49 : decode cX10_readsEntry 49 = .ok (.iconst 0, 1) := by decide +kernel
theorem dX10_readsEntry_50 : decode cX10_readsEntry 50 = .ok (.iadd, 1) := by decide +kernel
theorem dX10_readsEntry_51 : decode cX10_readsEntry 51 = .ok (.istore_n 2, 1) := by decide +kernel
theorem dX10_readsEntry_52 : decode cX10_readsEntry 52 = .ok (.aload_n 0, 1) := by decide +kernel
theorem dX10_readsEntry_53 : decode cX10_readsEntry 53 = .ok (.dup, 1) := by decide +kernel
theorem dX10_readsEntry_54 : decode cX10_readsEntry 54 = .ok (.getfield 199, 3) := by decide +kernel
theorem dX10_readsEntry_57 : decode cX10_readsEntry 57 = .ok (.aload_n 0, 1) := by decide +kernel
theorem dX10_readsEntry_58 : decode cX10_readsEntry 58 = .ok (.getfield 205, 3) := by decide +kernel
theorem dX10_readsEntry_61 : decode cX10_readsEntry 61 = .ok (.ifCond .eq 7, 3) := by decide +kernel
theorem dX10_readsEntry_64 : decode cX10_readsEntry 64 = .ok (.iconst 1, 1) := by decide +kernel
theorem dX10_readsEntry_65 : decode cX10_readsEntry 65 = .ok (.goto 4, 3) := by decide +kernel
theorem dX10_readsEntry_68 : decode cX10_readsEntry 68 = .ok (.iconst 0, 1) := by decide +kernel
theorem dX10_readsEntry_69 : decode cX10_readsEntry 69 = .ok (.iadd, 1) := by decide +kernel
theorem dX10_readsEntry_70 : decode cX10_readsEntry 70 = .ok (.putfield 199, 3) := by decide +kernel
theorem dX10_readsEntry_73 : decode cX10_readsEntry 73 = .ok (.goto (-66), 3) := by decide +kernel
theorem dX10_readsEntry_76 : decode cX10_readsEntry 76 = .ok (.aload_n 0, 1) := by decide +kernel
theorem dX10_readsEntry_77 : decode cX10_readsEntry 77 = .ok (.getfield 205, 3) := by decide +kernel
theorem dX10_readsEntry_80 : decode cX10_readsEntry 80 = .ok (.ifCond .ne 4, 3) := by decide +kernel
theorem dX10_readsEntry_83 : decode cX10_readsEntry 83 = .ok (.return_, 1) := by decide +kernel
theorem dX10_readsEntry_84 : decode cX10_readsEntry 84 = .ok (.aload_n 0, 1) := by decide +kernel
theorem dX10_readsEntry_85 : decode cX10_readsEntry 85 = .ok (.getfield 112, 3) := by decide +kernel
theorem dX10_readsEntry_88 : decode cX10_readsEntry 88 = .ok (.aload_n 0, 1) := by decide +kernel
theorem dX10_readsEntry_89 : decode cX10_readsEntry 89 = .ok (.getfield 348, 3) := by decide +kernel
theorem dX10_readsEntry_92 : decode cX10_readsEntry 92 = .ok (.iload_n 2, 1) := by decide +kernel
theorem dX10_readsEntry_93 : decode cX10_readsEntry 93 = .ok (.iastore, 1) := by decide +kernel
theorem dX10_readsEntry_94 : decode cX10_readsEntry 94 = .ok (.aload_n 0, 1) := by decide +kernel
theorem dX10_readsEntry_95 : decode cX10_readsEntry 95 = .ok (.getfield 121, 3) := by decide +kernel
theorem dX10_readsEntry_98 : decode cX10_readsEntry 98 = .ok (.aload_n 0, 1) := by decide +kernel
theorem dX10_readsEntry_99 : decode cX10_readsEntry 99 = .ok (.getfield 348, 3) := by decide +kernel
theorem dX10_readsEntry_102 : decode cX10_readsEntry 102 = .ok (.iconst (-1), 1) := by decide +kernel
theorem dX10_readsEntry_103 : decode cX10_readsEntry 103 = .ok (.iastore, 1) := by decide +kernel
theorem dX10_readsEntry_104 : decode cX10_readsEntry 104 = .ok (.aload_n 0, 1) := by decide +kernel
theorem dX10_readsEntry_105 : decode cX10_readsEntry 105 = .ok (.getfield 124, 3) := by decide +kernel
theorem dX10_readsEntry_108 : decode cX10_readsEntry 108 = .ok (.aload_n 0, 1) := by decide +kernel
theorem dX10_readsEntry_109 : decode cX10_readsEntry 109 = .ok (.getfield 348, 3) := by decide +kernel
theorem dX10_readsEntry_112 : decode cX10_readsEntry 112 = .ok (.iconst 0, 1) := by decide +kernel
theorem dX10_readsEntry_113 : decode cX10_readsEntry 113 = .ok (.iastore, 1) := by decide +kernel
theorem dX10_readsEntry_114 : decode cX10_readsEntry 114 = .ok (.aload_n 0, 1) := by decide +kernel
theorem dX10_readsEntry_115 : decode cX10_readsEntry 115 = .ok (.getfield 127, 3) := by decide +kernel
theorem dX10_readsEntry_118 : decode cX10_readsEntry 118 = .ok (.aload_n 0, 1) := by decide +kernel
theorem dX10_readsEntry_119 : decode cX10_readsEntry 119 = .ok (.getfield 348, 3) := by decide +kernel
theorem dX10_readsEntry_122 : decode cX10_readsEntry 122 = .ok (.iconst 0, 1) := by decide +kernel
theorem dX10_readsEntry_123 : decode cX10_readsEntry 123 = .ok (.iastore, 1) := by decide +kernel
theorem dX10_readsEntry_124 : decode cX10_readsEntry 124 = .ok (.aload_n 0, 1) := by decide +kernel
theorem dX10_readsEntry_125 : decode cX10_readsEntry 125 = .ok (.getfield 130, 3) := by decide +kernel
theorem dX10_readsEntry_128 : decode cX10_readsEntry 128 = .ok (.aload_n 0, 1) := by decide +kernel
theorem dX10_readsEntry_129 : decode cX10_readsEntry 129 = .ok (.getfield 348, 3) := by decide +kernel
theorem dX10_readsEntry_132 : decode cX10_readsEntry 132 = .ok (.iconst (-1), 1) := by decide +kernel
theorem dX10_readsEntry_133 : decode cX10_readsEntry 133 = .ok (.iastore, 1) := by decide +kernel
theorem dX10_readsEntry_134 : decode cX10_readsEntry 134 = .ok (.aload_n 0, 1) := by decide +kernel
theorem dX10_readsEntry_135 : decode cX10_readsEntry 135 = .ok (.invokevirtual 209, 3) := by decide +kernel
theorem dX10_readsEntry_138 : decode cX10_readsEntry 138 = .ok (.bipush 42, 2) := by decide +kernel
theorem dX10_readsEntry_140 : decode cX10_readsEntry 140 = .ok (.if_icmp .ne 75, 3) := by decide +kernel
theorem dX10_readsEntry_143 : decode cX10_readsEntry 143 = .ok (.aload_n 0, 1) := by decide +kernel
theorem dX10_readsEntry_144 : decode cX10_readsEntry 144 = .ok (.getfield 348, 3) := by decide +kernel
theorem dX10_readsEntry_147 : decode cX10_readsEntry 147 = .ok (.ifCond .le 68, 3) := by decide +kernel
theorem dX10_readsEntry_150 : decode cX10_readsEntry 150 = .ok (.aload_n 0, 1) := by decide +kernel
theorem dX10_readsEntry_151 : decode cX10_readsEntry 151 = .ok (.dup, 1) := by decide +kernel
theorem dX10_readsEntry_152 : decode cX10_readsEntry 152 = .ok (.getfield 199, 3) := by decide +kernel
theorem dX10_readsEntry_155 : decode cX10_readsEntry 155 = .ok (.iconst 1, 1) := by decide +kernel
theorem dX10_readsEntry_156 : decode cX10_readsEntry 156 = .ok (.iadd, 1) := by decide +kernel
theorem dX10_readsEntry_157 : decode cX10_readsEntry 157 = .ok (.putfield 199, 3) := by decide +kernel
theorem dX10_readsEntry_160 : decode cX10_readsEntry 160 = .ok (.aload_n 0, 1) := by decide +kernel
theorem dX10_readsEntry_161 : decode cX10_readsEntry 161 = .ok (.getfield 199, 3) := by decide +kernel
theorem dX10_readsEntry_164 : decode cX10_readsEntry 164 = .ok (.istore_n 3, 1) := by decide +kernel
theorem dX10_readsEntry_165 : decode cX10_readsEntry 165 = .ok (.aload_n 0, 1) := by decide +kernel
theorem dX10_readsEntry_166 : decode cX10_readsEntry 166 = .ok (.getfield 130, 3) := by decide +kernel
theorem dX10_readsEntry_169 : decode cX10_readsEntry 169 = .ok (.aload_n 0, 1) := by decide +kernel
theorem dX10_readsEntry_170 : decode cX10_readsEntry 170 = .ok (.getfield 348, 3) := by decide +kernel
theorem dX10_readsEntry_173 : decode cX10_readsEntry 173 = .ok (.aload_n 0, 1) := by decide +kernel
theorem dX10_readsEntry_174 : decode cX10_readsEntry 174 = .ok (.iconst 3, 1) := by decide +kernel
theorem dX10_readsEntry_175 : decode cX10_readsEntry 175 = .ok (.invokevirtual 319, 3) := by decide +kernel
theorem dX10_readsEntry_178 : decode cX10_readsEntry 178 = .ok (.iastore, 1) := by decide +kernel
theorem dX10_readsEntry_179 : decode cX10_readsEntry 179 = .ok (.aload_n 0, 1) := by decide +kernel
theorem dX10_readsEntry_180 : decode cX10_readsEntry 180 = .ok (.getfield 205, 3) := by decide +kernel
theorem dX10_readsEntry_183 : decode cX10_readsEntry 183 = .ok (.ifCond .eq 29, 3) := by decide +kernel
theorem dX10_readsEntry_186 : decode cX10_readsEntry 186 = .ok (.aload_n 0, 1) := by decide +kernel
theorem dX10_readsEntry_187 : decode cX10_readsEntry 187 = .ok (.getfield 130, 3) := by decide +kernel
theorem dX10_readsEntry_190 : decode cX10_readsEntry 190 = .ok (.aload_n 0, 1) := by decide +kernel
theorem dX10_readsEntry_191 : decode cX10_readsEntry 191 = .ok (.getfield 348, 3) := by decide +kernel
theorem dX10_readsEntry_194 : decode cX10_readsEntry 194 = .ok (.iaload, 1) := by decide +kernel
theorem dX10_readsEntry_195 : decode cX10_readsEntry 195 = .ok (.aload_n 0, 1) := by decide +kernel
theorem dX10_readsEntry_196 : decode cX10_readsEntry 196 = .ok (.getfield 348, 3) := by decide +kernel
theorem dX10_readsEntry_199 : decode cX10_readsEntry 199 = .ok (.if_icmp .lt 13, 3) := by decide +kernel
theorem dX10_readsEntry_202 : decode cX10_readsEntry 202 = .ok (.aload_n 0, 1) := by decide +kernel
theorem dX10_readsEntry_203 : decode cX10_readsEntry 203 = .ok (.iconst 0, 1) := by decide +kernel
theorem dX10_readsEntry_204 : decode cX10_readsEntry 204 = .ok (.putfield 205, 3) := by decide +kernel
theorem dX10_readsEntry_207 : decode cX10_readsEntry 207 = .ok (.aload_n 0, 1) := by decide +kernel
theorem dX10_readsEntry_208 : decode cX10_readsEntry 208 = .ok (.iload_n 3, 1) := by decide +kernel
theorem dX10_readsEntry_209 : decode cX10_readsEntry 209 = .ok (.putfield 199, 3) := by decide +kernel
theorem dX10_readsEntry_212 : decode cX10_readsEntry 212 = .ok (.goto 33, 3) := by decide +kernel
theorem dX10_readsEntry_215 : decode cX10_readsEntry 215 = .ok (.aload_n 0, 1) := by decide +kernel
theorem dX10_readsEntry_216 : decode cX10_readsEntry 216 = .ok (.getfield 115, 3) := by decide +kernel
theorem dX10_readsEntry_219 : decode cX10_readsEntry 219 = .ok (.aload_n 0, 1) := by decide +kernel
theorem dX10_readsEntry_220 : decode cX10_readsEntry 220 = .ok (.getfield 348, 3) := by decide +kernel
theorem dX10_readsEntry_223 : decode cX10_readsEntry 223 = .ok (.aload_n 0, 1) := by decide +kernel
theorem dX10_readsEntry_224 : decode cX10_readsEntry 224 = .ok (.invokevirtual 215, 3) := by decide +kernel
theorem dX10_readsEntry_227 : decode cX10_readsEntry 227 = .ok (.iastore, 1) := by decide +kernel
theorem dX10_readsEntry_228 : decode cX10_readsEntry 228 = .ok (.aload_n 0, 1) := by decide +kernel
theorem dX10_readsEntry_229 : decode cX10_readsEntry 229 = .ok (.getfield 118, 3) := by decide +kernel
theorem dX10_readsEntry_232 : decode cX10_readsEntry 232 = .ok (.aload_n 0, 1) := by decide +kernel
theorem dX10_readsEntry_233 : decode cX10_readsEntry 233 = .ok (.getfield 348, 3) := by decide +kernel
theorem dX10_readsEntry_236 : decode cX10_readsEntry 236 = .ok (.aload_n 0, 1) := by decide +kernel
theorem dX10_readsEntry_237 : decode cX10_readsEntry 237 = .ok (.getfield 199, 3) := by decide +kernel
theorem dX10_readsEntry_240 : decode cX10_readsEntry 240 = .ok (.iastore, 1) := by decide +kernel
theorem dX10_readsEntry_241 : decode cX10_readsEntry 241 = .ok (.aload_n 0, 1) := by decide +kernel
theorem dX10_readsEntry_242 : decode cX10_readsEntry 242 = .ok (.invokevirtual 354, 3) := by decide +kernel
theorem dX10_readsEntry_245 : decode cX10_readsEntry 245 = .ok (.aload_n 0, 1) := by decide +kernel
theorem dX10_readsEntry_246 : decode cX10_readsEntry 246 = .ok (.dup, 1) := by decide +kernel
theorem dX10_readsEntry_247 : decode cX10_readsEntry 247 = .ok (.getfield 348, 3) := by decide +kernel
theorem dX10_readsEntry_250 : decode cX10_readsEntry 250 = .ok (.iconst 1, 1) := by decide +kernel
theorem dX10_readsEntry_251 : decode cX10_readsEntry 251 = .ok (.iadd, 1) := by decide +kernel
theorem dX10_readsEntry_252 : decode cX10_readsEntry 252 = .ok (.putfield 348, 3) := by decide +kernel
theorem dX10_readsEntry_255 : decode cX10_readsEntry 255 = .ok (.return_, 1) := by decide +kernel
theorem dX10_readsMarks_0 : decode cX10_readsMarks 0 = .ok (.iconst 0, 1) := by decide +kernel
theorem dX10_readsMarks_1 : decode cX10_readsMarks 1 = .ok (.istore_n 1, 1) := by decide +kernel
theorem dX10_readsMarks_2 : decode cX10_readsMarks 2 = .ok (.aload_n 0, 1) := by decide +kernel
theorem dX10_readsMarks_3 : decode cX10_readsMarks 3 = .ok (.bipush 64, 2) := by decide +kernel
theorem dX10_readsMarks_5 : decode cX10_readsMarks 5 = .ok (.invokevirtual 316, 3) := by decide +kernel
theorem dX10_readsMarks_8 : decode cX10_readsMarks 8 = .ok (.ifCond .eq 19, 3) := by decide +kernel
theorem dX10_readsMarks_11 : decode cX10_readsMarks 11 = .ok (.aload_n 0, 1) := by decide +kernel
theorem dX10_readsMarks_12 : decode cX10_readsMarks 12 = .ok (.getfield 121, 3) := by decide +kernel
theorem dX10_readsMarks_15 : decode cX10_readsMarks 15 = .ok (.aload_n 0, 1) := by decide +kernel
theorem dX10_readsMarks_16 : decode cX10_readsMarks 16 = .ok (.getfield 348, 3) := by decide +kernel
theorem dX10_readsMarks_19 : decode cX10_readsMarks 19 = .ok (.aload_n 0, 1) := by decide +kernel
theorem dX10_readsMarks_20 : decode cX10_readsMarks 20 = .ok (.iconst 4, 1) := by decide +kernel
theorem dX10_readsMarks_21 : decode cX10_readsMarks 21 = .ok (.invokevirtual 319, 3) := by decide +kernel
theorem dX10_readsMarks_24 : decode cX10_readsMarks 24 = .ok (.iastore, 1) := by decide +kernel
theorem dX10_readsMarks_25 : decode cX10_readsMarks 25 = .ok (.iconst 1, 1) := by decide +kernel
theorem dX10_readsMarks_26 : decode cX10_readsMarks 26 = .ok (.istore_n 1, 1) := by decide +kernel
theorem dX10_readsMarks_27 : decode cX10_readsMarks 27 = .ok (.aload_n 0, 1) := by decide +kernel
theorem dX10_readsMarks_28 : decode cX10_readsMarks 28 = .ok (.bipush 61, 2) := by decide +kernel
theorem dX10_readsMarks_30 : decode cX10_readsMarks 30 = .ok (.invokevirtual 316, 3) := by decide +kernel
theorem dX10_readsMarks_33 : decode cX10_readsMarks 33 = .ok (.ifCond .eq 18, 3) := by decide +kernel
theorem dX10_readsMarks_36 : decode cX10_readsMarks 36 = .ok (.aload_n 0, 1) := by decide +kernel
theorem dX10_readsMarks_37 : decode cX10_readsMarks 37 = .ok (.getfield 124, 3) := by decide +kernel
theorem dX10_readsMarks_40 : decode cX10_readsMarks 40 = .ok (.aload_n 0, 1) := by decide +kernel
theorem dX10_readsMarks_41 : decode cX10_readsMarks 41 = .ok (.getfield 348, 3) := by decide +kernel
theorem dX10_readsMarks_44 : decode cX10_readsMarks 44 = .ok (.aload_n 0, 1) := by decide +kernel
theorem dX10_readsMarks_45 : decode cX10_readsMarks 45 = .ok (.invokevirtual 333, 3) := by decide +kernel
theorem dX10_readsMarks_48 : decode cX10_readsMarks 48 = .ok (.iastore, 1) := by decide +kernel
theorem dX10_readsMarks_49 : decode cX10_readsMarks 49 = .ok (.iconst 1, 1) := by decide +kernel
theorem dX10_readsMarks_50 : decode cX10_readsMarks 50 = .ok (.istore_n 1, 1) := by decide +kernel
theorem dX10_readsMarks_51 : decode cX10_readsMarks 51 = .ok (.iload_n 1, 1) := by decide +kernel
theorem dX10_readsMarks_52 : decode cX10_readsMarks 52 = .ok (.ifCond .eq 22, 3) := by decide +kernel
theorem dX10_readsMarks_55 : decode cX10_readsMarks 55 = .ok (.aload_n 0, 1) := by decide +kernel
theorem dX10_readsMarks_56 : decode cX10_readsMarks 56 = .ok (.bipush 120, 2) := by decide +kernel
theorem dX10_readsMarks_58 : decode cX10_readsMarks 58 = .ok (.invokevirtual 316, 3) := by decide +kernel
theorem dX10_readsMarks_61 : decode cX10_readsMarks 61 = .ok (.ifCond .eq 13, 3) := by decide +kernel
theorem dX10_readsMarks_64 : decode cX10_readsMarks 64 = .ok (.aload_n 0, 1) := by decide +kernel
theorem dX10_readsMarks_65 : decode cX10_readsMarks 65 = .ok (.getfield 127, 3) := by decide +kernel
theorem dX10_readsMarks_68 : decode cX10_readsMarks 68 = .ok (.aload_n 0, 1) := by decide +kernel
theorem dX10_readsMarks_69 : decode cX10_readsMarks 69 = .ok (.getfield 348, 3) := by decide +kernel
theorem dX10_readsMarks_72 : decode cX10_readsMarks 72 = .ok (.iconst 1, 1) := by decide +kernel
theorem dX10_readsMarks_73 : decode cX10_readsMarks 73 = .ok (.iastore, 1) := by decide +kernel
theorem dX10_readsMarks_74 : decode cX10_readsMarks 74 = .ok (.return_, 1) := by decide +kernel
theorem dX10_readsOutline_0 : decode cX10_readsOutline 0 = .ok (.aload_n 0, 1) := by decide +kernel
theorem dX10_readsOutline_1 : decode cX10_readsOutline 1 = .ok (.invokevirtual 212, 3) := by decide +kernel
theorem dX10_readsOutline_4 : decode cX10_readsOutline 4 = .ok (.aload_n 0, 1) := by decide +kernel
theorem dX10_readsOutline_5 : decode cX10_readsOutline 5 = .ok (.iconst 0, 1) := by decide +kernel
theorem dX10_readsOutline_6 : decode cX10_readsOutline 6 = .ok (.putfield 348, 3) := by decide +kernel
theorem dX10_readsOutline_9 : decode cX10_readsOutline 9 = .ok (.aload_n 0, 1) := by decide +kernel
theorem dX10_readsOutline_10 : decode cX10_readsOutline 10 = .ok (.invokevirtual 357, 3) := by decide +kernel
theorem dX10_readsOutline_13 : decode cX10_readsOutline 13 = .ok (.aload_n 0, 1) := by decide +kernel
theorem dX10_readsOutline_14 : decode cX10_readsOutline 14 = .ok (.getfield 205, 3) := by decide +kernel
theorem dX10_readsOutline_17 : decode cX10_readsOutline 17 = .ok (.ifCond .eq 56, 3) := by decide +kernel
theorem dX10_readsOutline_20 : decode cX10_readsOutline 20 = .ok (.aload_n 0, 1) := by decide +kernel
theorem dX10_readsOutline_21 : decode cX10_readsOutline 21 = .ok (.getfield 199, 3) := by decide +kernel
theorem dX10_readsOutline_24 : decode cX10_readsOutline 24 = .ok (.aload_n 0, 1) := by decide +kernel
theorem dX10_readsOutline_25 : decode cX10_readsOutline 25 = .ok (.getfield 202, 3) := by decide +kernel
theorem dX10_readsOutline_28 : decode cX10_readsOutline 28 = .ok (.if_icmp .ge 45, 3) := by decide +kernel
theorem dX10_readsOutline_31 : decode cX10_readsOutline 31 = .ok (.aload_n 0, 1) := by decide +kernel
theorem dX10_readsOutline_32 : decode cX10_readsOutline 32 = .ok (.aload_n 0, 1) := by decide +kernel
theorem dX10_readsOutline_33 : decode cX10_readsOutline 33 = .ok (.invokevirtual 209, 3) := by decide +kernel
theorem dX10_readsOutline_36 : decode cX10_readsOutline 36 = .ok (.bipush 59, 2) := by decide +kernel
theorem dX10_readsOutline_38 : decode cX10_readsOutline 38 = .ok (.if_icmp .ne 7, 3) := by decide +kernel
theorem dX10_readsOutline_41 : decode cX10_readsOutline 41 = .ok (.iconst 1, 1) := by decide +kernel
theorem dX10_readsOutline_42 : decode cX10_readsOutline 42 = .ok (.goto 4, 3) := by decide +kernel
theorem dX10_readsOutline_45 : decode cX10_readsOutline 45 = .ok (.iconst 0, 1) := by decide +kernel
theorem dX10_readsOutline_46 : decode cX10_readsOutline 46 = .ok (.putfield 205, 3) := by decide +kernel
theorem dX10_readsOutline_49 : decode cX10_readsOutline 49 = .ok (.aload_n 0, 1) := by decide +kernel
theorem dX10_readsOutline_50 : decode cX10_readsOutline 50 = .ok (.getfield 205, 3) := by decide +kernel
theorem dX10_readsOutline_53 : decode cX10_readsOutline 53 = .ok (.ifCond .eq (-40), 3) := by decide +kernel
theorem dX10_readsOutline_56 : decode cX10_readsOutline 56 = .ok (.aload_n 0, 1) := by decide +kernel
theorem dX10_readsOutline_57 : decode cX10_readsOutline 57 = .ok (.dup, 1) := by decide +kernel
theorem dX10_readsOutline_58 : decode cX10_readsOutline 58 = .ok (.getfield 199, 3) := by decide +kernel
theorem dX10_readsOutline_61 : decode cX10_readsOutline 61 = .ok (.iconst 1, 1) := by decide +kernel
theorem dX10_readsOutline_62 : decode cX10_readsOutline 62 = .ok (.iadd, 1) := by decide +kernel
theorem dX10_readsOutline_63 : decode cX10_readsOutline 63 = .ok (.putfield 199, 3) := by decide +kernel
theorem dX10_readsOutline_66 : decode cX10_readsOutline 66 = .ok (.aload_n 0, 1) := by decide +kernel
theorem dX10_readsOutline_67 : decode cX10_readsOutline 67 = .ok (.invokevirtual 357, 3) := by decide +kernel
theorem dX10_readsOutline_70 : decode cX10_readsOutline 70 = .ok (.goto (-57), 3) := by decide +kernel
theorem dX10_readsOutline_73 : decode cX10_readsOutline 73 = .ok (.aload_n 0, 1) := by decide +kernel
theorem dX10_readsOutline_74 : decode cX10_readsOutline 74 = .ok (.aload_n 0, 1) := by decide +kernel
theorem dX10_readsOutline_75 : decode cX10_readsOutline 75 = .ok (.getfield 205, 3) := by decide +kernel
theorem dX10_readsOutline_78 : decode cX10_readsOutline 78 = .ok (.ifCond .eq 10, 3) := by decide +kernel
theorem dX10_readsOutline_81 : decode cX10_readsOutline 81 = .ok (.aload_n 0, 1) := by decide +kernel
theorem dX10_readsOutline_82 : decode cX10_readsOutline 82 = .ok (.getfield 28, 3) := by decide +kernel
theorem dX10_readsOutline_85 : decode cX10_readsOutline 85 = .ok (.goto 7, 3) := by decide +kernel
theorem dX10_readsOutline_88 : decode cX10_readsOutline 88 = .ok (.aload_n 0, 1) := by decide +kernel
theorem dX10_readsOutline_89 : decode cX10_readsOutline 89 = .ok (.getfield 199, 3) := by decide +kernel
theorem dX10_readsOutline_92 : decode cX10_readsOutline 92 = .ok (.putfield 28, 3) := by decide +kernel
theorem dX10_readsOutline_95 : decode cX10_readsOutline 95 = .ok (.aload_n 0, 1) := by decide +kernel
theorem dX10_readsOutline_96 : decode cX10_readsOutline 96 = .ok (.getfield 205, 3) := by decide +kernel
theorem dX10_readsOutline_99 : decode cX10_readsOutline 99 = .ok (.ireturn, 1) := by decide +kernel
theorem dX10_parentOf_0 : decode cX10_parentOf 0 = .ok (.aload_n 0, 1) := by decide +kernel
theorem dX10_parentOf_1 : decode cX10_parentOf 1 = .ok (.getfield 112, 3) := by decide +kernel
theorem dX10_parentOf_4 : decode cX10_parentOf 4 = .ok (.iload_n 1, 1) := by decide +kernel
theorem dX10_parentOf_5 : decode cX10_parentOf 5 = .ok (.iaload, 1) := by decide +kernel
theorem dX10_parentOf_6 : decode cX10_parentOf 6 = .ok (.ifCond .ne 5, 3) := by decide +kernel
theorem dX10_parentOf_9 : decode cX10_parentOf 9 = .ok (.iload_n 2, 1) := by decide +kernel
theorem dX10_parentOf_10 : decode cX10_parentOf 10 = .ok (.ireturn, 1) := by decide +kernel
theorem dX10_parentOf_11 : decode cX10_parentOf 11 = .ok (.iload_n 1, 1) := by decide +kernel
theorem dX10_parentOf_12 : decode cX10_parentOf 12 = .ok (.iconst 1, 1) := by decide +kernel
theorem dX10_parentOf_13 : decode cX10_parentOf 13 = .ok (.isub, 1) := by decide +kernel
theorem dX10_parentOf_14 : decode cX10_parentOf 14 = .ok (.istore_n 3, 1) := by decide +kernel
theorem dX10_parentOf_15 : decode cX10_parentOf 15 = .ok (.aload_n 0, 1) := by decide +kernel
theorem dX10_parentOf_16 : decode cX10_parentOf 16 = .ok (.getfield 112, 3) := by decide +kernel
theorem dX10_parentOf_19 : decode cX10_parentOf 19 = .ok (.iload_n 3, 1) := by decide +kernel
theorem dX10_parentOf_20 : decode cX10_parentOf 20 = .ok (.iaload, 1) := by decide +kernel
theorem dX10_parentOf_21 : decode cX10_parentOf 21 = .ok (.aload_n 0, 1) := by decide +kernel
theorem dX10_parentOf_22 : decode cX10_parentOf 22 = .ok (.getfield 112, 3) := by decide +kernel
theorem dX10_parentOf_25 : decode cX10_parentOf 25 = .ok (.iload_n 1, 1) := by decide +kernel
theorem dX10_parentOf_26 : decode cX10_parentOf 26 = .ok (.iaload, 1) := by decide +kernel
theorem dX10_parentOf_27 : decode cX10_parentOf 27 = .ok (.iconst 1, 1) := by decide +kernel
theorem dX10_parentOf_28 : decode cX10_parentOf 28 = .ok (.isub, 1) := by decide +kernel
theorem dX10_parentOf_29 : decode cX10_parentOf 29 = .ok (.if_icmp .eq 9, 3) := by decide +kernel
theorem dX10_parentOf_32 : decode cX10_parentOf 32 = .ok (.iinc 3 (-1), 3) := by decide +kernel
theorem dX10_parentOf_35 : decode cX10_parentOf 35 = .ok (.goto (-20), 3) := by decide +kernel
theorem dX10_parentOf_38 : decode cX10_parentOf 38 = .ok (.aload_n 0, 1) := by decide +kernel
theorem dX10_parentOf_39 : decode cX10_parentOf 39 = .ok (.getfield 133, 3) := by decide +kernel
theorem dX10_parentOf_42 : decode cX10_parentOf 42 = .ok (.iload_n 3, 1) := by decide +kernel
theorem dX10_parentOf_43 : decode cX10_parentOf 43 = .ok (.iaload, 1) := by decide +kernel
theorem dX10_parentOf_44 : decode cX10_parentOf 44 = .ok (.ireturn, 1) := by decide +kernel
theorem dX10_load_0 : decode cX10_load 0 = .ok (.aload_n 0, 1) := by decide +kernel
theorem dX10_load_1 : decode cX10_load 1 = .ok (.iconst 0, 1) := by decide +kernel
theorem dX10_load_2 : decode cX10_load 2 = .ok (.putfield 139, 3) := by decide +kernel
theorem dX10_load_5 : decode cX10_load 5 = .ok (.aload_n 0, 1) := by decide +kernel
theorem dX10_load_6 : decode cX10_load 6 = .ok (.invokevirtual 218, 3) := by decide +kernel
theorem dX10_load_9 : decode cX10_load 9 = .ok (.aload_n 0, 1) := by decide +kernel
theorem dX10_load_10 : decode cX10_load 10 = .ok (.iload_n 1, 1) := by decide +kernel
theorem dX10_load_11 : decode cX10_load 11 = .ok (.invokevirtual 146, 3) := by decide +kernel
theorem dX10_load_14 : decode cX10_load 14 = .ok (.ifCond .ne 9, 3) := by decide +kernel
theorem dX10_load_17 : decode cX10_load 17 = .ok (.aload_n 0, 1) := by decide +kernel
theorem dX10_load_18 : decode cX10_load 18 = .ok (.iconst 1, 1) := by decide +kernel
theorem dX10_load_19 : decode cX10_load 19 = .ok (.invokevirtual 186, 3) := by decide +kernel
theorem dX10_load_22 : decode cX10_load 22 = .ok (.ireturn, 1) := by decide +kernel
theorem dX10_load_23 : decode cX10_load 23 = .ok (.aload_n 0, 1) := by decide +kernel
theorem dX10_load_24 : decode cX10_load 24 = .ok (.invokevirtual 360, 3) := by decide +kernel
theorem dX10_load_27 : decode cX10_load 27 = .ok (.ifCond .ne 9, 3) := by decide +kernel
theorem dX10_load_30 : decode cX10_load 30 = .ok (.aload_n 0, 1) := by decide +kernel
theorem dX10_load_31 : decode cX10_load 31 = .ok (.iconst 2, 1) := by decide +kernel
theorem dX10_load_32 : decode cX10_load 32 = .ok (.invokevirtual 186, 3) := by decide +kernel
theorem dX10_load_35 : decode cX10_load 35 = .ok (.ireturn, 1) := by decide +kernel
theorem dX10_load_36 : decode cX10_load 36 = .ok (.iconst 0, 1) := by decide +kernel
theorem dX10_load_37 : decode cX10_load 37 = .ok (.istore_n 2, 1) := by decide +kernel
theorem dX10_load_38 : decode cX10_load 38 = .ok (.iload_n 2, 1) := by decide +kernel
theorem dX10_load_39 : decode cX10_load 39 = .ok (.aload_n 0, 1) := by decide +kernel
theorem dX10_load_40 : decode cX10_load 40 = .ok (.getfield 348, 3) := by decide +kernel
theorem dX10_load_43 : decode cX10_load 43 = .ok (.if_icmp .ge 208, 3) := by decide +kernel
theorem dX10_load_46 : decode cX10_load 46 = .ok (.aload_n 0, 1) := by decide +kernel
theorem dX10_load_47 : decode cX10_load 47 = .ok (.iload_n 2, 1) := by decide +kernel
theorem dX10_load_48 : decode cX10_load 48 = .ok (.iload_n 1, 1) := by decide +kernel
theorem dX10_load_49 : decode cX10_load 49 = .ok (.invokevirtual 363, 3) := by decide +kernel
theorem dX10_load_52 : decode cX10_load 52 = .ok (.istore_n 3, 1) := by decide +kernel
theorem dX10_load_53 : decode cX10_load 53 = .ok (.aload_n 0, 1) := by decide +kernel
theorem dX10_load_54 : decode cX10_load 54 = .ok (.getfield 130, 3) := by decide +kernel
theorem dX10_load_57 : decode cX10_load 57 = .ok (.iload_n 2, 1) := by decide +kernel
theorem dX10_load_58 : decode cX10_load 58 = .ok (.iaload, 1) := by decide +kernel
theorem dX10_load_59 : decode cX10_load 59 = .ok (.iconst (-1), 1) := by decide +kernel
theorem dX10_load_60 : decode cX10_load 60 = .ok (.if_icmp .ne 7, 3) := by decide +kernel
theorem dX10_load_63 : decode cX10_load 63 = .ok (.iconst (-1), 1) := by decide +kernel
theorem dX10_load_64 : decode cX10_load 64 = .ok (.goto 14, 3) := by decide +kernel
theorem dX10_load_67 : decode cX10_load 67 = .ok (.aload_n 0, 1) := by decide +kernel
theorem dX10_load_68 : decode cX10_load 68 = .ok (.getfield 133, 3) := by decide +kernel
theorem dX10_load_71 : decode cX10_load 71 = .ok (.aload_n 0, 1) := by decide +kernel
theorem dX10_load_72 : decode cX10_load 72 = .ok (.getfield 130, 3) := by decide +kernel
theorem dX10_load_75 : decode cX10_load 75 = .ok (.iload_n 2, 1) := by decide +kernel
theorem dX10_load_76 : decode cX10_load 76 = .ok (.iaload, 1) := by decide +kernel
theorem dX10_load_77 : decode cX10_load 77 = .ok (.iaload, 1) := by decide +kernel
theorem dX10_load_78 : decode cX10_load 78 = .ok (.istore 4, 2) := by decide +kernel
theorem dX10_load_80 : decode cX10_load 80 = .ok (.aload_n 0, 1) := by decide +kernel
theorem dX10_load_81 : decode cX10_load 81 = .ok (.iload 4, 2) := by decide +kernel
theorem dX10_load_83 : decode cX10_load 83 = .ok (.iload_n 3, 1) := by decide +kernel
theorem dX10_load_84 : decode cX10_load 84 = .ok (.invokevirtual 225, 3) := by decide +kernel
theorem dX10_load_87 : decode cX10_load 87 = .ok (.istore 5, 2) := by decide +kernel
theorem dX10_load_89 : decode cX10_load 89 = .ok (.iload 5, 2) := by decide +kernel
theorem dX10_load_91 : decode cX10_load 91 = .ok (.ifCond .le 23, 3) := by decide +kernel
theorem dX10_load_94 : decode cX10_load 94 = .ok (.aload_n 0, 1) := by decide +kernel
theorem dX10_load_95 : decode cX10_load 95 = .ok (.invokevirtual 254, 3) := by decide +kernel
theorem dX10_load_98 : decode cX10_load 98 = .ok (.aload_n 0, 1) := by decide +kernel
theorem dX10_load_99 : decode cX10_load 99 = .ok (.bipush 60, 2) := by decide +kernel
theorem dX10_load_101 : decode cX10_load 101 = .ok (.iload_n 2, 1) := by decide +kernel
theorem dX10_load_102 : decode cX10_load 102 = .ok (.iload 5, 2) := by decide +kernel
theorem dX10_load_104 : decode cX10_load 104 = .ok (.invokevirtual 228, 3) := by decide +kernel
theorem dX10_load_107 : decode cX10_load 107 = .ok (.pop, 1) := by decide +kernel
theorem dX10_load_108 : decode cX10_load 108 = .ok (.aload_n 0, 1) := by decide +kernel
theorem dX10_load_109 : decode cX10_load 109 = .ok (.iconst 3, 1) := by decide +kernel
theorem dX10_load_110 : decode cX10_load 110 = .ok (.invokevirtual 186, 3) := by decide +kernel
theorem dX10_load_113 : decode cX10_load 113 = .ok (.ireturn, 1) := by decide +kernel
theorem dX10_load_114 : decode cX10_load 114 = .ok (.aload_n 0, 1) := by decide +kernel
theorem dX10_load_115 : decode cX10_load 115 = .ok (.getfield 133, 3) := by decide +kernel
theorem dX10_load_118 : decode cX10_load 118 = .ok (.iload_n 2, 1) := by decide +kernel
theorem dX10_load_119 : decode cX10_load 119 = .ok (.iload 4, 2) := by decide +kernel
theorem dX10_load_121 : decode cX10_load 121 = .ok (.iconst (-1), 1) := by decide +kernel
theorem dX10_load_122 : decode cX10_load 122 = .ok (.if_icmp .ne 10, 3) := by decide +kernel
theorem dX10_load_125 : decode cX10_load 125 = .ok (.aload_n 0, 1) := by decide +kernel
theorem dX10_load_126 : decode cX10_load 126 = .ok (.invokevirtual 232, 3) := by decide +kernel
theorem dX10_load_129 : decode cX10_load 129 = .ok (.goto 5, 3) := by decide +kernel
theorem dX10_load_132 : decode cX10_load 132 = .ok (.iload 4, 2) := by decide +kernel
theorem dX10_load_134 : decode cX10_load 134 = .ok (.iastore, 1) := by decide +kernel
theorem dX10_load_135 : decode cX10_load 135 = .ok (.iload 4, 2) := by decide +kernel
theorem dX10_load_137 : decode cX10_load 137 = .ok (.iconst (-1), 1) := by decide +kernel
theorem dX10_load_138 : decode cX10_load 138 = .ok (.if_icmp .ne 86, 3) := by decide +kernel
theorem dX10_load_141 : decode cX10_load 141 = .ok (.aload_n 0, 1) := by decide +kernel
theorem dX10_load_142 : decode cX10_load 142 = .ok (.aload_n 0, 1) := by decide +kernel
theorem dX10_load_143 : decode cX10_load 143 = .ok (.getfield 133, 3) := by decide +kernel
theorem dX10_load_146 : decode cX10_load 146 = .ok (.iload_n 2, 1) := by decide +kernel
theorem dX10_load_147 : decode cX10_load 147 = .ok (.iaload, 1) := by decide +kernel
theorem dX10_load_148 : decode cX10_load 148 = .ok (.aload_n 0, 1) := by decide +kernel
theorem dX10_load_149 : decode cX10_load 149 = .ok (.getfield 115, 3) := by decide +kernel
theorem dX10_load_152 : decode cX10_load 152 = .ok (.iload_n 2, 1) := by decide +kernel
theorem dX10_load_153 : decode cX10_load 153 = .ok (.iaload, 1) := by decide +kernel
theorem dX10_load_154 : decode cX10_load 154 = .ok (.aload_n 0, 1) := by decide +kernel
theorem dX10_load_155 : decode cX10_load 155 = .ok (.getfield 118, 3) := by decide +kernel
theorem dX10_load_158 : decode cX10_load 158 = .ok (.iload_n 2, 1) := by decide +kernel
theorem dX10_load_159 : decode cX10_load 159 = .ok (.iaload, 1) := by decide +kernel
theorem dX10_load_160 : decode cX10_load 160 = .ok (.invokevirtual 235, 3) := by decide +kernel
theorem dX10_load_163 : decode cX10_load 163 = .ok (.aload_n 0, 1) := by decide +kernel
theorem dX10_load_164 : decode cX10_load 164 = .ok (.getfield 7, 3) := by decide +kernel
theorem dX10_load_167 : decode cX10_load 167 = .ok (.bipush 123, 2) := by decide +kernel
theorem dX10_load_169 : decode cX10_load 169 = .ok (.aload_n 0, 1) := by decide +kernel
theorem dX10_load_170 : decode cX10_load 170 = .ok (.getfield 133, 3) := by decide +kernel
theorem dX10_load_173 : decode cX10_load 173 = .ok (.iload_n 2, 1) := by decide +kernel
theorem dX10_load_174 : decode cX10_load 174 = .ok (.iaload, 1) := by decide +kernel
theorem dX10_load_175 : decode cX10_load 175 = .ok (.iadd, 1) := by decide +kernel
theorem dX10_load_176 : decode cX10_load 176 = .ok (.aload_n 0, 1) := by decide +kernel
theorem dX10_load_177 : decode cX10_load 177 = .ok (.getfield 121, 3) := by decide +kernel
theorem dX10_load_180 : decode cX10_load 180 = .ok (.iload_n 2, 1) := by decide +kernel
theorem dX10_load_181 : decode cX10_load 181 = .ok (.iaload, 1) := by decide +kernel
theorem dX10_load_182 : decode cX10_load 182 = .ok (.iastore, 1) := by decide +kernel
theorem dX10_load_183 : decode cX10_load 183 = .ok (.aload_n 0, 1) := by decide +kernel
theorem dX10_load_184 : decode cX10_load 184 = .ok (.getfield 7, 3) := by decide +kernel
theorem dX10_load_187 : decode cX10_load 187 = .ok (.bipush 62, 2) := by decide +kernel
theorem dX10_load_189 : decode cX10_load 189 = .ok (.aload_n 0, 1) := by decide +kernel
theorem dX10_load_190 : decode cX10_load 190 = .ok (.getfield 133, 3) := by decide +kernel
theorem dX10_load_193 : decode cX10_load 193 = .ok (.iload_n 2, 1) := by decide +kernel
theorem dX10_load_194 : decode cX10_load 194 = .ok (.iaload, 1) := by decide +kernel
theorem dX10_load_195 : decode cX10_load 195 = .ok (.iadd, 1) := by decide +kernel
theorem dX10_load_196 : decode cX10_load 196 = .ok (.aload_n 0, 1) := by decide +kernel
theorem dX10_load_197 : decode cX10_load 197 = .ok (.getfield 124, 3) := by decide +kernel
theorem dX10_load_200 : decode cX10_load 200 = .ok (.iload_n 2, 1) := by decide +kernel
theorem dX10_load_201 : decode cX10_load 201 = .ok (.iaload, 1) := by decide +kernel
theorem dX10_load_202 : decode cX10_load 202 = .ok (.iastore, 1) := by decide +kernel
theorem dX10_load_203 : decode cX10_load 203 = .ok (.aload_n 0, 1) := by decide +kernel
theorem dX10_load_204 : decode cX10_load 204 = .ok (.getfield 7, 3) := by decide +kernel
theorem dX10_load_207 : decode cX10_load 207 = .ok (.sipush 184, 3) := by decide +kernel
theorem dX10_load_210 : decode cX10_load 210 = .ok (.aload_n 0, 1) := by decide +kernel
theorem dX10_load_211 : decode cX10_load 211 = .ok (.getfield 133, 3) := by decide +kernel
theorem dX10_load_214 : decode cX10_load 214 = .ok (.iload_n 2, 1) := by decide +kernel
theorem dX10_load_215 : decode cX10_load 215 = .ok (.iaload, 1) := by decide +kernel
theorem dX10_load_216 : decode cX10_load 216 = .ok (.iadd, 1) := by decide +kernel
theorem dX10_load_217 : decode cX10_load 217 = .ok (.aload_n 0, 1) := by decide +kernel
theorem dX10_load_218 : decode cX10_load 218 = .ok (.getfield 127, 3) := by decide +kernel
theorem dX10_load_221 : decode cX10_load 221 = .ok (.iload_n 2, 1) := by decide +kernel
theorem dX10_load_222 : decode cX10_load 222 = .ok (.iaload, 1) := by decide +kernel
theorem dX10_load_223 : decode cX10_load 223 = .ok (.iastore, 1) := by decide +kernel
theorem dX10_load_224 : decode cX10_load 224 = .ok (.aload_n 0, 1) := by decide +kernel
theorem dX10_load_225 : decode cX10_load 225 = .ok (.iload_n 3, 1) := by decide +kernel
theorem dX10_load_226 : decode cX10_load 226 = .ok (.aload_n 0, 1) := by decide +kernel
theorem dX10_load_227 : decode cX10_load 227 = .ok (.getfield 7, 3) := by decide +kernel
theorem dX10_load_230 : decode cX10_load 230 = .ok (.sipush 916, 3) := by decide +kernel
theorem dX10_load_233 : decode cX10_load 233 = .ok (.iload_n 3, 1) := by decide +kernel
theorem dX10_load_234 : decode cX10_load 234 = .ok (.iadd, 1) := by decide +kernel
theorem dX10_load_235 : decode cX10_load 235 = .ok (.iaload, 1) := by decide +kernel
theorem dX10_load_236 : decode cX10_load 236 = .ok (.aload_n 0, 1) := by decide +kernel
theorem dX10_load_237 : decode cX10_load 237 = .ok (.getfield 133, 3) := by decide +kernel
theorem dX10_load_240 : decode cX10_load 240 = .ok (.iload_n 2, 1) := by decide +kernel
theorem dX10_load_241 : decode cX10_load 241 = .ok (.iaload, 1) := by decide +kernel
theorem dX10_load_242 : decode cX10_load 242 = .ok (.invokevirtual 239, 3) := by decide +kernel
theorem dX10_load_245 : decode cX10_load 245 = .ok (.iinc 2 1, 3) := by decide +kernel
theorem dX10_load_248 : decode cX10_load 248 = .ok (.goto (-210), 3) := by decide +kernel
theorem dX10_load_251 : decode cX10_load 251 = .ok (.aload_n 0, 1) := by decide +kernel
theorem dX10_load_252 : decode cX10_load 252 = .ok (.invokevirtual 242, 3) := by decide +kernel
theorem dX10_load_255 : decode cX10_load 255 = .ok (.aload_n 0, 1) := by decide +kernel
theorem dX10_load_256 : decode cX10_load 256 = .ok (.getfield 348, 3) := by decide +kernel
theorem dX10_load_259 : decode cX10_load 259 = .ok (.ireturn, 1) := by decide +kernel
theorem dX10_errorPosition_0 : decode cX10_errorPosition 0 = .ok (.aload_n 0, 1) := by decide +kernel
theorem dX10_errorPosition_1 : decode cX10_errorPosition 1 = .ok (.iconst 0, 1) := by decide +kernel
theorem dX10_errorPosition_2 : decode cX10_errorPosition 2 = .ok (.putfield 139, 3) := by decide +kernel
theorem dX10_errorPosition_5 : decode cX10_errorPosition 5 = .ok (.aload_n 0, 1) := by decide +kernel
theorem dX10_errorPosition_6 : decode cX10_errorPosition 6 = .ok (.getfield 28, 3) := by decide +kernel
theorem dX10_errorPosition_9 : decode cX10_errorPosition 9 = .ok (.iconst (-1), 1) := by decide +kernel
theorem dX10_errorPosition_10 : decode cX10_errorPosition 10 = .ok (.if_icmp .ne 11, 3) := by decide +kernel
theorem dX10_errorPosition_13 : decode cX10_errorPosition 13 = .ok (.aload_n 0, 1) := by decide +kernel
theorem dX10_errorPosition_14 : decode cX10_errorPosition 14 = .ok (.iconst 1, 1) := by decide +kernel
theorem dX10_errorPosition_15 : decode cX10_errorPosition 15 = .ok (.invokevirtual 186, 3) := by decide +kernel
theorem dX10_errorPosition_18 : decode cX10_errorPosition 18 = .ok (.goto 7, 3) := by decide +kernel
theorem dX10_errorPosition_21 : decode cX10_errorPosition 21 = .ok (.aload_n 0, 1) := by decide +kernel
theorem dX10_errorPosition_22 : decode cX10_errorPosition 22 = .ok (.getfield 28, 3) := by decide +kernel
theorem dX10_errorPosition_25 : decode cX10_errorPosition 25 = .ok (.ireturn, 1) := by decide +kernel
theorem dX10_refusal_0 : decode cX10_refusal 0 = .ok (.aload_n 0, 1) := by decide +kernel
theorem dX10_refusal_1 : decode cX10_refusal 1 = .ok (.iconst 0, 1) := by decide +kernel
theorem dX10_refusal_2 : decode cX10_refusal 2 = .ok (.putfield 139, 3) := by decide +kernel
theorem dX10_refusal_5 : decode cX10_refusal 5 = .ok (.aload_n 0, 1) := by decide +kernel
theorem dX10_refusal_6 : decode cX10_refusal 6 = .ok (.getfield 183, 3) := by decide +kernel
theorem dX10_refusal_9 : decode cX10_refusal 9 = .ok (.ifCond .ne 9, 3) := by decide +kernel
theorem dX10_refusal_12 : decode cX10_refusal 12 = .ok (.aload_n 0, 1) := by decide +kernel
theorem dX10_refusal_13 : decode cX10_refusal 13 = .ok (.iconst 1, 1) := by decide +kernel
theorem dX10_refusal_14 : decode cX10_refusal 14 = .ok (.invokevirtual 186, 3) := by decide +kernel
theorem dX10_refusal_17 : decode cX10_refusal 17 = .ok (.ireturn, 1) := by decide +kernel
theorem dX10_refusal_18 : decode cX10_refusal 18 = .ok (.iload_n 1, 1) := by decide +kernel
theorem dX10_refusal_19 : decode cX10_refusal 19 = .ok (.iconst 0, 1) := by decide +kernel
theorem dX10_refusal_20 : decode cX10_refusal 20 = .ok (.aload_n 0, 1) := by decide +kernel
theorem dX10_refusal_21 : decode cX10_refusal 21 = .ok (.getfield 183, 3) := by decide +kernel
theorem dX10_refusal_24 : decode cX10_refusal 24 = .ok (.iconst 1, 1) := by decide +kernel
theorem dX10_refusal_25 : decode cX10_refusal 25 = .ok (.isub, 1) := by decide +kernel
theorem dX10_refusal_26 : decode cX10_refusal 26 = .ok (.invokestatic 142, 3) := by decide +kernel
theorem dX10_refusal_29 : decode cX10_refusal 29 = .ok (.ifCond .eq 12, 3) := by decide +kernel
theorem dX10_refusal_32 : decode cX10_refusal 32 = .ok (.aload_n 0, 1) := by decide +kernel
theorem dX10_refusal_33 : decode cX10_refusal 33 = .ok (.getfield 32, 3) := by decide +kernel
theorem dX10_refusal_36 : decode cX10_refusal 36 = .ok (.iload_n 1, 1) := by decide +kernel
theorem dX10_refusal_37 : decode cX10_refusal 37 = .ok (.iaload, 1) := by decide +kernel
theorem dX10_refusal_38 : decode cX10_refusal 38 = .ok (.goto 8, 3) := by decide +kernel
theorem dX10_refusal_41 : decode cX10_refusal 41 = .ok (.aload_n 0, 1) := by decide +kernel
theorem dX10_refusal_42 : decode cX10_refusal 42 = .ok (.iconst 2, 1) := by decide +kernel
theorem dX10_refusal_43 : decode cX10_refusal 43 = .ok (.invokevirtual 186, 3) := by decide +kernel
theorem dX10_refusal_46 : decode cX10_refusal 46 = .ok (.ireturn, 1) := by decide +kernel
theorem dX10_isConsistent_0 : decode cX10_isConsistent 0 = .ok (.aload_n 0, 1) := by decide +kernel
theorem dX10_isConsistent_1 : decode cX10_isConsistent 1 = .ok (.iconst 0, 1) := by decide +kernel
theorem dX10_isConsistent_2 : decode cX10_isConsistent 2 = .ok (.putfield 139, 3) := by decide +kernel
theorem dX10_isConsistent_5 : decode cX10_isConsistent 5 = .ok (.iconst 1, 1) := by decide +kernel
theorem dX10_isConsistent_6 : decode cX10_isConsistent 6 = .ok (.ireturn, 1) := by decide +kernel
theorem dX10_undo_0 : decode cX10_undo 0 = .ok (.aload_n 0, 1) := by decide +kernel
theorem dX10_undo_1 : decode cX10_undo 1 = .ok (.iconst 0, 1) := by decide +kernel
theorem dX10_undo_2 : decode cX10_undo 2 = .ok (.putfield 139, 3) := by decide +kernel
theorem dX10_undo_5 : decode cX10_undo 5 = .ok (.aload_n 0, 1) := by decide +kernel
theorem dX10_undo_6 : decode cX10_undo 6 = .ok (.getfield 157, 3) := by decide +kernel
theorem dX10_undo_9 : decode cX10_undo 9 = .ok (.ifCond .ne 9, 3) := by decide +kernel
theorem dX10_undo_12 : decode cX10_undo 12 = .ok (.aload_n 0, 1) := by decide +kernel
theorem dX10_undo_13 : decode cX10_undo 13 = .ok (.iconst 1, 1) := by decide +kernel
theorem dX10_undo_14 : decode cX10_undo 14 = .ok (.invokevirtual 186, 3) := by decide +kernel
theorem dX10_undo_17 : decode cX10_undo 17 = .ok (.ireturn, 1) := by decide +kernel
theorem dX10_undo_18 : decode cX10_undo 18 = .ok (.aload_n 0, 1) := by decide +kernel
theorem dX10_undo_19 : decode cX10_undo 19 = .ok (.dup, 1) := by decide +kernel
theorem dX10_undo_20 : decode cX10_undo 20 = .ok (.getfield 157, 3) := by decide +kernel
theorem dX10_undo_23 : decode cX10_undo 23 = .ok (.iconst 1, 1) := by decide +kernel
theorem dX10_undo_24 : decode cX10_undo 24 = .ok (.isub, 1) := by decide +kernel
theorem dX10_undo_25 : decode cX10_undo 25 = .ok (.putfield 157, 3) := by decide +kernel
theorem dX10_undo_28 : decode cX10_undo 28 = .ok (.iconst 0, 1) := by decide +kernel
theorem dX10_undo_29 : decode cX10_undo 29 = .ok (.istore_n 1, 1) := by decide +kernel
theorem dX10_undo_30 : decode cX10_undo 30 = .ok (.iload_n 1, 1) := by decide +kernel
theorem dX10_undo_31 : decode cX10_undo 31 = .ok (.sipush 1709, 3) := by decide +kernel
theorem dX10_undo_34 : decode cX10_undo 34 = .ok (.if_icmp .ge 30, 3) := by decide +kernel
theorem dX10_undo_37 : decode cX10_undo 37 = .ok (.aload_n 0, 1) := by decide +kernel
theorem dX10_undo_38 : decode cX10_undo 38 = .ok (.getfield 7, 3) := by decide +kernel
theorem dX10_undo_41 : decode cX10_undo 41 = .ok (.iload_n 1, 1) := by decide +kernel
theorem dX10_undo_42 : decode cX10_undo 42 = .ok (.aload_n 0, 1) := by decide +kernel
theorem dX10_undo_43 : decode cX10_undo 43 = .ok (.getfield 19, 3) := by decide +kernel
theorem dX10_undo_46 : decode cX10_undo 46 = .ok (.sipush 1709, 3) := by decide +kernel
theorem dX10_undo_49 : decode cX10_undo 49 = .ok (.aload_n 0, 1) := by decide +kernel
theorem dX10_undo_50 : decode cX10_undo 50 = .ok (.getfield 157, 3) := by decide +kernel
theorem dX10_undo_53 : decode cX10_undo 53 = .ok (.imul, 1) := by decide +kernel
theorem dX10_undo_54 : decode cX10_undo 54 = .ok (.iload_n 1, 1) := by decide +kernel
theorem dX10_undo_55 : decode cX10_undo 55 = .ok (.iadd, 1) := by decide +kernel
theorem dX10_undo_56 : decode cX10_undo 56 = .ok (.iaload, 1) := by decide +kernel
theorem dX10_undo_57 : decode cX10_undo 57 = .ok (.iastore, 1) := by decide +kernel
theorem dX10_undo_58 : decode cX10_undo 58 = .ok (.iinc 1 1, 3) := by decide +kernel
theorem dX10_undo_61 : decode cX10_undo 61 = .ok (.goto (-31), 3) := by decide +kernel
theorem dX10_undo_64 : decode cX10_undo 64 = .ok (.aload_n 0, 1) := by decide +kernel
theorem dX10_undo_65 : decode cX10_undo 65 = .ok (.invokevirtual 160, 3) := by decide +kernel
theorem dX10_undo_68 : decode cX10_undo 68 = .ok (.aload_n 0, 1) := by decide +kernel
theorem dX10_undo_69 : decode cX10_undo 69 = .ok (.getfield 157, 3) := by decide +kernel
theorem dX10_undo_72 : decode cX10_undo 72 = .ok (.ireturn, 1) := by decide +kernel
theorem dX10_snapshot_0 : decode cX10_snapshot 0 = .ok (.aload_n 0, 1) := by decide +kernel
theorem dX10_snapshot_1 : decode cX10_snapshot 1 = .ok (.iconst 0, 1) := by decide +kernel
theorem dX10_snapshot_2 : decode cX10_snapshot 2 = .ok (.putfield 139, 3) := by decide +kernel
theorem dX10_snapshot_5 : decode cX10_snapshot 5 = .ok (.iconst 0, 1) := by decide +kernel
theorem dX10_snapshot_6 : decode cX10_snapshot 6 = .ok (.istore_n 1, 1) := by decide +kernel
theorem dX10_snapshot_7 : decode cX10_snapshot 7 = .ok (.iload_n 1, 1) := by decide +kernel
theorem dX10_snapshot_8 : decode cX10_snapshot 8 = .ok (.sipush 1709, 3) := by decide +kernel
theorem dX10_snapshot_11 : decode cX10_snapshot 11 = .ok (.if_icmp .ge 21, 3) := by decide +kernel
theorem dX10_snapshot_14 : decode cX10_snapshot 14 = .ok (.aload_n 0, 1) := by decide +kernel
theorem dX10_snapshot_15 : decode cX10_snapshot 15 = .ok (.getfield 13, 3) := by decide +kernel
theorem dX10_snapshot_18 : decode cX10_snapshot 18 = .ok (.iload_n 1, 1) := by decide +kernel
theorem dX10_snapshot_19 : decode cX10_snapshot 19 = .ok (.aload_n 0, 1) := by decide +kernel
theorem dX10_snapshot_20 : decode cX10_snapshot 20 = .ok (.getfield 7, 3) := by decide +kernel
theorem dX10_snapshot_23 : decode cX10_snapshot 23 = .ok (.iload_n 1, 1) := by decide +kernel
theorem dX10_snapshot_24 : decode cX10_snapshot 24 = .ok (.iaload, 1) := by decide +kernel
theorem dX10_snapshot_25 : decode cX10_snapshot 25 = .ok (.iastore, 1) := by decide +kernel
theorem dX10_snapshot_26 : decode cX10_snapshot 26 = .ok (.iinc 1 1, 3) := by decide +kernel
theorem dX10_snapshot_29 : decode cX10_snapshot 29 = .ok (.goto (-22), 3) := by decide +kernel
theorem dX10_snapshot_32 : decode cX10_snapshot 32 = .ok (.aload_n 0, 1) := by decide +kernel
theorem dX10_snapshot_33 : decode cX10_snapshot 33 = .ok (.iconst 1, 1) := by decide +kernel
theorem dX10_snapshot_34 : decode cX10_snapshot 34 = .ok (.putfield 366, 3) := by decide +kernel
theorem dX10_snapshot_37 : decode cX10_snapshot 37 = .ok (.aload_n 0, 1) := by decide +kernel
theorem dX10_snapshot_38 : decode cX10_snapshot 38 = .ok (.invokevirtual 190, 3) := by decide +kernel
theorem dX10_snapshot_41 : decode cX10_snapshot 41 = .ok (.ireturn, 1) := by decide +kernel
theorem dX10_restore_0 : decode cX10_restore 0 = .ok (.aload_n 0, 1) := by decide +kernel
theorem dX10_restore_1 : decode cX10_restore 1 = .ok (.iconst 0, 1) := by decide +kernel
theorem dX10_restore_2 : decode cX10_restore 2 = .ok (.putfield 139, 3) := by decide +kernel
theorem dX10_restore_5 : decode cX10_restore 5 = .ok (.aload_n 0, 1) := by decide +kernel
theorem dX10_restore_6 : decode cX10_restore 6 = .ok (.getfield 366, 3) := by decide +kernel
theorem dX10_restore_9 : decode cX10_restore 9 = .ok (.ifCond .ne 9, 3) := by decide +kernel
theorem dX10_restore_12 : decode cX10_restore 12 = .ok (.aload_n 0, 1) := by decide +kernel
theorem dX10_restore_13 : decode cX10_restore 13 = .ok (.iconst 1, 1) := by decide +kernel
theorem dX10_restore_14 : decode cX10_restore 14 = .ok (.invokevirtual 186, 3) := by decide +kernel
theorem dX10_restore_17 : decode cX10_restore 17 = .ok (.ireturn, 1) := by decide +kernel
theorem dX10_restore_18 : decode cX10_restore 18 = .ok (.iconst 0, 1) := by decide +kernel
theorem dX10_restore_19 : decode cX10_restore 19 = .ok (.istore_n 1, 1) := by decide +kernel
theorem dX10_restore_20 : decode cX10_restore 20 = .ok (.iload_n 1, 1) := by decide +kernel
theorem dX10_restore_21 : decode cX10_restore 21 = .ok (.sipush 1709, 3) := by decide +kernel
theorem dX10_restore_24 : decode cX10_restore 24 = .ok (.if_icmp .ge 21, 3) := by decide +kernel
theorem dX10_restore_27 : decode cX10_restore 27 = .ok (.aload_n 0, 1) := by decide +kernel
theorem dX10_restore_28 : decode cX10_restore 28 = .ok (.getfield 7, 3) := by decide +kernel
theorem dX10_restore_31 : decode cX10_restore 31 = .ok (.iload_n 1, 1) := by decide +kernel
theorem dX10_restore_32 : decode cX10_restore 32 = .ok (.aload_n 0, 1) := by decide +kernel
theorem dX10_restore_33 : decode cX10_restore 33 = .ok (.getfield 13, 3) := by decide +kernel
theorem dX10_restore_36 : decode cX10_restore 36 = .ok (.iload_n 1, 1) := by decide +kernel
theorem dX10_restore_37 : decode cX10_restore 37 = .ok (.iaload, 1) := by decide +kernel
theorem dX10_restore_38 : decode cX10_restore 38 = .ok (.iastore, 1) := by decide +kernel
theorem dX10_restore_39 : decode cX10_restore 39 = .ok (.iinc 1 1, 3) := by decide +kernel
theorem dX10_restore_42 : decode cX10_restore 42 = .ok (.goto (-22), 3) := by decide +kernel
theorem dX10_restore_45 : decode cX10_restore 45 = .ok (.aload_n 0, 1) := by decide +kernel
theorem dX10_restore_46 : decode cX10_restore 46 = .ok (.iconst 0, 1) := by decide +kernel
theorem dX10_restore_47 : decode cX10_restore 47 = .ok (.putfield 157, 3) := by decide +kernel
theorem dX10_restore_50 : decode cX10_restore 50 = .ok (.aload_n 0, 1) := by decide +kernel
theorem dX10_restore_51 : decode cX10_restore 51 = .ok (.invokevirtual 160, 3) := by decide +kernel
theorem dX10_restore_54 : decode cX10_restore 54 = .ok (.aload_n 0, 1) := by decide +kernel
theorem dX10_restore_55 : decode cX10_restore 55 = .ok (.invokevirtual 190, 3) := by decide +kernel
theorem dX10_restore_58 : decode cX10_restore 58 = .ok (.ireturn, 1) := by decide +kernel
theorem dJ13_bitCount_95d88_0 : decode cJ13_bitCount_95d88 0 = .ok (.lload_n 0, 1) := by decide +kernel
theorem dJ13_bitCount_95d88_1 : decode cJ13_bitCount_95d88 1 = .ok (.lload_n 0, 1) := by decide +kernel
theorem dJ13_bitCount_95d88_2 : decode cJ13_bitCount_95d88 2 = .ok (.iconst 1, 1) := by decide +kernel
theorem dJ13_bitCount_95d88_3 : decode cJ13_bitCount_95d88 3 = .ok (.lushr, 1) := by decide +kernel
theorem dJ13_bitCount_95d88_4 : decode cJ13_bitCount_95d88 4 = .ok (.ldc2_w 314, 3) := by decide +kernel
theorem dJ13_bitCount_95d88_7 : decode cJ13_bitCount_95d88 7 = .ok (.land, 1) := by decide +kernel
theorem dJ13_bitCount_95d88_8 : decode cJ13_bitCount_95d88 8 = .ok (.lsub, 1) := by decide +kernel
theorem dJ13_bitCount_95d88_9 : decode cJ13_bitCount_95d88 9 = .ok (.lstore_n 0, 1) := by decide +kernel
theorem dJ13_bitCount_95d88_10 : decode cJ13_bitCount_95d88 10 = .ok (.lload_n 0, 1) := by decide +kernel
theorem dJ13_bitCount_95d88_11 : decode cJ13_bitCount_95d88 11 = .ok (.ldc2_w 316, 3) := by decide +kernel
theorem dJ13_bitCount_95d88_14 : decode cJ13_bitCount_95d88 14 = .ok (.land, 1) := by decide +kernel
theorem dJ13_bitCount_95d88_15 : decode cJ13_bitCount_95d88 15 = .ok (.lload_n 0, 1) := by decide +kernel
theorem dJ13_bitCount_95d88_16 : decode cJ13_bitCount_95d88 16 = .ok (.iconst 2, 1) := by decide +kernel
theorem dJ13_bitCount_95d88_17 : decode cJ13_bitCount_95d88 17 = .ok (.lushr, 1) := by decide +kernel
theorem dJ13_bitCount_95d88_18 : decode cJ13_bitCount_95d88 18 = .ok (.ldc2_w 316, 3) := by decide +kernel
theorem dJ13_bitCount_95d88_21 : decode cJ13_bitCount_95d88 21 = .ok (.land, 1) := by decide +kernel
theorem dJ13_bitCount_95d88_22 : decode cJ13_bitCount_95d88 22 = .ok (.ladd, 1) := by decide +kernel
theorem dJ13_bitCount_95d88_23 : decode cJ13_bitCount_95d88 23 = .ok (.lstore_n 0, 1) := by decide +kernel
theorem dJ13_bitCount_95d88_24 : decode cJ13_bitCount_95d88 24 = .ok (.lload_n 0, 1) := by decide +kernel
theorem dJ13_bitCount_95d88_25 : decode cJ13_bitCount_95d88 25 = .ok (.lload_n 0, 1) := by decide +kernel
theorem dJ13_bitCount_95d88_26 : decode cJ13_bitCount_95d88 26 = .ok (.iconst 4, 1) := by decide +kernel
theorem dJ13_bitCount_95d88_27 : decode cJ13_bitCount_95d88 27 = .ok (.lushr, 1) := by decide +kernel
theorem dJ13_bitCount_95d88_28 : decode cJ13_bitCount_95d88 28 = .ok (.ladd, 1) := by decide +kernel
theorem dJ13_bitCount_95d88_29 : decode cJ13_bitCount_95d88 29 = .ok (.ldc2_w 318, 3) := by decide +kernel
theorem dJ13_bitCount_95d88_32 : decode cJ13_bitCount_95d88 32 = .ok (.land, 1) := by decide +kernel
theorem dJ13_bitCount_95d88_33 : decode cJ13_bitCount_95d88 33 = .ok (.lstore_n 0, 1) := by decide +kernel
theorem dJ13_bitCount_95d88_34 : decode cJ13_bitCount_95d88 34 = .ok (.lload_n 0, 1) := by decide +kernel
theorem dJ13_bitCount_95d88_35 : decode cJ13_bitCount_95d88 35 = .ok (.lload_n 0, 1) := by decide +kernel
theorem dJ13_bitCount_95d88_36 : decode cJ13_bitCount_95d88 36 = .ok (.bipush 8, 2) := by decide +kernel
theorem dJ13_bitCount_95d88_38 : decode cJ13_bitCount_95d88 38 = .ok (.lushr, 1) := by decide +kernel
theorem dJ13_bitCount_95d88_39 : decode cJ13_bitCount_95d88 39 = .ok (.ladd, 1) := by decide +kernel
theorem dJ13_bitCount_95d88_40 : decode cJ13_bitCount_95d88 40 = .ok (.lstore_n 0, 1) := by decide +kernel
theorem dJ13_bitCount_95d88_41 : decode cJ13_bitCount_95d88 41 = .ok (.lload_n 0, 1) := by decide +kernel
theorem dJ13_bitCount_95d88_42 : decode cJ13_bitCount_95d88 42 = .ok (.lload_n 0, 1) := by decide +kernel
theorem dJ13_bitCount_95d88_43 : decode cJ13_bitCount_95d88 43 = .ok (.bipush 16, 2) := by decide +kernel
theorem dJ13_bitCount_95d88_45 : decode cJ13_bitCount_95d88 45 = .ok (.lushr, 1) := by decide +kernel
theorem dJ13_bitCount_95d88_46 : decode cJ13_bitCount_95d88 46 = .ok (.ladd, 1) := by decide +kernel
theorem dJ13_bitCount_95d88_47 : decode cJ13_bitCount_95d88 47 = .ok (.lstore_n 0, 1) := by decide +kernel
theorem dJ13_bitCount_95d88_48 : decode cJ13_bitCount_95d88 48 = .ok (.lload_n 0, 1) := by decide +kernel
theorem dJ13_bitCount_95d88_49 : decode cJ13_bitCount_95d88 49 = .ok (.lload_n 0, 1) := by decide +kernel
theorem dJ13_bitCount_95d88_50 : decode cJ13_bitCount_95d88 50 = .ok (.bipush 32, 2) := by decide +kernel
theorem dJ13_bitCount_95d88_52 : decode cJ13_bitCount_95d88 52 = .ok (.lushr, 1) := by decide +kernel
theorem dJ13_bitCount_95d88_53 : decode cJ13_bitCount_95d88 53 = .ok (.ladd, 1) := by decide +kernel
theorem dJ13_bitCount_95d88_54 : decode cJ13_bitCount_95d88 54 = .ok (.lstore_n 0, 1) := by decide +kernel
theorem dJ13_bitCount_95d88_55 : decode cJ13_bitCount_95d88 55 = .ok (.lload_n 0, 1) := by decide +kernel
theorem dJ13_bitCount_95d88_56 : decode cJ13_bitCount_95d88 56 = .ok (.l2i, 1) := by decide +kernel
theorem dJ13_bitCount_95d88_57 : decode cJ13_bitCount_95d88 57 = .ok (.bipush 127, 2) := by decide +kernel
theorem dJ13_bitCount_95d88_59 : decode cJ13_bitCount_95d88 59 = .ok (.iand, 1) := by decide +kernel
theorem dJ13_bitCount_95d88_60 : decode cJ13_bitCount_95d88 60 = .ok (.ireturn, 1) := by decide +kernel
theorem dJ9_max_7cf53_0 : decode cJ9_max_7cf53 0 = .ok (.iload_n 0, 1) := by decide +kernel
theorem dJ9_max_7cf53_1 : decode cJ9_max_7cf53 1 = .ok (.iload_n 1, 1) := by decide +kernel
theorem dJ9_max_7cf53_2 : decode cJ9_max_7cf53 2 = .ok (.if_icmp .lt 7, 3) := by decide +kernel
theorem dJ9_max_7cf53_5 : decode cJ9_max_7cf53 5 = .ok (.iload_n 0, 1) := by decide +kernel
theorem dJ9_max_7cf53_6 : decode cJ9_max_7cf53 6 = .ok (.goto 4, 3) := by decide +kernel
theorem dJ9_max_7cf53_9 : decode cJ9_max_7cf53 9 = .ok (.iload_n 1, 1) := by decide +kernel
theorem dJ9_max_7cf53_10 : decode cJ9_max_7cf53 10 = .ok (.ireturn, 1) := by decide +kernel
theorem dJ0_length_8abf5_0 : decode cJ0_length_8abf5 0 = .ok (.aload_n 0, 1) := by decide +kernel
theorem dJ0_length_8abf5_1 : decode cJ0_length_8abf5 1 = .ok (.getfield 9, 3) := by decide +kernel
theorem dJ0_length_8abf5_4 : decode cJ0_length_8abf5 4 = .ok (.arraylength, 1) := by decide +kernel
theorem dJ0_length_8abf5_5 : decode cJ0_length_8abf5 5 = .ok (.aload_n 0, 1) := by decide +kernel
theorem dJ0_length_8abf5_6 : decode cJ0_length_8abf5 6 = .ok (.invokevirtual 335, 3) := by decide +kernel
theorem dJ0_length_8abf5_9 : decode cJ0_length_8abf5 9 = .ok (.ishr, 1) := by decide +kernel
theorem dJ0_length_8abf5_10 : decode cJ0_length_8abf5 10 = .ok (.ireturn, 1) := by decide +kernel
theorem dJ0_charAt_5068e_0 : decode cJ0_charAt_5068e 0 = .ok (.aload_n 0, 1) := by decide +kernel
theorem dJ0_charAt_5068e_1 : decode cJ0_charAt_5068e 1 = .ok (.invokevirtual 492, 3) := by decide +kernel
theorem dJ0_charAt_5068e_4 : decode cJ0_charAt_5068e 4 = .ok (.ifCond .eq 12, 3) := by decide +kernel
theorem dJ0_charAt_5068e_7 : decode cJ0_charAt_5068e 7 = .ok (.aload_n 0, 1) := by decide +kernel
theorem dJ0_charAt_5068e_8 : decode cJ0_charAt_5068e 8 = .ok (.getfield 9, 3) := by decide +kernel
theorem dJ0_charAt_5068e_11 : decode cJ0_charAt_5068e 11 = .ok (.iload_n 1, 1) := by decide +kernel
theorem dJ0_charAt_5068e_12 : decode cJ0_charAt_5068e 12 = .ok (.invokestatic 495, 3) := by decide +kernel
theorem dJ0_charAt_5068e_15 : decode cJ0_charAt_5068e 15 = .ok (.ireturn, 1) := by decide +kernel
theorem dJ0_charAt_5068e_16 : decode cJ0_charAt_5068e 16 = .ok (.aload_n 0, 1) := by decide +kernel
theorem dJ0_charAt_5068e_17 : decode cJ0_charAt_5068e 17 = .ok (.getfield 9, 3) := by decide +kernel
theorem dJ0_charAt_5068e_20 : decode cJ0_charAt_5068e 20 = .ok (.iload_n 1, 1) := by decide +kernel
theorem dJ0_charAt_5068e_21 : decode cJ0_charAt_5068e 21 = .ok (.invokestatic 498, 3) := by decide +kernel
theorem dJ0_charAt_5068e_24 : decode cJ0_charAt_5068e 24 = .ok (.ireturn, 1) := by decide +kernel
theorem dJ0_coder_7d493_0 : decode cJ0_coder_7d493 0 = .ok (.getstatic 38, 3) := by decide +kernel
theorem dJ0_coder_7d493_3 : decode cJ0_coder_7d493 3 = .ok (.ifCond .eq 10, 3) := by decide +kernel
theorem dJ0_coder_7d493_6 : decode cJ0_coder_7d493 6 = .ok (.aload_n 0, 1) := by decide +kernel
theorem dJ0_coder_7d493_7 : decode cJ0_coder_7d493 7 = .ok (.getfield 15, 3) := by decide +kernel
theorem dJ0_coder_7d493_10 : decode cJ0_coder_7d493 10 = .ok (.goto 4, 3) := by decide +kernel
theorem dJ0_coder_7d493_13 : decode cJ0_coder_7d493 13 = .ok (.iconst 1, 1) := by decide +kernel
theorem dJ0_coder_7d493_14 : decode cJ0_coder_7d493 14 = .ok (.ireturn, 1) := by decide +kernel
theorem dJ0_isLatin1_aae02_0 : decode cJ0_isLatin1_aae02 0 = .ok (.getstatic 38, 3) := by decide +kernel
theorem dJ0_isLatin1_aae02_3 : decode cJ0_isLatin1_aae02 3 = .ok (.ifCond .eq 14, 3) := by decide +kernel
theorem dJ0_isLatin1_aae02_6 : decode cJ0_isLatin1_aae02 6 = .ok (.aload_n 0, 1) := by decide +kernel
theorem dJ0_isLatin1_aae02_7 : decode cJ0_isLatin1_aae02 7 = .ok (.getfield 15, 3) := by decide +kernel
theorem dJ0_isLatin1_aae02_10 : decode cJ0_isLatin1_aae02 10 = .ok (.ifCond .ne 7, 3) := by decide +kernel
theorem dJ0_isLatin1_aae02_13 : decode cJ0_isLatin1_aae02 13 = .ok (.iconst 1, 1) := by decide +kernel
theorem dJ0_isLatin1_aae02_14 : decode cJ0_isLatin1_aae02 14 = .ok (.goto 4, 3) := by decide +kernel
theorem dJ0_isLatin1_aae02_17 : decode cJ0_isLatin1_aae02 17 = .ok (.iconst 0, 1) := by decide +kernel
theorem dJ0_isLatin1_aae02_18 : decode cJ0_isLatin1_aae02 18 = .ok (.ireturn, 1) := by decide +kernel
theorem dJ0_checkIndex_df160_0 : decode cJ0_checkIndex_df160 0 = .ok (.iload_n 0, 1) := by decide +kernel
theorem dJ0_checkIndex_df160_1 : decode cJ0_checkIndex_df160 1 = .ok (.iload_n 1, 1) := by decide +kernel
theorem dJ0_checkIndex_df160_2 : decode cJ0_checkIndex_df160 2 = .ok (.getstatic 1053, 3) := by decide +kernel
theorem dJ0_checkIndex_df160_5 : decode cJ0_checkIndex_df160 5 = .ok (.invokestatic 1059, 3) := by decide +kernel
theorem dJ0_checkIndex_df160_8 : decode cJ0_checkIndex_df160 8 = .ok (.pop, 1) := by decide +kernel
theorem dJ0_checkIndex_df160_9 : decode cJ0_checkIndex_df160 9 = .ok (.return_, 1) := by decide +kernel
theorem dJ1_charAt_3b067_0 : decode cJ1_charAt_3b067 0 = .ok (.iload_n 1, 1) := by decide +kernel
theorem dJ1_charAt_3b067_1 : decode cJ1_charAt_3b067 1 = .ok (.aload_n 0, 1) := by decide +kernel
theorem dJ1_charAt_3b067_2 : decode cJ1_charAt_3b067 2 = .ok (.arraylength, 1) := by decide +kernel
theorem dJ1_charAt_3b067_3 : decode cJ1_charAt_3b067 3 = .ok (.invokestatic 9, 3) := by decide +kernel
theorem dJ1_charAt_3b067_6 : decode cJ1_charAt_3b067 6 = .ok (.aload_n 0, 1) := by decide +kernel
theorem dJ1_charAt_3b067_7 : decode cJ1_charAt_3b067 7 = .ok (.iload_n 1, 1) := by decide +kernel
theorem dJ1_charAt_3b067_8 : decode cJ1_charAt_3b067 8 = .ok (.baload, 1) := by decide +kernel
theorem dJ1_charAt_3b067_9 : decode cJ1_charAt_3b067 9 = .ok (.sipush 255, 3) := by decide +kernel
theorem dJ1_charAt_3b067_12 : decode cJ1_charAt_3b067 12 = .ok (.iand, 1) := by decide +kernel
theorem dJ1_charAt_3b067_13 : decode cJ1_charAt_3b067 13 = .ok (.i2c, 1) := by decide +kernel
theorem dJ1_charAt_3b067_14 : decode cJ1_charAt_3b067 14 = .ok (.ireturn, 1) := by decide +kernel
theorem dJ2_getChar_3b067_0 : decode cJ2_getChar_3b067 0 = .ok (.getstatic 44, 3) := by decide +kernel
theorem dJ2_getChar_3b067_3 : decode cJ2_getChar_3b067 3 = .ok (.ifCond .ne 25, 3) := by decide +kernel
theorem dJ2_getChar_3b067_6 : decode cJ2_getChar_3b067 6 = .ok (.iload_n 1, 1) := by decide +kernel
theorem dJ2_getChar_3b067_7 : decode cJ2_getChar_3b067 7 = .ok (.ifCond .lt 11, 3) := by decide +kernel
theorem dJ2_getChar_3b067_10 : decode cJ2_getChar_3b067 10 = .ok (.iload_n 1, 1) := by decide +kernel
theorem dJ2_getChar_3b067_11 : decode cJ2_getChar_3b067 11 = .ok (.aload_n 0, 1) := by decide +kernel
theorem dJ2_getChar_3b067_12 : decode cJ2_getChar_3b067 12 = .ok (.invokestatic 48, 3) := by decide +kernel
theorem dJ2_getChar_3b067_15 : decode cJ2_getChar_3b067 15 = .ok (.if_icmp .lt 13, 3) := by decide +kernel
theorem dJ2_getChar_3b067_18 : decode cJ2_getChar_3b067 18 = .ok (.new 52, 3) := by decide +kernel
theorem dJ2_getChar_3b067_21 : decode cJ2_getChar_3b067 21 = .ok (.dup, 1) := by decide +kernel
theorem dJ2_getChar_3b067_22 : decode cJ2_getChar_3b067 22 = .ok (.ldc 54, 2) := by decide +kernel
theorem dJ2_getChar_3b067_24 : decode cJ2_getChar_3b067 24 = .ok (.invokespecial 56, 3) := by decide +kernel
theorem dJ2_getChar_3b067_27 : decode cJ2_getChar_3b067 27 = .ok (.athrow, 1) := by decide +kernel
theorem dJ2_getChar_3b067_28 : decode cJ2_getChar_3b067 28 = .ok (.iload_n 1, 1) := by decide +kernel
theorem dJ2_getChar_3b067_29 : decode cJ2_getChar_3b067 29 = .ok (.iconst 1, 1) := by decide +kernel
theorem dJ2_getChar_3b067_30 : decode cJ2_getChar_3b067 30 = .ok (.ishl, 1) := by decide +kernel
theorem dJ2_getChar_3b067_31 : decode cJ2_getChar_3b067 31 = .ok (.istore_n 1, 1) := by decide +kernel
theorem dJ2_getChar_3b067_32 : decode cJ2_getChar_3b067 32 = .ok (.aload_n 0, 1) := by decide +kernel
theorem dJ2_getChar_3b067_33 : decode cJ2_getChar_3b067 33 = .ok (.iload_n 1, 1) := by decide +kernel
theorem dJ2_getChar_3b067_34 : decode cJ2_getChar_3b067 34 = .ok (.iinc 1 1, 3) := by decide +kernel
theorem dJ2_getChar_3b067_37 : decode cJ2_getChar_3b067 37 = .ok (.baload, 1) := by decide +kernel
theorem dJ2_getChar_3b067_38 : decode cJ2_getChar_3b067 38 = .ok (.sipush 255, 3) := by decide +kernel
theorem dJ2_getChar_3b067_41 : decode cJ2_getChar_3b067 41 = .ok (.iand, 1) := by decide +kernel
theorem dJ2_getChar_3b067_42 : decode cJ2_getChar_3b067 42 = .ok (.getstatic 59, 3) := by decide +kernel
theorem dJ2_getChar_3b067_45 : decode cJ2_getChar_3b067 45 = .ok (.ishl, 1) := by decide +kernel
theorem dJ2_getChar_3b067_46 : decode cJ2_getChar_3b067 46 = .ok (.aload_n 0, 1) := by decide +kernel
theorem dJ2_getChar_3b067_47 : decode cJ2_getChar_3b067 47 = .ok (.iload_n 1, 1) := by decide +kernel
theorem dJ2_getChar_3b067_48 : decode cJ2_getChar_3b067 48 = .ok (.baload, 1) := by decide +kernel
theorem dJ2_getChar_3b067_49 : decode cJ2_getChar_3b067 49 = .ok (.sipush 255, 3) := by decide +kernel
theorem dJ2_getChar_3b067_52 : decode cJ2_getChar_3b067 52 = .ok (.iand, 1) := by decide +kernel
theorem dJ2_getChar_3b067_53 : decode cJ2_getChar_3b067 53 = .ok (.getstatic 63, 3) := by decide +kernel
theorem dJ2_getChar_3b067_56 : decode cJ2_getChar_3b067 56 = .ok (.ishl, 1) := by decide +kernel
theorem dJ2_getChar_3b067_57 : decode cJ2_getChar_3b067 57 = .ok (.ior, 1) := by decide +kernel
theorem dJ2_getChar_3b067_58 : decode cJ2_getChar_3b067 58 = .ok (.i2c, 1) := by decide +kernel
theorem dJ2_getChar_3b067_59 : decode cJ2_getChar_3b067 59 = .ok (.ireturn, 1) := by decide +kernel
theorem dJ2_length_9d52b_0 : decode cJ2_length_9d52b 0 = .ok (.aload_n 0, 1) := by decide +kernel
theorem dJ2_length_9d52b_1 : decode cJ2_length_9d52b 1 = .ok (.arraylength, 1) := by decide +kernel
theorem dJ2_length_9d52b_2 : decode cJ2_length_9d52b 2 = .ok (.iconst 1, 1) := by decide +kernel
theorem dJ2_length_9d52b_3 : decode cJ2_length_9d52b 3 = .ok (.ishr, 1) := by decide +kernel
theorem dJ2_length_9d52b_4 : decode cJ2_length_9d52b 4 = .ok (.ireturn, 1) := by decide +kernel
theorem dJ2_charAt_3b067_0 : decode cJ2_charAt_3b067 0 = .ok (.iload_n 1, 1) := by decide +kernel
theorem dJ2_charAt_3b067_1 : decode cJ2_charAt_3b067 1 = .ok (.aload_n 0, 1) := by decide +kernel
theorem dJ2_charAt_3b067_2 : decode cJ2_charAt_3b067 2 = .ok (.invokestatic 67, 3) := by decide +kernel
theorem dJ2_charAt_3b067_5 : decode cJ2_charAt_3b067 5 = .ok (.aload_n 0, 1) := by decide +kernel
theorem dJ2_charAt_3b067_6 : decode cJ2_charAt_3b067 6 = .ok (.iload_n 1, 1) := by decide +kernel
theorem dJ2_charAt_3b067_7 : decode cJ2_charAt_3b067 7 = .ok (.invokestatic 71, 3) := by decide +kernel
theorem dJ2_charAt_3b067_10 : decode cJ2_charAt_3b067 10 = .ok (.ireturn, 1) := by decide +kernel
theorem dJ2_checkIndex_2214a_0 : decode cJ2_checkIndex_2214a 0 = .ok (.iload_n 0, 1) := by decide +kernel
theorem dJ2_checkIndex_2214a_1 : decode cJ2_checkIndex_2214a 1 = .ok (.aload_n 1, 1) := by decide +kernel
theorem dJ2_checkIndex_2214a_2 : decode cJ2_checkIndex_2214a 2 = .ok (.invokestatic 48, 3) := by decide +kernel
theorem dJ2_checkIndex_2214a_5 : decode cJ2_checkIndex_2214a 5 = .ok (.invokestatic 414, 3) := by decide +kernel
theorem dJ2_checkIndex_2214a_8 : decode cJ2_checkIndex_2214a 8 = .ok (.return_, 1) := by decide +kernel
theorem dJ3_checkIndex_8e157_0 : decode cJ3_checkIndex_8e157 0 = .ok (.iload_n 0, 1) := by decide +kernel
theorem dJ3_checkIndex_8e157_1 : decode cJ3_checkIndex_8e157 1 = .ok (.ifCond .lt 8, 3) := by decide +kernel
theorem dJ3_checkIndex_8e157_4 : decode cJ3_checkIndex_8e157 4 = .ok (.iload_n 0, 1) := by decide +kernel
theorem dJ3_checkIndex_8e157_5 : decode cJ3_checkIndex_8e157 5 = .ok (.iload_n 1, 1) := by decide +kernel
theorem dJ3_checkIndex_8e157_6 : decode cJ3_checkIndex_8e157 6 = .ok (.if_icmp .lt 10, 3) := by decide +kernel
theorem dJ3_checkIndex_8e157_9 : decode cJ3_checkIndex_8e157 9 = .ok (.aload_n 2, 1) := by decide +kernel
theorem dJ3_checkIndex_8e157_10 : decode cJ3_checkIndex_8e157 10 = .ok (.iload_n 0, 1) := by decide +kernel
theorem dJ3_checkIndex_8e157_11 : decode cJ3_checkIndex_8e157 11 = .ok (.iload_n 1, 1) := by decide +kernel
theorem dJ3_checkIndex_8e157_12 : decode cJ3_checkIndex_8e157 12 = .ok (.invokestatic 95, 3) := by decide +kernel
theorem dJ3_checkIndex_8e157_15 : decode cJ3_checkIndex_8e157 15 = .ok (.athrow, 1) := by decide +kernel
theorem dJ3_checkIndex_8e157_16 : decode cJ3_checkIndex_8e157 16 = .ok (.iload_n 0, 1) := by decide +kernel
theorem dJ3_checkIndex_8e157_17 : decode cJ3_checkIndex_8e157 17 = .ok (.ireturn, 1) := by decide +kernel
theorem dL_append_0 : decode cL_append 0 = .ok (.aload_n 2, 1) := by decide +kernel
theorem dL_append_1 : decode cL_append 1 = .ok (.iconst 0, 1) := by decide +kernel
theorem dL_append_2 : decode cL_append 2 = .ok (.aload_n 0, 1) := by decide +kernel
theorem dL_append_3 : decode cL_append 3 = .ok (.iload_n 1, 1) := by decide +kernel
theorem dL_append_4 : decode cL_append 4 = .ok (.invokevirtual 7, 3) := by decide +kernel
theorem dL_append_7 : decode cL_append 7 = .ok (.i2l, 1) := by decide +kernel
theorem dL_append_8 : decode cL_append 8 = .ok (.lastore, 1) := by decide +kernel
theorem dL_append_9 : decode cL_append 9 = .ok (.goto 9, 3) := by decide +kernel
theorem dL_append_12 : decode cL_append 12 = .ok (.astore_n 3, 1) := by decide +kernel
theorem dL_append_13 : decode cL_append 13 = .ok (.iconst 1, 1) := by decide +kernel
theorem dL_append_14 : decode cL_append 14 = .ok (.ireturn, 1) := by decide +kernel
theorem dL_append_15 : decode cL_append 15 = .ok (.astore_n 3, 1) := by decide +kernel
theorem dL_append_16 : decode cL_append 16 = .ok (.iconst 2, 1) := by decide +kernel
theorem dL_append_17 : decode cL_append 17 = .ok (.ireturn, 1) := by decide +kernel
theorem dL_append_18 : decode cL_append 18 = .ok (.iconst 0, 1) := by decide +kernel
theorem dL_append_19 : decode cL_append 19 = .ok (.ireturn, 1) := by decide +kernel
theorem dL_add_0 : decode cL_add 0 = .ok (.aload_n 3, 1) := by decide +kernel
theorem dL_add_1 : decode cL_add 1 = .ok (.iconst 0, 1) := by decide +kernel
theorem dL_add_2 : decode cL_add 2 = .ok (.aload_n 0, 1) := by decide +kernel
theorem dL_add_3 : decode cL_add 3 = .ok (.iload_n 1, 1) := by decide +kernel
theorem dL_add_4 : decode cL_add 4 = .ok (.iload_n 2, 1) := by decide +kernel
theorem dL_add_5 : decode cL_add 5 = .ok (.invokevirtual 17, 3) := by decide +kernel
theorem dL_add_8 : decode cL_add 8 = .ok (.i2l, 1) := by decide +kernel
theorem dL_add_9 : decode cL_add 9 = .ok (.lastore, 1) := by decide +kernel
theorem dL_add_10 : decode cL_add 10 = .ok (.goto 19, 3) := by decide +kernel
theorem dL_add_13 : decode cL_add 13 = .ok (.astore 4, 2) := by decide +kernel
theorem dL_add_15 : decode cL_add 15 = .ok (.iconst 1, 1) := by decide +kernel
theorem dL_add_16 : decode cL_add 16 = .ok (.ireturn, 1) := by decide +kernel
theorem dL_add_17 : decode cL_add 17 = .ok (.astore 4, 2) := by decide +kernel
theorem dL_add_19 : decode cL_add 19 = .ok (.iconst 2, 1) := by decide +kernel
theorem dL_add_20 : decode cL_add 20 = .ok (.ireturn, 1) := by decide +kernel
theorem dL_add_21 : decode cL_add 21 = .ok (.astore 4, 2) := by decide +kernel
theorem dL_add_23 : decode cL_add 23 = .ok (.iconst 3, 1) := by decide +kernel
theorem dL_add_24 : decode cL_add 24 = .ok (.ireturn, 1) := by decide +kernel
theorem dL_add_25 : decode cL_add 25 = .ok (.astore 4, 2) := by decide +kernel
theorem dL_add_27 : decode cL_add 27 = .ok (.iconst 4, 1) := by decide +kernel
theorem dL_add_28 : decode cL_add 28 = .ok (.ireturn, 1) := by decide +kernel
theorem dL_add_29 : decode cL_add 29 = .ok (.iconst 0, 1) := by decide +kernel
theorem dL_add_30 : decode cL_add 30 = .ok (.ireturn, 1) := by decide +kernel
theorem dL_clone_0 : decode cL_clone 0 = .ok (.aload 4, 2) := by decide +kernel
theorem dL_clone_2 : decode cL_clone 2 = .ok (.iconst 0, 1) := by decide +kernel
theorem dL_clone_3 : decode cL_clone 3 = .ok (.aload_n 0, 1) := by decide +kernel
theorem dL_clone_4 : decode cL_clone 4 = .ok (.iload_n 1, 1) := by decide +kernel
theorem dL_clone_5 : decode cL_clone 5 = .ok (.iload_n 2, 1) := by decide +kernel
theorem dL_clone_6 : decode cL_clone 6 = .ok (.iload_n 3, 1) := by decide +kernel
theorem dL_clone_7 : decode cL_clone 7 = .ok (.invokevirtual 27, 3) := by decide +kernel
theorem dL_clone_10 : decode cL_clone 10 = .ok (.i2l, 1) := by decide +kernel
theorem dL_clone_11 : decode cL_clone 11 = .ok (.lastore, 1) := by decide +kernel
theorem dL_clone_12 : decode cL_clone 12 = .ok (.goto 15, 3) := by decide +kernel
theorem dL_clone_15 : decode cL_clone 15 = .ok (.astore 5, 2) := by decide +kernel
theorem dL_clone_17 : decode cL_clone 17 = .ok (.iconst 1, 1) := by decide +kernel
theorem dL_clone_18 : decode cL_clone 18 = .ok (.ireturn, 1) := by decide +kernel
theorem dL_clone_19 : decode cL_clone 19 = .ok (.astore 5, 2) := by decide +kernel
theorem dL_clone_21 : decode cL_clone 21 = .ok (.iconst 2, 1) := by decide +kernel
theorem dL_clone_22 : decode cL_clone 22 = .ok (.ireturn, 1) := by decide +kernel
theorem dL_clone_23 : decode cL_clone 23 = .ok (.astore 5, 2) := by decide +kernel
theorem dL_clone_25 : decode cL_clone 25 = .ok (.iconst 3, 1) := by decide +kernel
theorem dL_clone_26 : decode cL_clone 26 = .ok (.ireturn, 1) := by decide +kernel
theorem dL_clone_27 : decode cL_clone 27 = .ok (.iconst 0, 1) := by decide +kernel
theorem dL_clone_28 : decode cL_clone 28 = .ok (.ireturn, 1) := by decide +kernel
theorem dL_detach_0 : decode cL_detach 0 = .ok (.aload_n 3, 1) := by decide +kernel
theorem dL_detach_1 : decode cL_detach 1 = .ok (.iconst 0, 1) := by decide +kernel
theorem dL_detach_2 : decode cL_detach 2 = .ok (.aload_n 0, 1) := by decide +kernel
theorem dL_detach_3 : decode cL_detach 3 = .ok (.iload_n 1, 1) := by decide +kernel
theorem dL_detach_4 : decode cL_detach 4 = .ok (.iload_n 2, 1) := by decide +kernel
theorem dL_detach_5 : decode cL_detach 5 = .ok (.invokevirtual 31, 3) := by decide +kernel
theorem dL_detach_8 : decode cL_detach 8 = .ok (.i2l, 1) := by decide +kernel
theorem dL_detach_9 : decode cL_detach 9 = .ok (.lastore, 1) := by decide +kernel
theorem dL_detach_10 : decode cL_detach 10 = .ok (.goto 11, 3) := by decide +kernel
theorem dL_detach_13 : decode cL_detach 13 = .ok (.astore 4, 2) := by decide +kernel
theorem dL_detach_15 : decode cL_detach 15 = .ok (.iconst 1, 1) := by decide +kernel
theorem dL_detach_16 : decode cL_detach 16 = .ok (.ireturn, 1) := by decide +kernel
theorem dL_detach_17 : decode cL_detach 17 = .ok (.astore 4, 2) := by decide +kernel
theorem dL_detach_19 : decode cL_detach 19 = .ok (.iconst 2, 1) := by decide +kernel
theorem dL_detach_20 : decode cL_detach 20 = .ok (.ireturn, 1) := by decide +kernel
theorem dL_detach_21 : decode cL_detach 21 = .ok (.iconst 0, 1) := by decide +kernel
theorem dL_detach_22 : decode cL_detach 22 = .ok (.ireturn, 1) := by decide +kernel
theorem dL_moveBlock_0 : decode cL_moveBlock 0 = .ok (.aload 6, 2) := by decide +kernel
theorem dL_moveBlock_2 : decode cL_moveBlock 2 = .ok (.iconst 0, 1) := by decide +kernel
theorem dL_moveBlock_3 : decode cL_moveBlock 3 = .ok (.aload_n 0, 1) := by decide +kernel
theorem dL_moveBlock_4 : decode cL_moveBlock 4 = .ok (.iload_n 1, 1) := by decide +kernel
theorem dL_moveBlock_5 : decode cL_moveBlock 5 = .ok (.iload_n 2, 1) := by decide +kernel
theorem dL_moveBlock_6 : decode cL_moveBlock 6 = .ok (.iload_n 3, 1) := by decide +kernel
theorem dL_moveBlock_7 : decode cL_moveBlock 7 = .ok (.iload 4, 2) := by decide +kernel
theorem dL_moveBlock_9 : decode cL_moveBlock 9 = .ok (.iload 5, 2) := by decide +kernel
theorem dL_moveBlock_11 : decode cL_moveBlock 11 = .ok (.invokevirtual 34, 3) := by decide +kernel
theorem dL_moveBlock_14 : decode cL_moveBlock 14 = .ok (.i2l, 1) := by decide +kernel
theorem dL_moveBlock_15 : decode cL_moveBlock 15 = .ok (.lastore, 1) := by decide +kernel
theorem dL_moveBlock_16 : decode cL_moveBlock 16 = .ok (.goto 15, 3) := by decide +kernel
theorem dL_moveBlock_19 : decode cL_moveBlock 19 = .ok (.astore 7, 2) := by decide +kernel
theorem dL_moveBlock_21 : decode cL_moveBlock 21 = .ok (.iconst 1, 1) := by decide +kernel
theorem dL_moveBlock_22 : decode cL_moveBlock 22 = .ok (.ireturn, 1) := by decide +kernel
theorem dL_moveBlock_23 : decode cL_moveBlock 23 = .ok (.astore 7, 2) := by decide +kernel
theorem dL_moveBlock_25 : decode cL_moveBlock 25 = .ok (.iconst 2, 1) := by decide +kernel
theorem dL_moveBlock_26 : decode cL_moveBlock 26 = .ok (.ireturn, 1) := by decide +kernel
theorem dL_moveBlock_27 : decode cL_moveBlock 27 = .ok (.astore 7, 2) := by decide +kernel
theorem dL_moveBlock_29 : decode cL_moveBlock 29 = .ok (.iconst 3, 1) := by decide +kernel
theorem dL_moveBlock_30 : decode cL_moveBlock 30 = .ok (.ireturn, 1) := by decide +kernel
theorem dL_moveBlock_31 : decode cL_moveBlock 31 = .ok (.iconst 0, 1) := by decide +kernel
theorem dL_moveBlock_32 : decode cL_moveBlock 32 = .ok (.ireturn, 1) := by decide +kernel
theorem dL_indent_0 : decode cL_indent 0 = .ok (.aload_n 2, 1) := by decide +kernel
theorem dL_indent_1 : decode cL_indent 1 = .ok (.iconst 0, 1) := by decide +kernel
theorem dL_indent_2 : decode cL_indent 2 = .ok (.aload_n 0, 1) := by decide +kernel
theorem dL_indent_3 : decode cL_indent 3 = .ok (.iload_n 1, 1) := by decide +kernel
theorem dL_indent_4 : decode cL_indent 4 = .ok (.invokevirtual 38, 3) := by decide +kernel
theorem dL_indent_7 : decode cL_indent 7 = .ok (.i2l, 1) := by decide +kernel
theorem dL_indent_8 : decode cL_indent 8 = .ok (.lastore, 1) := by decide +kernel
theorem dL_indent_9 : decode cL_indent 9 = .ok (.goto 12, 3) := by decide +kernel
theorem dL_indent_12 : decode cL_indent 12 = .ok (.astore_n 3, 1) := by decide +kernel
theorem dL_indent_13 : decode cL_indent 13 = .ok (.iconst 1, 1) := by decide +kernel
theorem dL_indent_14 : decode cL_indent 14 = .ok (.ireturn, 1) := by decide +kernel
theorem dL_indent_15 : decode cL_indent 15 = .ok (.astore_n 3, 1) := by decide +kernel
theorem dL_indent_16 : decode cL_indent 16 = .ok (.iconst 2, 1) := by decide +kernel
theorem dL_indent_17 : decode cL_indent 17 = .ok (.ireturn, 1) := by decide +kernel
theorem dL_indent_18 : decode cL_indent 18 = .ok (.astore_n 3, 1) := by decide +kernel
theorem dL_indent_19 : decode cL_indent 19 = .ok (.iconst 3, 1) := by decide +kernel
theorem dL_indent_20 : decode cL_indent 20 = .ok (.ireturn, 1) := by decide +kernel
theorem dL_indent_21 : decode cL_indent 21 = .ok (.iconst 0, 1) := by decide +kernel
theorem dL_indent_22 : decode cL_indent 22 = .ok (.ireturn, 1) := by decide +kernel
theorem dL_outdent_0 : decode cL_outdent 0 = .ok (.aload_n 2, 1) := by decide +kernel
theorem dL_outdent_1 : decode cL_outdent 1 = .ok (.iconst 0, 1) := by decide +kernel
theorem dL_outdent_2 : decode cL_outdent 2 = .ok (.aload_n 0, 1) := by decide +kernel
theorem dL_outdent_3 : decode cL_outdent 3 = .ok (.iload_n 1, 1) := by decide +kernel
theorem dL_outdent_4 : decode cL_outdent 4 = .ok (.invokevirtual 41, 3) := by decide +kernel
theorem dL_outdent_7 : decode cL_outdent 7 = .ok (.i2l, 1) := by decide +kernel
theorem dL_outdent_8 : decode cL_outdent 8 = .ok (.lastore, 1) := by decide +kernel
theorem dL_outdent_9 : decode cL_outdent 9 = .ok (.goto 12, 3) := by decide +kernel
theorem dL_outdent_12 : decode cL_outdent 12 = .ok (.astore_n 3, 1) := by decide +kernel
theorem dL_outdent_13 : decode cL_outdent 13 = .ok (.iconst 1, 1) := by decide +kernel
theorem dL_outdent_14 : decode cL_outdent 14 = .ok (.ireturn, 1) := by decide +kernel
theorem dL_outdent_15 : decode cL_outdent 15 = .ok (.astore_n 3, 1) := by decide +kernel
theorem dL_outdent_16 : decode cL_outdent 16 = .ok (.iconst 2, 1) := by decide +kernel
theorem dL_outdent_17 : decode cL_outdent 17 = .ok (.ireturn, 1) := by decide +kernel
theorem dL_outdent_18 : decode cL_outdent 18 = .ok (.astore_n 3, 1) := by decide +kernel
theorem dL_outdent_19 : decode cL_outdent 19 = .ok (.iconst 3, 1) := by decide +kernel
theorem dL_outdent_20 : decode cL_outdent 20 = .ok (.ireturn, 1) := by decide +kernel
theorem dL_outdent_21 : decode cL_outdent 21 = .ok (.iconst 0, 1) := by decide +kernel
theorem dL_outdent_22 : decode cL_outdent 22 = .ok (.ireturn, 1) := by decide +kernel
theorem dL_rename_0 : decode cL_rename 0 = .ok (.aload_n 2, 1) := by decide +kernel
theorem dL_rename_1 : decode cL_rename 1 = .ok (.iconst 0, 1) := by decide +kernel
theorem dL_rename_2 : decode cL_rename 2 = .ok (.aload_n 0, 1) := by decide +kernel
theorem dL_rename_3 : decode cL_rename 3 = .ok (.iload_n 1, 1) := by decide +kernel
theorem dL_rename_4 : decode cL_rename 4 = .ok (.invokevirtual 44, 3) := by decide +kernel
theorem dL_rename_7 : decode cL_rename 7 = .ok (.i2l, 1) := by decide +kernel
theorem dL_rename_8 : decode cL_rename 8 = .ok (.lastore, 1) := by decide +kernel
theorem dL_rename_9 : decode cL_rename 9 = .ok (.goto 9, 3) := by decide +kernel
theorem dL_rename_12 : decode cL_rename 12 = .ok (.astore_n 3, 1) := by decide +kernel
theorem dL_rename_13 : decode cL_rename 13 = .ok (.iconst 1, 1) := by decide +kernel
theorem dL_rename_14 : decode cL_rename 14 = .ok (.ireturn, 1) := by decide +kernel
theorem dL_rename_15 : decode cL_rename 15 = .ok (.astore_n 3, 1) := by decide +kernel
theorem dL_rename_16 : decode cL_rename 16 = .ok (.iconst 2, 1) := by decide +kernel
theorem dL_rename_17 : decode cL_rename 17 = .ok (.ireturn, 1) := by decide +kernel
theorem dL_rename_18 : decode cL_rename 18 = .ok (.iconst 0, 1) := by decide +kernel
theorem dL_rename_19 : decode cL_rename 19 = .ok (.ireturn, 1) := by decide +kernel
theorem dL_setNumber_0 : decode cL_setNumber 0 = .ok (.aload 4, 2) := by decide +kernel
theorem dL_setNumber_2 : decode cL_setNumber 2 = .ok (.iconst 0, 1) := by decide +kernel
theorem dL_setNumber_3 : decode cL_setNumber 3 = .ok (.aload_n 0, 1) := by decide +kernel
theorem dL_setNumber_4 : decode cL_setNumber 4 = .ok (.iload_n 1, 1) := by decide +kernel
theorem dL_setNumber_5 : decode cL_setNumber 5 = .ok (.iload_n 2, 1) := by decide +kernel
theorem dL_setNumber_6 : decode cL_setNumber 6 = .ok (.iload_n 3, 1) := by decide +kernel
theorem dL_setNumber_7 : decode cL_setNumber 7 = .ok (.invokevirtual 47, 3) := by decide +kernel
theorem dL_setNumber_10 : decode cL_setNumber 10 = .ok (.i2l, 1) := by decide +kernel
theorem dL_setNumber_11 : decode cL_setNumber 11 = .ok (.lastore, 1) := by decide +kernel
theorem dL_setNumber_12 : decode cL_setNumber 12 = .ok (.goto 11, 3) := by decide +kernel
theorem dL_setNumber_15 : decode cL_setNumber 15 = .ok (.astore 5, 2) := by decide +kernel
theorem dL_setNumber_17 : decode cL_setNumber 17 = .ok (.iconst 1, 1) := by decide +kernel
theorem dL_setNumber_18 : decode cL_setNumber 18 = .ok (.ireturn, 1) := by decide +kernel
theorem dL_setNumber_19 : decode cL_setNumber 19 = .ok (.astore 5, 2) := by decide +kernel
theorem dL_setNumber_21 : decode cL_setNumber 21 = .ok (.iconst 2, 1) := by decide +kernel
theorem dL_setNumber_22 : decode cL_setNumber 22 = .ok (.ireturn, 1) := by decide +kernel
theorem dL_setNumber_23 : decode cL_setNumber 23 = .ok (.iconst 0, 1) := by decide +kernel
theorem dL_setNumber_24 : decode cL_setNumber 24 = .ok (.ireturn, 1) := by decide +kernel
theorem dL_setFlag_0 : decode cL_setFlag 0 = .ok (.aload 4, 2) := by decide +kernel
theorem dL_setFlag_2 : decode cL_setFlag 2 = .ok (.iconst 0, 1) := by decide +kernel
theorem dL_setFlag_3 : decode cL_setFlag 3 = .ok (.aload_n 0, 1) := by decide +kernel
theorem dL_setFlag_4 : decode cL_setFlag 4 = .ok (.iload_n 1, 1) := by decide +kernel
theorem dL_setFlag_5 : decode cL_setFlag 5 = .ok (.iload_n 2, 1) := by decide +kernel
theorem dL_setFlag_6 : decode cL_setFlag 6 = .ok (.iload_n 3, 1) := by decide +kernel
theorem dL_setFlag_7 : decode cL_setFlag 7 = .ok (.invokevirtual 51, 3) := by decide +kernel
theorem dL_setFlag_10 : decode cL_setFlag 10 = .ok (.ifCond .eq 7, 3) := by decide +kernel
theorem dL_setFlag_13 : decode cL_setFlag 13 = .ok (.lconst 1, 1) := by decide +kernel
theorem dL_setFlag_14 : decode cL_setFlag 14 = .ok (.goto 4, 3) := by decide +kernel
theorem dL_setFlag_17 : decode cL_setFlag 17 = .ok (.lconst 0, 1) := by decide +kernel
theorem dL_setFlag_18 : decode cL_setFlag 18 = .ok (.lastore, 1) := by decide +kernel
theorem dL_setFlag_19 : decode cL_setFlag 19 = .ok (.goto 7, 3) := by decide +kernel
theorem dL_setFlag_22 : decode cL_setFlag 22 = .ok (.astore 5, 2) := by decide +kernel
theorem dL_setFlag_24 : decode cL_setFlag 24 = .ok (.iconst 1, 1) := by decide +kernel
theorem dL_setFlag_25 : decode cL_setFlag 25 = .ok (.ireturn, 1) := by decide +kernel
theorem dL_setFlag_26 : decode cL_setFlag 26 = .ok (.iconst 0, 1) := by decide +kernel
theorem dL_setFlag_27 : decode cL_setFlag 27 = .ok (.ireturn, 1) := by decide +kernel
theorem dL_item_0 : decode cL_item 0 = .ok (.aload_n 3, 1) := by decide +kernel
theorem dL_item_1 : decode cL_item 1 = .ok (.iconst 0, 1) := by decide +kernel
theorem dL_item_2 : decode cL_item 2 = .ok (.aload_n 0, 1) := by decide +kernel
theorem dL_item_3 : decode cL_item 3 = .ok (.iload_n 1, 1) := by decide +kernel
theorem dL_item_4 : decode cL_item 4 = .ok (.iload_n 2, 1) := by decide +kernel
theorem dL_item_5 : decode cL_item 5 = .ok (.invokevirtual 55, 3) := by decide +kernel
theorem dL_item_8 : decode cL_item 8 = .ok (.i2l, 1) := by decide +kernel
theorem dL_item_9 : decode cL_item 9 = .ok (.lastore, 1) := by decide +kernel
theorem dL_item_10 : decode cL_item 10 = .ok (.goto 11, 3) := by decide +kernel
theorem dL_item_13 : decode cL_item 13 = .ok (.astore 4, 2) := by decide +kernel
theorem dL_item_15 : decode cL_item 15 = .ok (.iconst 1, 1) := by decide +kernel
theorem dL_item_16 : decode cL_item 16 = .ok (.ireturn, 1) := by decide +kernel
theorem dL_item_17 : decode cL_item 17 = .ok (.astore 4, 2) := by decide +kernel
theorem dL_item_19 : decode cL_item 19 = .ok (.iconst 2, 1) := by decide +kernel
theorem dL_item_20 : decode cL_item 20 = .ok (.ireturn, 1) := by decide +kernel
theorem dL_item_21 : decode cL_item 21 = .ok (.iconst 0, 1) := by decide +kernel
theorem dL_item_22 : decode cL_item 22 = .ok (.ireturn, 1) := by decide +kernel
theorem dL_related_0 : decode cL_related 0 = .ok (.aload 4, 2) := by decide +kernel
theorem dL_related_2 : decode cL_related 2 = .ok (.iconst 0, 1) := by decide +kernel
theorem dL_related_3 : decode cL_related 3 = .ok (.aload_n 0, 1) := by decide +kernel
theorem dL_related_4 : decode cL_related 4 = .ok (.iload_n 1, 1) := by decide +kernel
theorem dL_related_5 : decode cL_related 5 = .ok (.iload_n 2, 1) := by decide +kernel
theorem dL_related_6 : decode cL_related 6 = .ok (.iload_n 3, 1) := by decide +kernel
theorem dL_related_7 : decode cL_related 7 = .ok (.invokevirtual 58, 3) := by decide +kernel
theorem dL_related_10 : decode cL_related 10 = .ok (.i2l, 1) := by decide +kernel
theorem dL_related_11 : decode cL_related 11 = .ok (.lastore, 1) := by decide +kernel
theorem dL_related_12 : decode cL_related 12 = .ok (.goto 11, 3) := by decide +kernel
theorem dL_related_15 : decode cL_related 15 = .ok (.astore 5, 2) := by decide +kernel
theorem dL_related_17 : decode cL_related 17 = .ok (.iconst 1, 1) := by decide +kernel
theorem dL_related_18 : decode cL_related 18 = .ok (.ireturn, 1) := by decide +kernel
theorem dL_related_19 : decode cL_related 19 = .ok (.astore 5, 2) := by decide +kernel
theorem dL_related_21 : decode cL_related 21 = .ok (.iconst 2, 1) := by decide +kernel
theorem dL_related_22 : decode cL_related 22 = .ok (.ireturn, 1) := by decide +kernel
theorem dL_related_23 : decode cL_related 23 = .ok (.iconst 0, 1) := by decide +kernel
theorem dL_related_24 : decode cL_related 24 = .ok (.ireturn, 1) := by decide +kernel
theorem dL_letter_0 : decode cL_letter 0 = .ok (.aload_n 3, 1) := by decide +kernel
theorem dL_letter_1 : decode cL_letter 1 = .ok (.iconst 0, 1) := by decide +kernel
theorem dL_letter_2 : decode cL_letter 2 = .ok (.aload_n 0, 1) := by decide +kernel
theorem dL_letter_3 : decode cL_letter 3 = .ok (.iload_n 1, 1) := by decide +kernel
theorem dL_letter_4 : decode cL_letter 4 = .ok (.iload_n 2, 1) := by decide +kernel
theorem dL_letter_5 : decode cL_letter 5 = .ok (.invokevirtual 62, 3) := by decide +kernel
theorem dL_letter_8 : decode cL_letter 8 = .ok (.i2l, 1) := by decide +kernel
theorem dL_letter_9 : decode cL_letter 9 = .ok (.lastore, 1) := by decide +kernel
theorem dL_letter_10 : decode cL_letter 10 = .ok (.goto 11, 3) := by decide +kernel
theorem dL_letter_13 : decode cL_letter 13 = .ok (.astore 4, 2) := by decide +kernel
theorem dL_letter_15 : decode cL_letter 15 = .ok (.iconst 1, 1) := by decide +kernel
theorem dL_letter_16 : decode cL_letter 16 = .ok (.ireturn, 1) := by decide +kernel
theorem dL_letter_17 : decode cL_letter 17 = .ok (.astore 4, 2) := by decide +kernel
theorem dL_letter_19 : decode cL_letter 19 = .ok (.iconst 2, 1) := by decide +kernel
theorem dL_letter_20 : decode cL_letter 20 = .ok (.ireturn, 1) := by decide +kernel
theorem dL_letter_21 : decode cL_letter 21 = .ok (.iconst 0, 1) := by decide +kernel
theorem dL_letter_22 : decode cL_letter 22 = .ok (.ireturn, 1) := by decide +kernel
theorem dL_isBelow_0 : decode cL_isBelow 0 = .ok (.aload_n 3, 1) := by decide +kernel
theorem dL_isBelow_1 : decode cL_isBelow 1 = .ok (.iconst 0, 1) := by decide +kernel
theorem dL_isBelow_2 : decode cL_isBelow 2 = .ok (.aload_n 0, 1) := by decide +kernel
theorem dL_isBelow_3 : decode cL_isBelow 3 = .ok (.iload_n 1, 1) := by decide +kernel
theorem dL_isBelow_4 : decode cL_isBelow 4 = .ok (.iload_n 2, 1) := by decide +kernel
theorem dL_isBelow_5 : decode cL_isBelow 5 = .ok (.invokevirtual 66, 3) := by decide +kernel
theorem dL_isBelow_8 : decode cL_isBelow 8 = .ok (.ifCond .eq 7, 3) := by decide +kernel
theorem dL_isBelow_11 : decode cL_isBelow 11 = .ok (.lconst 1, 1) := by decide +kernel
theorem dL_isBelow_12 : decode cL_isBelow 12 = .ok (.goto 4, 3) := by decide +kernel
theorem dL_isBelow_15 : decode cL_isBelow 15 = .ok (.lconst 0, 1) := by decide +kernel
theorem dL_isBelow_16 : decode cL_isBelow 16 = .ok (.lastore, 1) := by decide +kernel
theorem dL_isBelow_17 : decode cL_isBelow 17 = .ok (.goto 7, 3) := by decide +kernel
theorem dL_isBelow_20 : decode cL_isBelow 20 = .ok (.astore 4, 2) := by decide +kernel
theorem dL_isBelow_22 : decode cL_isBelow 22 = .ok (.iconst 1, 1) := by decide +kernel
theorem dL_isBelow_23 : decode cL_isBelow 23 = .ok (.ireturn, 1) := by decide +kernel
theorem dL_isBelow_24 : decode cL_isBelow 24 = .ok (.iconst 0, 1) := by decide +kernel
theorem dL_isBelow_25 : decode cL_isBelow 25 = .ok (.ireturn, 1) := by decide +kernel
theorem dL_outline_0 : decode cL_outline 0 = .ok (.aload_n 2, 1) := by decide +kernel
theorem dL_outline_1 : decode cL_outline 1 = .ok (.iconst 0, 1) := by decide +kernel
theorem dL_outline_2 : decode cL_outline 2 = .ok (.aload_n 0, 1) := by decide +kernel
theorem dL_outline_3 : decode cL_outline 3 = .ok (.iload_n 1, 1) := by decide +kernel
theorem dL_outline_4 : decode cL_outline 4 = .ok (.invokevirtual 70, 3) := by decide +kernel
theorem dL_outline_7 : decode cL_outline 7 = .ok (.i2l, 1) := by decide +kernel
theorem dL_outline_8 : decode cL_outline 8 = .ok (.lastore, 1) := by decide +kernel
theorem dL_outline_9 : decode cL_outline 9 = .ok (.goto 6, 3) := by decide +kernel
theorem dL_outline_12 : decode cL_outline 12 = .ok (.astore_n 3, 1) := by decide +kernel
theorem dL_outline_13 : decode cL_outline 13 = .ok (.iconst 1, 1) := by decide +kernel
theorem dL_outline_14 : decode cL_outline 14 = .ok (.ireturn, 1) := by decide +kernel
theorem dL_outline_15 : decode cL_outline 15 = .ok (.iconst 0, 1) := by decide +kernel
theorem dL_outline_16 : decode cL_outline 16 = .ok (.ireturn, 1) := by decide +kernel
theorem dL_doneShare_0 : decode cL_doneShare 0 = .ok (.aload_n 2, 1) := by decide +kernel
theorem dL_doneShare_1 : decode cL_doneShare 1 = .ok (.iconst 0, 1) := by decide +kernel
theorem dL_doneShare_2 : decode cL_doneShare 2 = .ok (.aload_n 0, 1) := by decide +kernel
theorem dL_doneShare_3 : decode cL_doneShare 3 = .ok (.iload_n 1, 1) := by decide +kernel
theorem dL_doneShare_4 : decode cL_doneShare 4 = .ok (.invokevirtual 73, 3) := by decide +kernel
theorem dL_doneShare_7 : decode cL_doneShare 7 = .ok (.f2d, 1) := by decide +kernel
theorem dL_doneShare_8 : decode cL_doneShare 8 = .ok (.dastore, 1) := by decide +kernel
theorem dL_doneShare_9 : decode cL_doneShare 9 = .ok (.goto 6, 3) := by decide +kernel
theorem dL_doneShare_12 : decode cL_doneShare 12 = .ok (.astore_n 3, 1) := by decide +kernel
theorem dL_doneShare_13 : decode cL_doneShare 13 = .ok (.iconst 1, 1) := by decide +kernel
theorem dL_doneShare_14 : decode cL_doneShare 14 = .ok (.ireturn, 1) := by decide +kernel
theorem dL_doneShare_15 : decode cL_doneShare 15 = .ok (.iconst 0, 1) := by decide +kernel
theorem dL_doneShare_16 : decode cL_doneShare 16 = .ok (.ireturn, 1) := by decide +kernel
theorem dL_meanValue_0 : decode cL_meanValue 0 = .ok (.aload_n 2, 1) := by decide +kernel
theorem dL_meanValue_1 : decode cL_meanValue 1 = .ok (.iconst 0, 1) := by decide +kernel
theorem dL_meanValue_2 : decode cL_meanValue 2 = .ok (.aload_n 0, 1) := by decide +kernel
theorem dL_meanValue_3 : decode cL_meanValue 3 = .ok (.iload_n 1, 1) := by decide +kernel
theorem dL_meanValue_4 : decode cL_meanValue 4 = .ok (.invokevirtual 77, 3) := by decide +kernel
theorem dL_meanValue_7 : decode cL_meanValue 7 = .ok (.dastore, 1) := by decide +kernel
theorem dL_meanValue_8 : decode cL_meanValue 8 = .ok (.goto 6, 3) := by decide +kernel
theorem dL_meanValue_11 : decode cL_meanValue 11 = .ok (.astore_n 3, 1) := by decide +kernel
theorem dL_meanValue_12 : decode cL_meanValue 12 = .ok (.iconst 1, 1) := by decide +kernel
theorem dL_meanValue_13 : decode cL_meanValue 13 = .ok (.ireturn, 1) := by decide +kernel
theorem dL_meanValue_14 : decode cL_meanValue 14 = .ok (.iconst 0, 1) := by decide +kernel
theorem dL_meanValue_15 : decode cL_meanValue 15 = .ok (.ireturn, 1) := by decide +kernel
theorem dL_hoist_0 : decode cL_hoist 0 = .ok (.aload_n 2, 1) := by decide +kernel
theorem dL_hoist_1 : decode cL_hoist 1 = .ok (.iconst 0, 1) := by decide +kernel
theorem dL_hoist_2 : decode cL_hoist 2 = .ok (.aload_n 0, 1) := by decide +kernel
theorem dL_hoist_3 : decode cL_hoist 3 = .ok (.iload_n 1, 1) := by decide +kernel
theorem dL_hoist_4 : decode cL_hoist 4 = .ok (.invokevirtual 81, 3) := by decide +kernel
theorem dL_hoist_7 : decode cL_hoist 7 = .ok (.i2l, 1) := by decide +kernel
theorem dL_hoist_8 : decode cL_hoist 8 = .ok (.lastore, 1) := by decide +kernel
theorem dL_hoist_9 : decode cL_hoist 9 = .ok (.goto 9, 3) := by decide +kernel
theorem dL_hoist_12 : decode cL_hoist 12 = .ok (.astore_n 3, 1) := by decide +kernel
theorem dL_hoist_13 : decode cL_hoist 13 = .ok (.iconst 1, 1) := by decide +kernel
theorem dL_hoist_14 : decode cL_hoist 14 = .ok (.ireturn, 1) := by decide +kernel
theorem dL_hoist_15 : decode cL_hoist 15 = .ok (.astore_n 3, 1) := by decide +kernel
theorem dL_hoist_16 : decode cL_hoist 16 = .ok (.iconst 2, 1) := by decide +kernel
theorem dL_hoist_17 : decode cL_hoist 17 = .ok (.ireturn, 1) := by decide +kernel
theorem dL_hoist_18 : decode cL_hoist 18 = .ok (.iconst 0, 1) := by decide +kernel
theorem dL_hoist_19 : decode cL_hoist 19 = .ok (.ireturn, 1) := by decide +kernel
theorem dL_unhoist_0 : decode cL_unhoist 0 = .ok (.aload_n 1, 1) := by decide +kernel
theorem dL_unhoist_1 : decode cL_unhoist 1 = .ok (.iconst 0, 1) := by decide +kernel
theorem dL_unhoist_2 : decode cL_unhoist 2 = .ok (.aload_n 0, 1) := by decide +kernel
theorem dL_unhoist_3 : decode cL_unhoist 3 = .ok (.invokevirtual 84, 3) := by decide +kernel
theorem dL_unhoist_6 : decode cL_unhoist 6 = .ok (.i2l, 1) := by decide +kernel
theorem dL_unhoist_7 : decode cL_unhoist 7 = .ok (.lastore, 1) := by decide +kernel
theorem dL_unhoist_8 : decode cL_unhoist 8 = .ok (.goto 6, 3) := by decide +kernel
theorem dL_unhoist_11 : decode cL_unhoist 11 = .ok (.astore_n 2, 1) := by decide +kernel
theorem dL_unhoist_12 : decode cL_unhoist 12 = .ok (.iconst 1, 1) := by decide +kernel
theorem dL_unhoist_13 : decode cL_unhoist 13 = .ok (.ireturn, 1) := by decide +kernel
theorem dL_unhoist_14 : decode cL_unhoist 14 = .ok (.iconst 0, 1) := by decide +kernel
theorem dL_unhoist_15 : decode cL_unhoist 15 = .ok (.ireturn, 1) := by decide +kernel
theorem dL_filter_0 : decode cL_filter 0 = .ok (.aload_n 1, 1) := by decide +kernel
theorem dL_filter_1 : decode cL_filter 1 = .ok (.iconst 0, 1) := by decide +kernel
theorem dL_filter_2 : decode cL_filter 2 = .ok (.aload_n 0, 1) := by decide +kernel
theorem dL_filter_3 : decode cL_filter 3 = .ok (.invokevirtual 88, 3) := by decide +kernel
theorem dL_filter_6 : decode cL_filter 6 = .ok (.i2l, 1) := by decide +kernel
theorem dL_filter_7 : decode cL_filter 7 = .ok (.lastore, 1) := by decide +kernel
theorem dL_filter_8 : decode cL_filter 8 = .ok (.goto 6, 3) := by decide +kernel
theorem dL_filter_11 : decode cL_filter 11 = .ok (.astore_n 2, 1) := by decide +kernel
theorem dL_filter_12 : decode cL_filter 12 = .ok (.iconst 1, 1) := by decide +kernel
theorem dL_filter_13 : decode cL_filter 13 = .ok (.ireturn, 1) := by decide +kernel
theorem dL_filter_14 : decode cL_filter 14 = .ok (.iconst 0, 1) := by decide +kernel
theorem dL_filter_15 : decode cL_filter 15 = .ok (.ireturn, 1) := by decide +kernel
theorem dL_line_0 : decode cL_line 0 = .ok (.aload_n 3, 1) := by decide +kernel
theorem dL_line_1 : decode cL_line 1 = .ok (.iconst 0, 1) := by decide +kernel
theorem dL_line_2 : decode cL_line 2 = .ok (.aload_n 0, 1) := by decide +kernel
theorem dL_line_3 : decode cL_line 3 = .ok (.iload_n 1, 1) := by decide +kernel
theorem dL_line_4 : decode cL_line 4 = .ok (.iload_n 2, 1) := by decide +kernel
theorem dL_line_5 : decode cL_line 5 = .ok (.invokevirtual 91, 3) := by decide +kernel
theorem dL_line_8 : decode cL_line 8 = .ok (.i2l, 1) := by decide +kernel
theorem dL_line_9 : decode cL_line 9 = .ok (.lastore, 1) := by decide +kernel
theorem dL_line_10 : decode cL_line 10 = .ok (.goto 11, 3) := by decide +kernel
theorem dL_line_13 : decode cL_line 13 = .ok (.astore 4, 2) := by decide +kernel
theorem dL_line_15 : decode cL_line 15 = .ok (.iconst 1, 1) := by decide +kernel
theorem dL_line_16 : decode cL_line 16 = .ok (.ireturn, 1) := by decide +kernel
theorem dL_line_17 : decode cL_line 17 = .ok (.astore 4, 2) := by decide +kernel
theorem dL_line_19 : decode cL_line 19 = .ok (.iconst 2, 1) := by decide +kernel
theorem dL_line_20 : decode cL_line 20 = .ok (.ireturn, 1) := by decide +kernel
theorem dL_line_21 : decode cL_line 21 = .ok (.iconst 0, 1) := by decide +kernel
theorem dL_line_22 : decode cL_line 22 = .ok (.ireturn, 1) := by decide +kernel
theorem dL_path_0 : decode cL_path 0 = .ok (.aload_n 3, 1) := by decide +kernel
theorem dL_path_1 : decode cL_path 1 = .ok (.iconst 0, 1) := by decide +kernel
theorem dL_path_2 : decode cL_path 2 = .ok (.aload_n 0, 1) := by decide +kernel
theorem dL_path_3 : decode cL_path 3 = .ok (.iload_n 1, 1) := by decide +kernel
theorem dL_path_4 : decode cL_path 4 = .ok (.iload_n 2, 1) := by decide +kernel
theorem dL_path_5 : decode cL_path 5 = .ok (.invokevirtual 94, 3) := by decide +kernel
theorem dL_path_8 : decode cL_path 8 = .ok (.i2l, 1) := by decide +kernel
theorem dL_path_9 : decode cL_path 9 = .ok (.lastore, 1) := by decide +kernel
theorem dL_path_10 : decode cL_path 10 = .ok (.goto 11, 3) := by decide +kernel
theorem dL_path_13 : decode cL_path 13 = .ok (.astore 4, 2) := by decide +kernel
theorem dL_path_15 : decode cL_path 15 = .ok (.iconst 1, 1) := by decide +kernel
theorem dL_path_16 : decode cL_path 16 = .ok (.ireturn, 1) := by decide +kernel
theorem dL_path_17 : decode cL_path 17 = .ok (.astore 4, 2) := by decide +kernel
theorem dL_path_19 : decode cL_path 19 = .ok (.iconst 2, 1) := by decide +kernel
theorem dL_path_20 : decode cL_path 20 = .ok (.ireturn, 1) := by decide +kernel
theorem dL_path_21 : decode cL_path 21 = .ok (.iconst 0, 1) := by decide +kernel
theorem dL_path_22 : decode cL_path 22 = .ok (.ireturn, 1) := by decide +kernel
theorem dL_load_0 : decode cL_load 0 = .ok (.aload_n 2, 1) := by decide +kernel
theorem dL_load_1 : decode cL_load 1 = .ok (.iconst 0, 1) := by decide +kernel
theorem dL_load_2 : decode cL_load 2 = .ok (.aload_n 0, 1) := by decide +kernel
theorem dL_load_3 : decode cL_load 3 = .ok (.iload_n 1, 1) := by decide +kernel
theorem dL_load_4 : decode cL_load 4 = .ok (.invokevirtual 97, 3) := by decide +kernel
theorem dL_load_7 : decode cL_load 7 = .ok (.i2l, 1) := by decide +kernel
theorem dL_load_8 : decode cL_load 8 = .ok (.lastore, 1) := by decide +kernel
theorem dL_load_9 : decode cL_load 9 = .ok (.goto 12, 3) := by decide +kernel
theorem dL_load_12 : decode cL_load 12 = .ok (.astore_n 3, 1) := by decide +kernel
theorem dL_load_13 : decode cL_load 13 = .ok (.iconst 1, 1) := by decide +kernel
theorem dL_load_14 : decode cL_load 14 = .ok (.ireturn, 1) := by decide +kernel
theorem dL_load_15 : decode cL_load 15 = .ok (.astore_n 3, 1) := by decide +kernel
theorem dL_load_16 : decode cL_load 16 = .ok (.iconst 2, 1) := by decide +kernel
theorem dL_load_17 : decode cL_load 17 = .ok (.ireturn, 1) := by decide +kernel
theorem dL_load_18 : decode cL_load 18 = .ok (.astore_n 3, 1) := by decide +kernel
theorem dL_load_19 : decode cL_load 19 = .ok (.iconst 3, 1) := by decide +kernel
theorem dL_load_20 : decode cL_load 20 = .ok (.ireturn, 1) := by decide +kernel
theorem dL_load_21 : decode cL_load 21 = .ok (.iconst 0, 1) := by decide +kernel
theorem dL_load_22 : decode cL_load 22 = .ok (.ireturn, 1) := by decide +kernel
theorem dL_errorPosition_0 : decode cL_errorPosition 0 = .ok (.aload_n 1, 1) := by decide +kernel
theorem dL_errorPosition_1 : decode cL_errorPosition 1 = .ok (.iconst 0, 1) := by decide +kernel
theorem dL_errorPosition_2 : decode cL_errorPosition 2 = .ok (.aload_n 0, 1) := by decide +kernel
theorem dL_errorPosition_3 : decode cL_errorPosition 3 = .ok (.invokevirtual 100, 3) := by decide +kernel
theorem dL_errorPosition_6 : decode cL_errorPosition 6 = .ok (.i2l, 1) := by decide +kernel
theorem dL_errorPosition_7 : decode cL_errorPosition 7 = .ok (.lastore, 1) := by decide +kernel
theorem dL_errorPosition_8 : decode cL_errorPosition 8 = .ok (.goto 6, 3) := by decide +kernel
theorem dL_errorPosition_11 : decode cL_errorPosition 11 = .ok (.astore_n 2, 1) := by decide +kernel
theorem dL_errorPosition_12 : decode cL_errorPosition 12 = .ok (.iconst 1, 1) := by decide +kernel
theorem dL_errorPosition_13 : decode cL_errorPosition 13 = .ok (.ireturn, 1) := by decide +kernel
theorem dL_errorPosition_14 : decode cL_errorPosition 14 = .ok (.iconst 0, 1) := by decide +kernel
theorem dL_errorPosition_15 : decode cL_errorPosition 15 = .ok (.ireturn, 1) := by decide +kernel
theorem dL_refusal_0 : decode cL_refusal 0 = .ok (.aload_n 2, 1) := by decide +kernel
theorem dL_refusal_1 : decode cL_refusal 1 = .ok (.iconst 0, 1) := by decide +kernel
theorem dL_refusal_2 : decode cL_refusal 2 = .ok (.aload_n 0, 1) := by decide +kernel
theorem dL_refusal_3 : decode cL_refusal 3 = .ok (.iload_n 1, 1) := by decide +kernel
theorem dL_refusal_4 : decode cL_refusal 4 = .ok (.invokevirtual 103, 3) := by decide +kernel
theorem dL_refusal_7 : decode cL_refusal 7 = .ok (.i2l, 1) := by decide +kernel
theorem dL_refusal_8 : decode cL_refusal 8 = .ok (.lastore, 1) := by decide +kernel
theorem dL_refusal_9 : decode cL_refusal 9 = .ok (.goto 9, 3) := by decide +kernel
theorem dL_refusal_12 : decode cL_refusal 12 = .ok (.astore_n 3, 1) := by decide +kernel
theorem dL_refusal_13 : decode cL_refusal 13 = .ok (.iconst 1, 1) := by decide +kernel
theorem dL_refusal_14 : decode cL_refusal 14 = .ok (.ireturn, 1) := by decide +kernel
theorem dL_refusal_15 : decode cL_refusal 15 = .ok (.astore_n 3, 1) := by decide +kernel
theorem dL_refusal_16 : decode cL_refusal 16 = .ok (.iconst 2, 1) := by decide +kernel
theorem dL_refusal_17 : decode cL_refusal 17 = .ok (.ireturn, 1) := by decide +kernel
theorem dL_refusal_18 : decode cL_refusal 18 = .ok (.iconst 0, 1) := by decide +kernel
theorem dL_refusal_19 : decode cL_refusal 19 = .ok (.ireturn, 1) := by decide +kernel
theorem dL_undo_0 : decode cL_undo 0 = .ok (.aload_n 1, 1) := by decide +kernel
theorem dL_undo_1 : decode cL_undo 1 = .ok (.iconst 0, 1) := by decide +kernel
theorem dL_undo_2 : decode cL_undo 2 = .ok (.aload_n 0, 1) := by decide +kernel
theorem dL_undo_3 : decode cL_undo 3 = .ok (.invokevirtual 106, 3) := by decide +kernel
theorem dL_undo_6 : decode cL_undo 6 = .ok (.i2l, 1) := by decide +kernel
theorem dL_undo_7 : decode cL_undo 7 = .ok (.lastore, 1) := by decide +kernel
theorem dL_undo_8 : decode cL_undo 8 = .ok (.goto 6, 3) := by decide +kernel
theorem dL_undo_11 : decode cL_undo 11 = .ok (.astore_n 2, 1) := by decide +kernel
theorem dL_undo_12 : decode cL_undo 12 = .ok (.iconst 1, 1) := by decide +kernel
theorem dL_undo_13 : decode cL_undo 13 = .ok (.ireturn, 1) := by decide +kernel
theorem dL_undo_14 : decode cL_undo 14 = .ok (.iconst 0, 1) := by decide +kernel
theorem dL_undo_15 : decode cL_undo 15 = .ok (.ireturn, 1) := by decide +kernel
theorem dL_restore_0 : decode cL_restore 0 = .ok (.aload_n 1, 1) := by decide +kernel
theorem dL_restore_1 : decode cL_restore 1 = .ok (.iconst 0, 1) := by decide +kernel
theorem dL_restore_2 : decode cL_restore 2 = .ok (.aload_n 0, 1) := by decide +kernel
theorem dL_restore_3 : decode cL_restore 3 = .ok (.invokevirtual 109, 3) := by decide +kernel
theorem dL_restore_6 : decode cL_restore 6 = .ok (.i2l, 1) := by decide +kernel
theorem dL_restore_7 : decode cL_restore 7 = .ok (.lastore, 1) := by decide +kernel
theorem dL_restore_8 : decode cL_restore 8 = .ok (.goto 6, 3) := by decide +kernel
theorem dL_restore_11 : decode cL_restore 11 = .ok (.astore_n 2, 1) := by decide +kernel
theorem dL_restore_12 : decode cL_restore 12 = .ok (.iconst 1, 1) := by decide +kernel
theorem dL_restore_13 : decode cL_restore 13 = .ok (.ireturn, 1) := by decide +kernel
theorem dL_restore_14 : decode cL_restore 14 = .ok (.iconst 0, 1) := by decide +kernel
theorem dL_restore_15 : decode cL_restore 15 = .ok (.ireturn, 1) := by decide +kernel
