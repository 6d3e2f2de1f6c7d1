theorem dX9_detach_2 : decode cX9_detach 2 = .ok (.invokevirtual 137, 3) := by decide +kernel
theorem dX9_detach_5 : decode cX9_detach 5 = .ok (.aload_n 0, 1) := by decide +kernel
theorem dX9_detach_6 : decode cX9_detach 6 = .ok (.iload_n 2, 1) := by decide +kernel
theorem dX9_detach_7 : decode cX9_detach 7 = .ok (.aload_n 0, 1) := by decide +kernel
theorem dX9_detach_8 : decode cX9_detach 8 = .ok (.getfield 12, 3) := by decide +kernel
theorem dX9_detach_11 : decode cX9_detach 11 = .ok (.iload_n 1, 1) := by decide +kernel
theorem dX9_detach_12 : decode cX9_detach 12 = .ok (.invokevirtual 141, 3) := by decide +kernel
theorem dX9_detach_15 : decode cX9_detach 15 = .ok (.invokevirtual 189, 3) := by decide +kernel
theorem dX9_detach_18 : decode cX9_detach 18 = .ok (.aload_n 0, 1) := by decide +kernel
theorem dX9_detach_19 : decode cX9_detach 19 = .ok (.getfield 16, 3) := by decide +kernel
theorem dX9_detach_22 : decode cX9_detach 22 = .ok (.aload_n 0, 1) := by decide +kernel
theorem dX9_detach_23 : decode cX9_detach 23 = .ok (.getfield 12, 3) := by decide +kernel
theorem dX9_detach_26 : decode cX9_detach 26 = .ok (.invokevirtual 165, 3) := by decide +kernel
theorem dX9_detach_29 : decode cX9_detach 29 = .ok (.aload_n 0, 1) := by decide +kernel
theorem dX9_detach_30 : decode cX9_detach 30 = .ok (.getfield 16, 3) := by decide +kernel
theorem dX9_detach_33 : decode cX9_detach 33 = .ok (.iload_n 1, 1) := by decide +kernel
theorem dX9_detach_34 : decode cX9_detach 34 = .ok (.iload_n 2, 1) := by decide +kernel
theorem dX9_detach_35 : decode cX9_detach 35 = .ok (.invokevirtual 192, 3) := by decide +kernel
theorem dX9_detach_38 : decode cX9_detach 38 = .ok (.aload_n 0, 1) := by decide +kernel
theorem dX9_detach_39 : decode cX9_detach 39 = .ok (.getfield 29, 3) := by decide +kernel
theorem dX9_detach_42 : decode cX9_detach 42 = .ok (.aload_n 0, 1) := by decide +kernel
theorem dX9_detach_43 : decode cX9_detach 43 = .ok (.getfield 16, 3) := by decide +kernel
theorem dX9_detach_46 : decode cX9_detach 46 = .ok (.invokevirtual 195, 3) := by decide +kernel
theorem dX9_detach_49 : decode cX9_detach 49 = .ok (.aload_n 0, 1) := by decide +kernel
theorem dX9_detach_50 : decode cX9_detach 50 = .ok (.getfield 16, 3) := by decide +kernel
theorem dX9_detach_53 : decode cX9_detach 53 = .ok (.aload_n 0, 1) := by decide +kernel
theorem dX9_detach_54 : decode cX9_detach 54 = .ok (.getfield 29, 3) := by decide +kernel
theorem dX9_detach_57 : decode cX9_detach 57 = .ok (.iconst 0, 1) := by decide +kernel
theorem dX9_detach_58 : decode cX9_detach 58 = .ok (.invokevirtual 198, 3) := by decide +kernel
theorem dX9_detach_61 : decode cX9_detach 61 = .ok (.invokevirtual 202, 3) := by decide +kernel
theorem dX9_detach_64 : decode cX9_detach 64 = .ok (.istore_n 3, 1) := by decide +kernel
theorem dX9_detach_65 : decode cX9_detach 65 = .ok (.aload_n 0, 1) := by decide +kernel
theorem dX9_detach_66 : decode cX9_detach 66 = .ok (.invokevirtual 176, 3) := by decide +kernel
theorem dX9_detach_69 : decode cX9_detach 69 = .ok (.iload_n 3, 1) := by decide +kernel
theorem dX9_detach_70 : decode cX9_detach 70 = .ok (.ireturn, 1) := by decide +kernel
theorem dX9_moveBlock_0 : decode cX9_moveBlock 0 = .ok (.aload_n 0, 1) := by decide +kernel
theorem dX9_moveBlock_1 : decode cX9_moveBlock 1 = .ok (.iload_n 1, 1) := by decide +kernel
theorem dX9_moveBlock_2 : decode cX9_moveBlock 2 = .ok (.invokevirtual 137, 3) := by decide +kernel
theorem dX9_moveBlock_5 : decode cX9_moveBlock 5 = .ok (.aload_n 0, 1) := by decide +kernel
theorem dX9_moveBlock_6 : decode cX9_moveBlock 6 = .ok (.iload 4, 2) := by decide +kernel
theorem dX9_moveBlock_8 : decode cX9_moveBlock 8 = .ok (.invokevirtual 137, 3) := by decide +kernel
theorem dX9_moveBlock_11 : decode cX9_moveBlock 11 = .ok (.aload_n 0, 1) := by decide +kernel
theorem dX9_moveBlock_12 : decode cX9_moveBlock 12 = .ok (.iload_n 2, 1) := by decide +kernel
theorem dX9_moveBlock_13 : decode cX9_moveBlock 13 = .ok (.aload_n 0, 1) := by decide +kernel
theorem dX9_moveBlock_14 : decode cX9_moveBlock 14 = .ok (.getfield 12, 3) := by decide +kernel
theorem dX9_moveBlock_17 : decode cX9_moveBlock 17 = .ok (.iload_n 1, 1) := by decide +kernel
theorem dX9_moveBlock_18 : decode cX9_moveBlock 18 = .ok (.invokevirtual 141, 3) := by decide +kernel
theorem dX9_moveBlock_21 : decode cX9_moveBlock 21 = .ok (.invokevirtual 189, 3) := by decide +kernel
theorem dX9_moveBlock_24 : decode cX9_moveBlock 24 = .ok (.aload_n 0, 1) := by decide +kernel
theorem dX9_moveBlock_25 : decode cX9_moveBlock 25 = .ok (.iload_n 3, 1) := by decide +kernel
theorem dX9_moveBlock_26 : decode cX9_moveBlock 26 = .ok (.aload_n 0, 1) := by decide +kernel
theorem dX9_moveBlock_27 : decode cX9_moveBlock 27 = .ok (.getfield 12, 3) := by decide +kernel
theorem dX9_moveBlock_30 : decode cX9_moveBlock 30 = .ok (.iload_n 1, 1) := by decide +kernel
theorem dX9_moveBlock_31 : decode cX9_moveBlock 31 = .ok (.invokevirtual 141, 3) := by decide +kernel
theorem dX9_moveBlock_34 : decode cX9_moveBlock 34 = .ok (.invokevirtual 189, 3) := by decide +kernel
theorem dX9_moveBlock_37 : decode cX9_moveBlock 37 = .ok (.iload_n 3, 1) := by decide +kernel
theorem dX9_moveBlock_38 : decode cX9_moveBlock 38 = .ok (.iload_n 2, 1) := by decide +kernel
theorem dX9_moveBlock_39 : decode cX9_moveBlock 39 = .ok (.if_icmp .ge 13, 3) := by decide +kernel
theorem dX9_moveBlock_42 : decode cX9_moveBlock 42 = .ok (.new 206, 3) := by decide +kernel
theorem dX9_moveBlock_45 : decode cX9_moveBlock 45 = .ok (.dup, 1) := by decide +kernel
theorem dX9_moveBlock_46 : decode cX9_moveBlock 46 = .ok (.ldc 208, 2) := by decide +kernel
theorem dX9_moveBlock_48 : decode cX9_moveBlock 48 = .ok (.invokespecial 210, 3) := by decide +kernel
theorem dX9_moveBlock_51 : decode cX9_moveBlock 51 = .ok (.athrow, 1) := by decide +kernel
theorem dX9_moveBlock_52 : decode cX9_moveBlock 52 = .ok (.iload_n 3, 1) := by decide +kernel
theorem dX9_moveBlock_53 : decode cX9_moveBlock 53 = .ok (.iload_n 2, 1) := by decide +kernel
theorem dX9_moveBlock_54 : decode cX9_moveBlock 54 = .ok (.isub, 1) := by decide +kernel
theorem dX9_moveBlock_55 : decode cX9_moveBlock 55 = .ok (.iconst 1, 1) := by decide +kernel
theorem dX9_moveBlock_56 : decode cX9_moveBlock 56 = .ok (.iadd, 1) := by decide +kernel
theorem dX9_moveBlock_57 : decode cX9_moveBlock 57 = .ok (.istore 6, 2) := by decide +kernel
theorem dX9_moveBlock_59 : decode cX9_moveBlock 59 = .ok (.aload_n 0, 1) := by decide +kernel
theorem dX9_moveBlock_60 : decode cX9_moveBlock 60 = .ok (.iload 5, 2) := by decide +kernel
theorem dX9_moveBlock_62 : decode cX9_moveBlock 62 = .ok (.aload_n 0, 1) := by decide +kernel
theorem dX9_moveBlock_63 : decode cX9_moveBlock 63 = .ok (.getfield 12, 3) := by decide +kernel
theorem dX9_moveBlock_66 : decode cX9_moveBlock 66 = .ok (.iload 4, 2) := by decide +kernel
theorem dX9_moveBlock_68 : decode cX9_moveBlock 68 = .ok (.invokevirtual 141, 3) := by decide +kernel
theorem dX9_moveBlock_71 : decode cX9_moveBlock 71 = .ok (.iload 4, 2) := by decide +kernel
theorem dX9_moveBlock_73 : decode cX9_moveBlock 73 = .ok (.iload_n 1, 1) := by decide +kernel
theorem dX9_moveBlock_74 : decode cX9_moveBlock 74 = .ok (.if_icmp .ne 8, 3) := by decide +kernel
theorem dX9_moveBlock_77 : decode cX9_moveBlock 77 = .ok (.iload 6, 2) := by decide +kernel
theorem dX9_moveBlock_79 : decode cX9_moveBlock 79 = .ok (.goto 4, 3) := by decide +kernel
theorem dX9_moveBlock_82 : decode cX9_moveBlock 82 = .ok (.iconst 0, 1) := by decide +kernel
theorem dX9_moveBlock_83 : decode cX9_moveBlock 83 = .ok (.isub, 1) := by decide +kernel
theorem dX9_moveBlock_84 : decode cX9_moveBlock 84 = .ok (.invokevirtual 145, 3) := by decide +kernel
theorem dX9_moveBlock_87 : decode cX9_moveBlock 87 = .ok (.aload_n 0, 1) := by decide +kernel
theorem dX9_moveBlock_88 : decode cX9_moveBlock 88 = .ok (.getfield 16, 3) := by decide +kernel
theorem dX9_moveBlock_91 : decode cX9_moveBlock 91 = .ok (.aload_n 0, 1) := by decide +kernel
theorem dX9_moveBlock_92 : decode cX9_moveBlock 92 = .ok (.getfield 12, 3) := by decide +kernel
theorem dX9_moveBlock_95 : decode cX9_moveBlock 95 = .ok (.invokevirtual 165, 3) := by decide +kernel
theorem dX9_moveBlock_98 : decode cX9_moveBlock 98 = .ok (.aload_n 0, 1) := by decide +kernel
theorem dX9_moveBlock_99 : decode cX9_moveBlock 99 = .ok (.iload_n 1, 1) := by decide +kernel
theorem dX9_moveBlock_100 : decode cX9_moveBlock 100 = .ok (.iload_n 2, 1) := by decide +kernel
theorem dX9_moveBlock_101 : decode cX9_moveBlock 101 = .ok (.iload 6, 2) := by decide +kernel
theorem dX9_moveBlock_103 : decode cX9_moveBlock 103 = .ok (.invokevirtual 211, 3) := by decide +kernel
theorem dX9_moveBlock_106 : decode cX9_moveBlock 106 = .ok (.aload_n 0, 1) := by decide +kernel
theorem dX9_moveBlock_107 : decode cX9_moveBlock 107 = .ok (.bipush 30, 2) := by decide +kernel
theorem dX9_moveBlock_109 : decode cX9_moveBlock 109 = .ok (.iload 6, 2) := by decide +kernel
theorem dX9_moveBlock_111 : decode cX9_moveBlock 111 = .ok (.iload 4, 2) := by decide +kernel
theorem dX9_moveBlock_113 : decode cX9_moveBlock 113 = .ok (.iload 5, 2) := by decide +kernel
theorem dX9_moveBlock_115 : decode cX9_moveBlock 115 = .ok (.invokevirtual 214, 3) := by decide +kernel
theorem dX9_moveBlock_118 : decode cX9_moveBlock 118 = .ok (.ifCond .ne 13, 3) := by decide +kernel
theorem dX9_moveBlock_121 : decode cX9_moveBlock 121 = .ok (.new 160, 3) := by decide +kernel
theorem dX9_moveBlock_124 : decode cX9_moveBlock 124 = .ok (.dup, 1) := by decide +kernel
theorem dX9_moveBlock_125 : decode cX9_moveBlock 125 = .ok (.ldc 162, 2) := by decide +kernel
theorem dX9_moveBlock_127 : decode cX9_moveBlock 127 = .ok (.invokespecial 164, 3) := by decide +kernel
theorem dX9_moveBlock_130 : decode cX9_moveBlock 130 = .ok (.athrow, 1) := by decide +kernel
theorem dX9_moveBlock_131 : decode cX9_moveBlock 131 = .ok (.aload_n 0, 1) := by decide +kernel
theorem dX9_moveBlock_132 : decode cX9_moveBlock 132 = .ok (.invokevirtual 176, 3) := by decide +kernel
theorem dX9_moveBlock_135 : decode cX9_moveBlock 135 = .ok (.iload 6, 2) := by decide +kernel
theorem dX9_moveBlock_137 : decode cX9_moveBlock 137 = .ok (.ireturn, 1) := by decide +kernel
theorem dX9_indent_0 : decode cX9_indent 0 = .ok (.aload_n 0, 1) := by decide +kernel
theorem dX9_indent_1 : decode cX9_indent 1 = .ok (.iload_n 1, 1) := by decide +kernel
theorem dX9_indent_2 : decode cX9_indent 2 = .ok (.aload_n 0, 1) := by decide +kernel
theorem dX9_indent_3 : decode cX9_indent 3 = .ok (.invokevirtual 218, 3) := by decide +kernel
theorem dX9_indent_6 : decode cX9_indent 6 = .ok (.invokevirtual 221, 3) := by decide +kernel
theorem dX9_indent_9 : decode cX9_indent 9 = .ok (.aload_n 0, 1) := by decide +kernel
theorem dX9_indent_10 : decode cX9_indent 10 = .ok (.getfield 59, 3) := by decide +kernel
theorem dX9_indent_13 : decode cX9_indent 13 = .ok (.iload_n 1, 1) := by decide +kernel
theorem dX9_indent_14 : decode cX9_indent 14 = .ok (.invokevirtual 224, 3) := by decide +kernel
theorem dX9_indent_17 : decode cX9_indent 17 = .ok (.istore_n 2, 1) := by decide +kernel
theorem dX9_indent_18 : decode cX9_indent 18 = .ok (.aload_n 0, 1) := by decide +kernel
theorem dX9_indent_19 : decode cX9_indent 19 = .ok (.getfield 59, 3) := by decide +kernel
theorem dX9_indent_22 : decode cX9_indent 22 = .ok (.iload_n 1, 1) := by decide +kernel
theorem dX9_indent_23 : decode cX9_indent 23 = .ok (.invokevirtual 227, 3) := by decide +kernel
theorem dX9_indent_26 : decode cX9_indent 26 = .ok (.istore_n 3, 1) := by decide +kernel
theorem dX9_indent_27 : decode cX9_indent 27 = .ok (.iload_n 3, 1) := by decide +kernel
theorem dX9_indent_28 : decode cX9_indent 28 = .ok (.ifCond .ne 13, 3) := by decide +kernel
theorem dX9_indent_31 : decode cX9_indent 31 = .ok (.new 125, 3) := by decide +kernel
theorem dX9_indent_34 : decode cX9_indent 34 = .ok (.dup, 1) := by decide +kernel
theorem dX9_indent_35 : decode cX9_indent 35 = .ok (.ldc 230, 2) := by decide +kernel
theorem dX9_indent_37 : decode cX9_indent 37 = .ok (.invokespecial 129, 3) := by decide +kernel
theorem dX9_indent_40 : decode cX9_indent 40 = .ok (.athrow, 1) := by decide +kernel
theorem dX9_indent_41 : decode cX9_indent 41 = .ok (.aload_n 0, 1) := by decide +kernel
theorem dX9_indent_42 : decode cX9_indent 42 = .ok (.getfield 12, 3) := by decide +kernel
theorem dX9_indent_45 : decode cX9_indent 45 = .ok (.iload_n 2, 1) := by decide +kernel
theorem dX9_indent_46 : decode cX9_indent 46 = .ok (.iload_n 3, 1) := by decide +kernel
theorem dX9_indent_47 : decode cX9_indent 47 = .ok (.iconst 1, 1) := by decide +kernel
theorem dX9_indent_48 : decode cX9_indent 48 = .ok (.isub, 1) := by decide +kernel
theorem dX9_indent_49 : decode cX9_indent 49 = .ok (.invokevirtual 232, 3) := by decide +kernel
theorem dX9_indent_52 : decode cX9_indent 52 = .ok (.istore 4, 2) := by decide +kernel
theorem dX9_indent_54 : decode cX9_indent 54 = .ok (.aload_n 0, 1) := by decide +kernel
theorem dX9_indent_55 : decode cX9_indent 55 = .ok (.getfield 16, 3) := by decide +kernel
theorem dX9_indent_58 : decode cX9_indent 58 = .ok (.aload_n 0, 1) := by decide +kernel
theorem dX9_indent_59 : decode cX9_indent 59 = .ok (.getfield 12, 3) := by decide +kernel
theorem dX9_indent_62 : decode cX9_indent 62 = .ok (.invokevirtual 165, 3) := by decide +kernel
theorem dX9_indent_65 : decode cX9_indent 65 = .ok (.aload_n 0, 1) := by decide +kernel
theorem dX9_indent_66 : decode cX9_indent 66 = .ok (.iload_n 2, 1) := by decide +kernel
theorem dX9_indent_67 : decode cX9_indent 67 = .ok (.iload_n 3, 1) := by decide +kernel
theorem dX9_indent_68 : decode cX9_indent 68 = .ok (.iconst 1, 1) := by decide +kernel
theorem dX9_indent_69 : decode cX9_indent 69 = .ok (.invokevirtual 211, 3) := by decide +kernel
theorem dX9_indent_72 : decode cX9_indent 72 = .ok (.aload_n 0, 1) := by decide +kernel
theorem dX9_indent_73 : decode cX9_indent 73 = .ok (.bipush 40, 2) := by decide +kernel
theorem dX9_indent_75 : decode cX9_indent 75 = .ok (.iconst 1, 1) := by decide +kernel
theorem dX9_indent_76 : decode cX9_indent 76 = .ok (.iload 4, 2) := by decide +kernel
theorem dX9_indent_78 : decode cX9_indent 78 = .ok (.aload_n 0, 1) := by decide +kernel
theorem dX9_indent_79 : decode cX9_indent 79 = .ok (.getfield 16, 3) := by decide +kernel
theorem dX9_indent_82 : decode cX9_indent 82 = .ok (.iload 4, 2) := by decide +kernel
theorem dX9_indent_84 : decode cX9_indent 84 = .ok (.invokevirtual 141, 3) := by decide +kernel
theorem dX9_indent_87 : decode cX9_indent 87 = .ok (.invokevirtual 214, 3) := by decide +kernel
theorem dX9_indent_90 : decode cX9_indent 90 = .ok (.ifCond .ne 13, 3) := by decide +kernel
theorem dX9_indent_93 : decode cX9_indent 93 = .ok (.new 160, 3) := by decide +kernel
theorem dX9_indent_96 : decode cX9_indent 96 = .ok (.dup, 1) := by decide +kernel
theorem dX9_indent_97 : decode cX9_indent 97 = .ok (.ldc 162, 2) := by decide +kernel
theorem dX9_indent_99 : decode cX9_indent 99 = .ok (.invokespecial 164, 3) := by decide +kernel
theorem dX9_indent_102 : decode cX9_indent 102 = .ok (.athrow, 1) := by decide +kernel
theorem dX9_indent_103 : decode cX9_indent 103 = .ok (.aload_n 0, 1) := by decide +kernel
theorem dX9_indent_104 : decode cX9_indent 104 = .ok (.invokevirtual 176, 3) := by decide +kernel
theorem dX9_indent_107 : decode cX9_indent 107 = .ok (.iload 4, 2) := by decide +kernel
theorem dX9_indent_109 : decode cX9_indent 109 = .ok (.ireturn, 1) := by decide +kernel
theorem dX9_outdent_0 : decode cX9_outdent 0 = .ok (.aload_n 0, 1) := by decide +kernel
theorem dX9_outdent_1 : decode cX9_outdent 1 = .ok (.iload_n 1, 1) := by decide +kernel
theorem dX9_outdent_2 : decode cX9_outdent 2 = .ok (.aload_n 0, 1) := by decide +kernel
theorem dX9_outdent_3 : decode cX9_outdent 3 = .ok (.invokevirtual 218, 3) := by decide +kernel
theorem dX9_outdent_6 : decode cX9_outdent 6 = .ok (.invokevirtual 221, 3) := by decide +kernel
theorem dX9_outdent_9 : decode cX9_outdent 9 = .ok (.aload_n 0, 1) := by decide +kernel
theorem dX9_outdent_10 : decode cX9_outdent 10 = .ok (.getfield 59, 3) := by decide +kernel
theorem dX9_outdent_13 : decode cX9_outdent 13 = .ok (.iload_n 1, 1) := by decide +kernel
theorem dX9_outdent_14 : decode cX9_outdent 14 = .ok (.invokevirtual 236, 3) := by decide +kernel
theorem dX9_outdent_17 : decode cX9_outdent 17 = .ok (.ifCond .ne 13, 3) := by decide +kernel
theorem dX9_outdent_20 : decode cX9_outdent 20 = .ok (.new 125, 3) := by decide +kernel
theorem dX9_outdent_23 : decode cX9_outdent 23 = .ok (.dup, 1) := by decide +kernel
theorem dX9_outdent_24 : decode cX9_outdent 24 = .ok (.ldc 239, 2) := by decide +kernel
theorem dX9_outdent_26 : decode cX9_outdent 26 = .ok (.invokespecial 129, 3) := by decide +kernel
theorem dX9_outdent_29 : decode cX9_outdent 29 = .ok (.athrow, 1) := by decide +kernel
theorem dX9_outdent_30 : decode cX9_outdent 30 = .ok (.aload_n 0, 1) := by decide +kernel
theorem dX9_outdent_31 : decode cX9_outdent 31 = .ok (.getfield 59, 3) := by decide +kernel
theorem dX9_outdent_34 : decode cX9_outdent 34 = .ok (.iload_n 1, 1) := by decide +kernel
theorem dX9_outdent_35 : decode cX9_outdent 35 = .ok (.invokevirtual 241, 3) := by decide +kernel
theorem dX9_outdent_38 : decode cX9_outdent 38 = .ok (.istore_n 2, 1) := by decide +kernel
theorem dX9_outdent_39 : decode cX9_outdent 39 = .ok (.aload_n 0, 1) := by decide +kernel
theorem dX9_outdent_40 : decode cX9_outdent 40 = .ok (.getfield 59, 3) := by decide +kernel
theorem dX9_outdent_43 : decode cX9_outdent 43 = .ok (.iload_n 2, 1) := by decide +kernel
theorem dX9_outdent_44 : decode cX9_outdent 44 = .ok (.invokevirtual 224, 3) := by decide +kernel
theorem dX9_outdent_47 : decode cX9_outdent 47 = .ok (.istore_n 3, 1) := by decide +kernel
theorem dX9_outdent_48 : decode cX9_outdent 48 = .ok (.aload_n 0, 1) := by decide +kernel
theorem dX9_outdent_49 : decode cX9_outdent 49 = .ok (.getfield 16, 3) := by decide +kernel
theorem dX9_outdent_52 : decode cX9_outdent 52 = .ok (.aload_n 0, 1) := by decide +kernel
theorem dX9_outdent_53 : decode cX9_outdent 53 = .ok (.getfield 12, 3) := by decide +kernel
theorem dX9_outdent_56 : decode cX9_outdent 56 = .ok (.invokevirtual 165, 3) := by decide +kernel
theorem dX9_outdent_59 : decode cX9_outdent 59 = .ok (.aload_n 0, 1) := by decide +kernel
theorem dX9_outdent_60 : decode cX9_outdent 60 = .ok (.aload_n 0, 1) := by decide +kernel
theorem dX9_outdent_61 : decode cX9_outdent 61 = .ok (.getfield 59, 3) := by decide +kernel
theorem dX9_outdent_64 : decode cX9_outdent 64 = .ok (.iload_n 2, 1) := by decide +kernel
theorem dX9_outdent_65 : decode cX9_outdent 65 = .ok (.invokevirtual 244, 3) := by decide +kernel
theorem dX9_outdent_68 : decode cX9_outdent 68 = .ok (.aload_n 0, 1) := by decide +kernel
theorem dX9_outdent_69 : decode cX9_outdent 69 = .ok (.getfield 59, 3) := by decide +kernel
theorem dX9_outdent_72 : decode cX9_outdent 72 = .ok (.iload_n 1, 1) := by decide +kernel
theorem dX9_outdent_73 : decode cX9_outdent 73 = .ok (.invokevirtual 227, 3) := by decide +kernel
theorem dX9_outdent_76 : decode cX9_outdent 76 = .ok (.iconst 1, 1) := by decide +kernel
theorem dX9_outdent_77 : decode cX9_outdent 77 = .ok (.invokevirtual 211, 3) := by decide +kernel
theorem dX9_outdent_80 : decode cX9_outdent 80 = .ok (.aload_n 0, 1) := by decide +kernel
theorem dX9_outdent_81 : decode cX9_outdent 81 = .ok (.bipush 50, 2) := by decide +kernel
theorem dX9_outdent_83 : decode cX9_outdent 83 = .ok (.iconst 1, 1) := by decide +kernel
theorem dX9_outdent_84 : decode cX9_outdent 84 = .ok (.iload_n 3, 1) := by decide +kernel
theorem dX9_outdent_85 : decode cX9_outdent 85 = .ok (.aload_n 0, 1) := by decide +kernel
theorem dX9_outdent_86 : decode cX9_outdent 86 = .ok (.getfield 59, 3) := by decide +kernel
theorem dX9_outdent_89 : decode cX9_outdent 89 = .ok (.iload_n 2, 1) := by decide +kernel
theorem dX9_outdent_90 : decode cX9_outdent 90 = .ok (.invokevirtual 227, 3) := by decide +kernel
theorem dX9_outdent_93 : decode cX9_outdent 93 = .ok (.iconst 1, 1) := by decide +kernel
theorem dX9_outdent_94 : decode cX9_outdent 94 = .ok (.iadd, 1) := by decide +kernel
theorem dX9_outdent_95 : decode cX9_outdent 95 = .ok (.invokevirtual 214, 3) := by decide +kernel
theorem dX9_outdent_98 : decode cX9_outdent 98 = .ok (.ifCond .ne 13, 3) := by decide +kernel
theorem dX9_outdent_101 : decode cX9_outdent 101 = .ok (.new 160, 3) := by decide +kernel
theorem dX9_outdent_104 : decode cX9_outdent 104 = .ok (.dup, 1) := by decide +kernel
theorem dX9_outdent_105 : decode cX9_outdent 105 = .ok (.ldc 162, 2) := by decide +kernel
theorem dX9_outdent_107 : decode cX9_outdent 107 = .ok (.invokespecial 164, 3) := by decide +kernel
theorem dX9_outdent_110 : decode cX9_outdent 110 = .ok (.athrow, 1) := by decide +kernel
theorem dX9_outdent_111 : decode cX9_outdent 111 = .ok (.aload_n 0, 1) := by decide +kernel
theorem dX9_outdent_112 : decode cX9_outdent 112 = .ok (.invokevirtual 176, 3) := by decide +kernel
theorem dX9_outdent_115 : decode cX9_outdent 115 = .ok (.iload_n 3, 1) := by decide +kernel
theorem dX9_outdent_116 : decode cX9_outdent 116 = .ok (.ireturn, 1) := by decide +kernel
theorem dX9_rename_0 : decode cX9_rename 0 = .ok (.aload_n 0, 1) := by decide +kernel
theorem dX9_rename_1 : decode cX9_rename 1 = .ok (.iload_n 1, 1) := by decide +kernel
theorem dX9_rename_2 : decode cX9_rename 2 = .ok (.invokevirtual 179, 3) := by decide +kernel
theorem dX9_rename_5 : decode cX9_rename 5 = .ok (.aload_n 0, 1) := by decide +kernel
theorem dX9_rename_6 : decode cX9_rename 6 = .ok (.invokevirtual 149, 3) := by decide +kernel
theorem dX9_rename_9 : decode cX9_rename 9 = .ok (.istore_n 2, 1) := by decide +kernel
theorem dX9_rename_10 : decode cX9_rename 10 = .ok (.aload_n 0, 1) := by decide +kernel
theorem dX9_rename_11 : decode cX9_rename 11 = .ok (.getfield 12, 3) := by decide +kernel
theorem dX9_rename_14 : decode cX9_rename 14 = .ok (.iload_n 1, 1) := by decide +kernel
theorem dX9_rename_15 : decode cX9_rename 15 = .ok (.invokevirtual 247, 3) := by decide +kernel
theorem dX9_rename_18 : decode cX9_rename 18 = .ok (.istore_n 3, 1) := by decide +kernel
theorem dX9_rename_19 : decode cX9_rename 19 = .ok (.aload_n 0, 1) := by decide +kernel
theorem dX9_rename_20 : decode cX9_rename 20 = .ok (.getfield 16, 3) := by decide +kernel
theorem dX9_rename_23 : decode cX9_rename 23 = .ok (.aload_n 0, 1) := by decide +kernel
theorem dX9_rename_24 : decode cX9_rename 24 = .ok (.getfield 12, 3) := by decide +kernel
theorem dX9_rename_27 : decode cX9_rename 27 = .ok (.invokevirtual 165, 3) := by decide +kernel
theorem dX9_rename_30 : decode cX9_rename 30 = .ok (.aload_n 0, 1) := by decide +kernel
theorem dX9_rename_31 : decode cX9_rename 31 = .ok (.getfield 16, 3) := by decide +kernel
theorem dX9_rename_34 : decode cX9_rename 34 = .ok (.iload_n 1, 1) := by decide +kernel
theorem dX9_rename_35 : decode cX9_rename 35 = .ok (.aload_n 0, 1) := by decide +kernel
theorem dX9_rename_36 : decode cX9_rename 36 = .ok (.getfield 84, 3) := by decide +kernel
theorem dX9_rename_39 : decode cX9_rename 39 = .ok (.iconst 0, 1) := by decide +kernel
theorem dX9_rename_40 : decode cX9_rename 40 = .ok (.iload_n 2, 1) := by decide +kernel
theorem dX9_rename_41 : decode cX9_rename 41 = .ok (.invokevirtual 250, 3) := by decide +kernel
theorem dX9_rename_44 : decode cX9_rename 44 = .ok (.aload_n 0, 1) := by decide +kernel
theorem dX9_rename_45 : decode cX9_rename 45 = .ok (.invokevirtual 176, 3) := by decide +kernel
theorem dX9_rename_48 : decode cX9_rename 48 = .ok (.iload_n 3, 1) := by decide +kernel
theorem dX9_rename_49 : decode cX9_rename 49 = .ok (.ireturn, 1) := by decide +kernel
theorem dX9_setNumber_0 : decode cX9_setNumber 0 = .ok (.aload_n 0, 1) := by decide +kernel
theorem dX9_setNumber_1 : decode cX9_setNumber 1 = .ok (.iload_n 1, 1) := by decide +kernel
theorem dX9_setNumber_2 : decode cX9_setNumber 2 = .ok (.invokevirtual 137, 3) := by decide +kernel
theorem dX9_setNumber_5 : decode cX9_setNumber 5 = .ok (.iload_n 2, 1) := by decide +kernel
theorem dX9_setNumber_6 : decode cX9_setNumber 6 = .ok (.ifCond .eq 7, 3) := by decide +kernel
theorem dX9_setNumber_9 : decode cX9_setNumber 9 = .ok (.iconst (-1), 1) := by decide +kernel
theorem dX9_setNumber_10 : decode cX9_setNumber 10 = .ok (.goto 6, 3) := by decide +kernel
theorem dX9_setNumber_13 : decode cX9_setNumber 13 = .ok (.sipush (-999), 3) := by decide +kernel
theorem dX9_setNumber_16 : decode cX9_setNumber 16 = .ok (.istore 4, 2) := by decide +kernel
theorem dX9_setNumber_18 : decode cX9_setNumber 18 = .ok (.iload_n 2, 1) := by decide +kernel
theorem dX9_setNumber_19 : decode cX9_setNumber 19 = .ok (.ifCond .eq 9, 3) := by decide +kernel
theorem dX9_setNumber_22 : decode cX9_setNumber 22 = .ok (.sipush 9999, 3) := by decide +kernel
theorem dX9_setNumber_25 : decode cX9_setNumber 25 = .ok (.goto 6, 3) := by decide +kernel
theorem dX9_setNumber_28 : decode cX9_setNumber 28 = .ok (.sipush 999, 3) := by decide +kernel
theorem dX9_setNumber_31 : decode cX9_setNumber 31 = .ok (.istore 5, 2) := by decide +kernel
theorem dX9_setNumber_33 : decode cX9_setNumber 33 = .ok (.iload_n 3, 1) := by decide +kernel
theorem dX9_setNumber_34 : decode cX9_setNumber 34 = .ok (.iload 4, 2) := by decide +kernel
theorem dX9_setNumber_36 : decode cX9_setNumber 36 = .ok (.if_icmp .lt 9, 3) := by decide +kernel
theorem dX9_setNumber_39 : decode cX9_setNumber 39 = .ok (.iload_n 3, 1) := by decide +kernel
theorem dX9_setNumber_40 : decode cX9_setNumber 40 = .ok (.iload 5, 2) := by decide +kernel
theorem dX9_setNumber_42 : decode cX9_setNumber 42 = .ok (.if_icmp .le 13, 3) := by decide +kernel
theorem dX9_setNumber_45 : decode cX9_setNumber 45 = .ok (.new 114, 3) := by decide +kernel
theorem dX9_setNumber_48 : decode cX9_setNumber 48 = .ok (.dup, 1) := by decide +kernel
theorem dX9_setNumber_49 : decode cX9_setNumber 49 = .ok (.ldc 254, 2) := by decide +kernel
theorem dX9_setNumber_51 : decode cX9_setNumber 51 = .ok (.invokespecial 118, 3) := by decide +kernel
theorem dX9_setNumber_54 : decode cX9_setNumber 54 = .ok (.athrow, 1) := by decide +kernel
theorem dX9_setNumber_55 : decode cX9_setNumber 55 = .ok (.iload_n 2, 1) := by decide +kernel
theorem dX9_setNumber_56 : decode cX9_setNumber 56 = .ok (.ifCond .eq 14, 3) := by decide +kernel
theorem dX9_setNumber_59 : decode cX9_setNumber 59 = .ok (.aload_n 0, 1) := by decide +kernel
theorem dX9_setNumber_60 : decode cX9_setNumber 60 = .ok (.getfield 12, 3) := by decide +kernel
theorem dX9_setNumber_63 : decode cX9_setNumber 63 = .ok (.iload_n 1, 1) := by decide +kernel
theorem dX9_setNumber_64 : decode cX9_setNumber 64 = .ok (.invokevirtual 256, 3) := by decide +kernel
theorem dX9_setNumber_67 : decode cX9_setNumber 67 = .ok (.goto 11, 3) := by decide +kernel
theorem dX9_setNumber_70 : decode cX9_setNumber 70 = .ok (.aload_n 0, 1) := by decide +kernel
theorem dX9_setNumber_71 : decode cX9_setNumber 71 = .ok (.getfield 12, 3) := by decide +kernel
theorem dX9_setNumber_74 : decode cX9_setNumber 74 = .ok (.iload_n 1, 1) := by decide +kernel
theorem dX9_setNumber_75 : decode cX9_setNumber 75 = .ok (.invokevirtual 259, 3) := by decide +kernel
theorem dX9_setNumber_78 : decode cX9_setNumber 78 = .ok (.istore 6, 2) := by decide +kernel
theorem dX9_setNumber_80 : decode cX9_setNumber 80 = .ok (.aload_n 0, 1) := by decide +kernel
theorem dX9_setNumber_81 : decode cX9_setNumber 81 = .ok (.getfield 16, 3) := by decide +kernel
theorem dX9_setNumber_84 : decode cX9_setNumber 84 = .ok (.aload_n 0, 1) := by decide +kernel
theorem dX9_setNumber_85 : decode cX9_setNumber 85 = .ok (.getfield 12, 3) := by decide +kernel
theorem dX9_setNumber_88 : decode cX9_setNumber 88 = .ok (.invokevirtual 165, 3) := by decide +kernel
theorem dX9_setNumber_91 : decode cX9_setNumber 91 = .ok (.iload_n 2, 1) := by decide +kernel
theorem dX9_setNumber_92 : decode cX9_setNumber 92 = .ok (.ifCond .eq 15, 3) := by decide +kernel
theorem dX9_setNumber_95 : decode cX9_setNumber 95 = .ok (.aload_n 0, 1) := by decide +kernel
theorem dX9_setNumber_96 : decode cX9_setNumber 96 = .ok (.getfield 16, 3) := by decide +kernel
theorem dX9_setNumber_99 : decode cX9_setNumber 99 = .ok (.iload_n 1, 1) := by decide +kernel
theorem dX9_setNumber_100 : decode cX9_setNumber 100 = .ok (.iload_n 3, 1) := by decide +kernel
theorem dX9_setNumber_101 : decode cX9_setNumber 101 = .ok (.invokevirtual 262, 3) := by decide +kernel
theorem dX9_setNumber_104 : decode cX9_setNumber 104 = .ok (.goto 12, 3) := by decide +kernel
theorem dX9_setNumber_107 : decode cX9_setNumber 107 = .ok (.aload_n 0, 1) := by decide +kernel
theorem dX9_setNumber_108 : decode cX9_setNumber 108 = .ok (.getfield 16, 3) := by decide +kernel
theorem dX9_setNumber_111 : decode cX9_setNumber 111 = .ok (.iload_n 1, 1) := by decide +kernel
theorem dX9_setNumber_112 : decode cX9_setNumber 112 = .ok (.iload_n 3, 1) := by decide +kernel
theorem dX9_setNumber_113 : decode cX9_setNumber 113 = .ok (.invokevirtual 265, 3) := by decide +kernel
theorem dX9_setNumber_116 : decode cX9_setNumber 116 = .ok (.aload_n 0, 1) := by decide +kernel
theorem dX9_setNumber_117 : decode cX9_setNumber 117 = .ok (.invokevirtual 176, 3) := by decide +kernel
theorem dX9_setNumber_120 : decode cX9_setNumber 120 = .ok (.iload 6, 2) := by decide +kernel
theorem dX9_setNumber_122 : decode cX9_setNumber 122 = .ok (.ireturn, 1) := by decide +kernel
theorem dX9_setFlag_0 : decode cX9_setFlag 0 = .ok (.aload_n 0, 1) := by decide +kernel
theorem dX9_setFlag_1 : decode cX9_setFlag 1 = .ok (.iload_n 1, 1) := by decide +kernel
theorem dX9_setFlag_2 : decode cX9_setFlag 2 = .ok (.invokevirtual 137, 3) := by decide +kernel
theorem dX9_setFlag_5 : decode cX9_setFlag 5 = .ok (.iload_n 2, 1) := by decide +kernel
theorem dX9_setFlag_6 : decode cX9_setFlag 6 = .ok (.ifCond .eq 13, 3) := by decide +kernel
theorem dX9_setFlag_9 : decode cX9_setFlag 9 = .ok (.aload_n 0, 1) := by decide +kernel
theorem dX9_setFlag_10 : decode cX9_setFlag 10 = .ok (.getfield 12, 3) := by decide +kernel
theorem dX9_setFlag_13 : decode cX9_setFlag 13 = .ok (.invokevirtual 268, 3) := by decide +kernel
theorem dX9_setFlag_16 : decode cX9_setFlag 16 = .ok (.goto 10, 3) := by decide +kernel
theorem dX9_setFlag_19 : decode cX9_setFlag 19 = .ok (.aload_n 0, 1) := by decide +kernel
theorem dX9_setFlag_20 : decode cX9_setFlag 20 = .ok (.getfield 12, 3) := by decide +kernel
theorem dX9_setFlag_23 : decode cX9_setFlag 23 = .ok (.invokevirtual 272, 3) := by decide +kernel
theorem dX9_setFlag_26 : decode cX9_setFlag 26 = .ok (.iload_n 1, 1) := by decide +kernel
theorem dX9_setFlag_27 : decode cX9_setFlag 27 = .ok (.invokestatic 275, 3) := by decide +kernel
theorem dX9_setFlag_30 : decode cX9_setFlag 30 = .ok (.istore 4, 2) := by decide +kernel
theorem dX9_setFlag_32 : decode cX9_setFlag 32 = .ok (.aload_n 0, 1) := by decide +kernel
theorem dX9_setFlag_33 : decode cX9_setFlag 33 = .ok (.getfield 16, 3) := by decide +kernel
theorem dX9_setFlag_36 : decode cX9_setFlag 36 = .ok (.aload_n 0, 1) := by decide +kernel
theorem dX9_setFlag_37 : decode cX9_setFlag 37 = .ok (.getfield 12, 3) := by decide +kernel
theorem dX9_setFlag_40 : decode cX9_setFlag 40 = .ok (.invokevirtual 165, 3) := by decide +kernel
theorem dX9_setFlag_43 : decode cX9_setFlag 43 = .ok (.iload_n 2, 1) := by decide +kernel
theorem dX9_setFlag_44 : decode cX9_setFlag 44 = .ok (.ifCond .eq 15, 3) := by decide +kernel
theorem dX9_setFlag_47 : decode cX9_setFlag 47 = .ok (.aload_n 0, 1) := by decide +kernel
theorem dX9_setFlag_48 : decode cX9_setFlag 48 = .ok (.getfield 16, 3) := by decide +kernel
theorem dX9_setFlag_51 : decode cX9_setFlag 51 = .ok (.iload_n 1, 1) := by decide +kernel
theorem dX9_setFlag_52 : decode cX9_setFlag 52 = .ok (.iload_n 3, 1) := by decide +kernel
theorem dX9_setFlag_53 : decode cX9_setFlag 53 = .ok (.invokevirtual 279, 3) := by decide +kernel
theorem dX9_setFlag_56 : decode cX9_setFlag 56 = .ok (.goto 12, 3) := by decide +kernel
theorem dX9_setFlag_59 : decode cX9_setFlag 59 = .ok (.aload_n 0, 1) := by decide +kernel
theorem dX9_setFlag_60 : decode cX9_setFlag 60 = .ok (.getfield 16, 3) := by decide +kernel
theorem dX9_setFlag_63 : decode cX9_setFlag 63 = .ok (.iload_n 1, 1) := by decide +kernel
theorem dX9_setFlag_64 : decode cX9_setFlag 64 = .ok (.iload_n 3, 1) := by decide +kernel
theorem dX9_setFlag_65 : decode cX9_setFlag 65 = .ok (.invokevirtual 283, 3) := by decide +kernel
theorem dX9_setFlag_68 : decode cX9_setFlag 68 = .ok (.aload_n 0, 1) := by decide +kernel
theorem dX9_setFlag_69 : decode cX9_setFlag 69 = .ok (.invokevirtual 176, 3) := by decide +kernel
theorem dX9_setFlag_72 : decode cX9_setFlag 72 = .ok (.iload 4, 2) := by decide +kernel
theorem dX9_setFlag_74 : decode cX9_setFlag 74 = .ok (.ireturn, 1) := by decide +kernel
theorem dX9_item_0 : decode cX9_item 0 = .ok (.aload_n 0, 1) := by decide +kernel
theorem dX9_item_1 : decode cX9_item 1 = .ok (.iload_n 1, 1) := by decide +kernel
theorem dX9_item_2 : decode cX9_item 2 = .ok (.invokevirtual 137, 3) := by decide +kernel
theorem dX9_item_5 : decode cX9_item 5 = .ok (.iload_n 2, 1) := by decide +kernel
theorem dX9_item_6 : decode cX9_item 6 = .ok (.tableswitch 249 0 14 #[74, 83, 92, 101, 110, 119, 128, 148, 168, 180, 196, 212, 228, 234, 240], 74) := by decide +kernel
theorem dX9_item_80 : decode cX9_item 80 = .ok (.aload_n 0, 1) := by decide +kernel
theorem dX9_item_81 : decode cX9_item 81 = .ok (.getfield 25, 3) := by decide +kernel
theorem dX9_item_84 : decode cX9_item 84 = .ok (.iload_n 1, 1) := by decide +kernel
theorem dX9_item_85 : decode cX9_item 85 = .ok (.invokevirtual 286, 3) := by decide +kernel
theorem dX9_item_88 : decode cX9_item 88 = .ok (.ireturn, 1) := by decide +kernel
theorem dX9_item_89 : decode cX9_item 89 = .ok (.aload_n 0, 1) := by decide +kernel
theorem dX9_item_90 : decode cX9_item 90 = .ok (.getfield 12, 3) := by decide +kernel
theorem dX9_item_93 : decode cX9_item 93 = .ok (.iload_n 1, 1) := by decide +kernel
theorem dX9_item_94 : decode cX9_item 94 = .ok (.invokevirtual 141, 3) := by decide +kernel
theorem dX9_item_97 : decode cX9_item 97 = .ok (.ireturn, 1) := by decide +kernel
theorem dX9_item_98 : decode cX9_item 98 = .ok (.aload_n 0, 1) := by decide +kernel
theorem dX9_item_99 : decode cX9_item 99 = .ok (.getfield 25, 3) := by decide +kernel
theorem dX9_item_102 : decode cX9_item 102 = .ok (.iload_n 1, 1) := by decide +kernel
theorem dX9_item_103 : decode cX9_item 103 = .ok (.invokevirtual 186, 3) := by decide +kernel
theorem dX9_item_106 : decode cX9_item 106 = .ok (.ireturn, 1) := by decide +kernel
theorem dX9_item_107 : decode cX9_item 107 = .ok (.aload_n 0, 1) := by decide +kernel
theorem dX9_item_108 : decode cX9_item 108 = .ok (.getfield 12, 3) := by decide +kernel
theorem dX9_item_111 : decode cX9_item 111 = .ok (.iload_n 1, 1) := by decide +kernel
theorem dX9_item_112 : decode cX9_item 112 = .ok (.invokevirtual 247, 3) := by decide +kernel
theorem dX9_item_115 : decode cX9_item 115 = .ok (.ireturn, 1) := by decide +kernel
theorem dX9_item_116 : decode cX9_item 116 = .ok (.aload_n 0, 1) := by decide +kernel
theorem dX9_item_117 : decode cX9_item 117 = .ok (.getfield 12, 3) := by decide +kernel
theorem dX9_item_120 : decode cX9_item 120 = .ok (.iload_n 1, 1) := by decide +kernel
theorem dX9_item_121 : decode cX9_item 121 = .ok (.invokevirtual 259, 3) := by decide +kernel
theorem dX9_item_124 : decode cX9_item 124 = .ok (.ireturn, 1) := by decide +kernel
theorem dX9_item_125 : decode cX9_item 125 = .ok (.aload_n 0, 1) := by decide +kernel
theorem dX9_item_126 : decode cX9_item 126 = .ok (.getfield 12, 3) := by decide +kernel
theorem dX9_item_129 : decode cX9_item 129 = .ok (.iload_n 1, 1) := by decide +kernel
theorem dX9_item_130 : decode cX9_item 130 = .ok (.invokevirtual 256, 3) := by decide +kernel
theorem dX9_item_133 : decode cX9_item 133 = .ok (.ireturn, 1) := by decide +kernel
theorem dX9_item_134 : decode cX9_item 134 = .ok (.aload_n 0, 1) := by decide +kernel
theorem dX9_item_135 : decode cX9_item 135 = .ok (.getfield 12, 3) := by decide +kernel
theorem dX9_item_138 : decode cX9_item 138 = .ok (.invokevirtual 272, 3) := by decide +kernel
theorem dX9_item_141 : decode cX9_item 141 = .ok (.iload_n 1, 1) := by decide +kernel
theorem dX9_item_142 : decode cX9_item 142 = .ok (.invokestatic 275, 3) := by decide +kernel
theorem dX9_item_145 : decode cX9_item 145 = .ok (.ifCond .eq 7, 3) := by decide +kernel
theorem dX9_item_148 : decode cX9_item 148 = .ok (.iconst 1, 1) := by decide +kernel
theorem dX9_item_149 : decode cX9_item 149 = .ok (.goto 4, 3) := by decide +kernel
theorem dX9_item_152 : decode cX9_item 152 = .ok (.iconst 0, 1) := by decide +kernel
theorem dX9_item_153 : decode cX9_item 153 = .ok (.ireturn, 1) := by decide +kernel
theorem dX9_item_154 : decode cX9_item 154 = .ok (.aload_n 0, 1) := by decide +kernel
theorem dX9_item_155 : decode cX9_item 155 = .ok (.getfield 12, 3) := by decide +kernel
theorem dX9_item_158 : decode cX9_item 158 = .ok (.invokevirtual 268, 3) := by decide +kernel
theorem dX9_item_161 : decode cX9_item 161 = .ok (.iload_n 1, 1) := by decide +kernel
theorem dX9_item_162 : decode cX9_item 162 = .ok (.invokestatic 275, 3) := by decide +kernel
theorem dX9_item_165 : decode cX9_item 165 = .ok (.ifCond .eq 7, 3) := by decide +kernel
theorem dX9_item_168 : decode cX9_item 168 = .ok (.iconst 1, 1) := by decide +kernel
theorem dX9_item_169 : decode cX9_item 169 = .ok (.goto 4, 3) := by decide +kernel
theorem dX9_item_172 : decode cX9_item 172 = .ok (.iconst 0, 1) := by decide +kernel
theorem dX9_item_173 : decode cX9_item 173 = .ok (.ireturn, 1) := by decide +kernel
theorem dX9_item_174 : decode cX9_item 174 = .ok (.aload_n 0, 1) := by decide +kernel
theorem dX9_item_175 : decode cX9_item 175 = .ok (.getfield 25, 3) := by decide +kernel
theorem dX9_item_178 : decode cX9_item 178 = .ok (.iload_n 1, 1) := by decide +kernel
theorem dX9_item_179 : decode cX9_item 179 = .ok (.invokevirtual 198, 3) := by decide +kernel
theorem dX9_item_182 : decode cX9_item 182 = .ok (.invokestatic 289, 3) := by decide +kernel
theorem dX9_item_185 : decode cX9_item 185 = .ok (.ireturn, 1) := by decide +kernel
theorem dX9_item_186 : decode cX9_item 186 = .ok (.aload_n 0, 1) := by decide +kernel
theorem dX9_item_187 : decode cX9_item 187 = .ok (.getfield 12, 3) := by decide +kernel
theorem dX9_item_190 : decode cX9_item 190 = .ok (.aload_n 0, 1) := by decide +kernel
theorem dX9_item_191 : decode cX9_item 191 = .ok (.getfield 25, 3) := by decide +kernel
theorem dX9_item_194 : decode cX9_item 194 = .ok (.iload_n 1, 1) := by decide +kernel
theorem dX9_item_195 : decode cX9_item 195 = .ok (.invokevirtual 198, 3) := by decide +kernel
theorem dX9_item_198 : decode cX9_item 198 = .ok (.invokevirtual 294, 3) := by decide +kernel
theorem dX9_item_201 : decode cX9_item 201 = .ok (.ireturn, 1) := by decide +kernel
theorem dX9_item_202 : decode cX9_item 202 = .ok (.aload_n 0, 1) := by decide +kernel
theorem dX9_item_203 : decode cX9_item 203 = .ok (.getfield 12, 3) := by decide +kernel
theorem dX9_item_206 : decode cX9_item 206 = .ok (.aload_n 0, 1) := by decide +kernel
theorem dX9_item_207 : decode cX9_item 207 = .ok (.getfield 25, 3) := by decide +kernel
theorem dX9_item_210 : decode cX9_item 210 = .ok (.iload_n 1, 1) := by decide +kernel
theorem dX9_item_211 : decode cX9_item 211 = .ok (.invokevirtual 198, 3) := by decide +kernel
theorem dX9_item_214 : decode cX9_item 214 = .ok (.invokevirtual 297, 3) := by decide +kernel
theorem dX9_item_217 : decode cX9_item 217 = .ok (.ireturn, 1) := by decide +kernel
theorem dX9_item_218 : decode cX9_item 218 = .ok (.aload_n 0, 1) := by decide +kernel
theorem dX9_item_219 : decode cX9_item 219 = .ok (.getfield 12, 3) := by decide +kernel
theorem dX9_item_222 : decode cX9_item 222 = .ok (.aload_n 0, 1) := by decide +kernel
theorem dX9_item_223 : decode cX9_item 223 = .ok (.getfield 25, 3) := by decide +kernel
theorem dX9_item_226 : decode cX9_item 226 = .ok (.iload_n 1, 1) := by decide +kernel
theorem dX9_item_227 : decode cX9_item 227 = .ok (.invokevirtual 198, 3) := by decide +kernel
theorem dX9_item_230 : decode cX9_item 230 = .ok (.invokevirtual 300, 3) := by decide +kernel
theorem dX9_item_233 : decode cX9_item 233 = .ok (.ireturn, 1) := by decide +kernel
theorem dX9_item_234 : decode cX9_item 234 = .ok (.aload_n 0, 1) := by decide +kernel
theorem dX9_item_235 : decode cX9_item 235 = .ok (.iload_n 1, 1) := by decide +kernel
theorem dX9_item_236 : decode cX9_item 236 = .ok (.invokevirtual 303, 3) := by decide +kernel
theorem dX9_item_239 : decode cX9_item 239 = .ok (.ireturn, 1) := by decide +kernel
theorem dX9_item_240 : decode cX9_item 240 = .ok (.aload_n 0, 1) := by decide +kernel
theorem dX9_item_241 : decode cX9_item 241 = .ok (.iload_n 1, 1) := by decide +kernel
theorem dX9_item_242 : decode cX9_item 242 = .ok (.invokevirtual 306, 3) := by decide +kernel
theorem dX9_item_245 : decode cX9_item 245 = .ok (.ireturn, 1) := by decide +kernel
theorem dX9_item_246 : decode cX9_item 246 = .ok (.aload_n 0, 1) := by decide +kernel
theorem dX9_item_247 : decode cX9_item 247 = .ok (.getfield 25, 3) := by decide +kernel
theorem dX9_item_250 : decode cX9_item 250 = .ok (.iload_n 1, 1) := by decide +kernel
theorem dX9_item_251 : decode cX9_item 251 = .ok (.invokevirtual 309, 3) := by decide +kernel
theorem dX9_item_254 : decode cX9_item 254 = .ok (.ireturn, 1) := by decide +kernel
theorem dX9_item_255 : decode cX9_item 255 = .ok (.new 114, 3) := by decide +kernel
theorem dX9_item_258 : decode cX9_item 258 = .ok (.dup, 1) := by decide +kernel
theorem dX9_item_259 : decode cX9_item 259 = .ok (.ldc_w 312, 3) := by decide +kernel
theorem dX9_item_262 : decode cX9_item 262 = .ok (.invokespecial 118, 3) := by decide +kernel
theorem dX9_item_265 : decode cX9_item 265 = .ok (.athrow, 1) := by decide +kernel
theorem dX9_related_0 : decode cX9_related 0 = .ok (.aload_n 0, 1) := by decide +kernel
theorem dX9_related_1 : decode cX9_related 1 = .ok (.iload_n 1, 1) := by decide +kernel
theorem dX9_related_2 : decode cX9_related 2 = .ok (.invokevirtual 137, 3) := by decide +kernel
theorem dX9_related_5 : decode cX9_related 5 = .ok (.aload_n 0, 1) := by decide +kernel
theorem dX9_related_6 : decode cX9_related 6 = .ok (.iload_n 2, 1) := by decide +kernel
theorem dX9_related_7 : decode cX9_related 7 = .ok (.iload_n 3, 1) := by decide +kernel
theorem dX9_related_8 : decode cX9_related 8 = .ok (.ifCond .eq 14, 3) := by decide +kernel
theorem dX9_related_11 : decode cX9_related 11 = .ok (.aload_n 0, 1) := by decide +kernel
theorem dX9_related_12 : decode cX9_related 12 = .ok (.getfield 25, 3) := by decide +kernel
theorem dX9_related_15 : decode cX9_related 15 = .ok (.iload_n 1, 1) := by decide +kernel
theorem dX9_related_16 : decode cX9_related 16 = .ok (.invokevirtual 286, 3) := by decide +kernel
theorem dX9_related_19 : decode cX9_related 19 = .ok (.goto 11, 3) := by decide +kernel
theorem dX9_related_22 : decode cX9_related 22 = .ok (.aload_n 0, 1) := by decide +kernel
theorem dX9_related_23 : decode cX9_related 23 = .ok (.getfield 12, 3) := by decide +kernel
theorem dX9_related_26 : decode cX9_related 26 = .ok (.iload_n 1, 1) := by decide +kernel
theorem dX9_related_27 : decode cX9_related 27 = .ok (.invokevirtual 141, 3) := by decide +kernel
theorem dX9_related_30 : decode cX9_related 30 = .ok (.invokevirtual 189, 3) := by decide +kernel
theorem dX9_related_33 : decode cX9_related 33 = .ok (.iload_n 3, 1) := by decide +kernel
theorem dX9_related_34 : decode cX9_related 34 = .ok (.ifCond .eq 15, 3) := by decide +kernel
theorem dX9_related_37 : decode cX9_related 37 = .ok (.aload_n 0, 1) := by decide +kernel
theorem dX9_related_38 : decode cX9_related 38 = .ok (.getfield 12, 3) := by decide +kernel
theorem dX9_related_41 : decode cX9_related 41 = .ok (.iload_n 1, 1) := by decide +kernel
theorem dX9_related_42 : decode cX9_related 42 = .ok (.iload_n 2, 1) := by decide +kernel
theorem dX9_related_43 : decode cX9_related 43 = .ok (.invokevirtual 314, 3) := by decide +kernel
theorem dX9_related_46 : decode cX9_related 46 = .ok (.goto 12, 3) := by decide +kernel
theorem dX9_related_49 : decode cX9_related 49 = .ok (.aload_n 0, 1) := by decide +kernel
theorem dX9_related_50 : decode cX9_related 50 = .ok (.getfield 12, 3) := by decide +kernel
theorem dX9_related_53 : decode cX9_related 53 = .ok (.iload_n 1, 1) := by decide +kernel
theorem dX9_related_54 : decode cX9_related 54 = .ok (.iload_n 2, 1) := by decide +kernel
theorem dX9_related_55 : decode cX9_related 55 = .ok (.invokevirtual 232, 3) := by decide +kernel
theorem dX9_related_58 : decode cX9_related 58 = .ok (.ireturn, 1) := by decide +kernel
theorem dX9_letter_0 : decode cX9_letter 0 = .ok (.aload_n 0, 1) := by decide +kernel
theorem dX9_letter_1 : decode cX9_letter 1 = .ok (.iload_n 1, 1) := by decide +kernel
theorem dX9_letter_2 : decode cX9_letter 2 = .ok (.invokevirtual 179, 3) := by decide +kernel
theorem dX9_letter_5 : decode cX9_letter 5 = .ok (.aload_n 0, 1) := by decide +kernel
theorem dX9_letter_6 : decode cX9_letter 6 = .ok (.iload_n 2, 1) := by decide +kernel
theorem dX9_letter_7 : decode cX9_letter 7 = .ok (.aload_n 0, 1) := by decide +kernel
theorem dX9_letter_8 : decode cX9_letter 8 = .ok (.getfield 12, 3) := by decide +kernel
theorem dX9_letter_11 : decode cX9_letter 11 = .ok (.iload_n 1, 1) := by decide +kernel
theorem dX9_letter_12 : decode cX9_letter 12 = .ok (.invokevirtual 247, 3) := by decide +kernel
theorem dX9_letter_15 : decode cX9_letter 15 = .ok (.invokevirtual 189, 3) := by decide +kernel
theorem dX9_letter_18 : decode cX9_letter 18 = .ok (.aload_n 0, 1) := by decide +kernel
theorem dX9_letter_19 : decode cX9_letter 19 = .ok (.getfield 12, 3) := by decide +kernel
theorem dX9_letter_22 : decode cX9_letter 22 = .ok (.iload_n 1, 1) := by decide +kernel
theorem dX9_letter_23 : decode cX9_letter 23 = .ok (.iload_n 2, 1) := by decide +kernel
theorem dX9_letter_24 : decode cX9_letter 24 = .ok (.invokevirtual 317, 3) := by decide +kernel
theorem dX9_letter_27 : decode cX9_letter 27 = .ok (.ireturn, 1) := by decide +kernel
theorem dX9_isBelow_0 : decode cX9_isBelow 0 = .ok (.aload_n 0, 1) := by decide +kernel
theorem dX9_isBelow_1 : decode cX9_isBelow 1 = .ok (.iload_n 1, 1) := by decide +kernel
theorem dX9_isBelow_2 : decode cX9_isBelow 2 = .ok (.invokevirtual 137, 3) := by decide +kernel
theorem dX9_isBelow_5 : decode cX9_isBelow 5 = .ok (.aload_n 0, 1) := by decide +kernel
theorem dX9_isBelow_6 : decode cX9_isBelow 6 = .ok (.iload_n 2, 1) := by decide +kernel
theorem dX9_isBelow_7 : decode cX9_isBelow 7 = .ok (.invokevirtual 137, 3) := by decide +kernel
theorem dX9_isBelow_10 : decode cX9_isBelow 10 = .ok (.iload_n 1, 1) := by decide +kernel
theorem dX9_isBelow_11 : decode cX9_isBelow 11 = .ok (.iload_n 2, 1) := by decide +kernel
theorem dX9_isBelow_12 : decode cX9_isBelow 12 = .ok (.if_icmp .eq 22, 3) := by decide +kernel
theorem dX9_isBelow_15 : decode cX9_isBelow 15 = .ok (.aload_n 0, 1) := by decide +kernel
theorem dX9_isBelow_16 : decode cX9_isBelow 16 = .ok (.getfield 25, 3) := by decide +kernel
theorem dX9_isBelow_19 : decode cX9_isBelow 19 = .ok (.iload_n 2, 1) := by decide +kernel
theorem dX9_isBelow_20 : decode cX9_isBelow 20 = .ok (.invokevirtual 198, 3) := by decide +kernel
theorem dX9_isBelow_23 : decode cX9_isBelow 23 = .ok (.iload_n 1, 1) := by decide +kernel
theorem dX9_isBelow_24 : decode cX9_isBelow 24 = .ok (.invokestatic 275, 3) := by decide +kernel
theorem dX9_isBelow_27 : decode cX9_isBelow 27 = .ok (.ifCond .eq 7, 3) := by decide +kernel
theorem dX9_isBelow_30 : decode cX9_isBelow 30 = .ok (.iconst 1, 1) := by decide +kernel
theorem dX9_isBelow_31 : decode cX9_isBelow 31 = .ok (.goto 4, 3) := by decide +kernel
theorem dX9_isBelow_34 : decode cX9_isBelow 34 = .ok (.iconst 0, 1) := by decide +kernel
theorem dX9_isBelow_35 : decode cX9_isBelow 35 = .ok (.ireturn, 1) := by decide +kernel
theorem dX9_outline_0 : decode cX9_outline 0 = .ok (.iload_n 1, 1) := by decide +kernel
theorem dX9_outline_1 : decode cX9_outline 1 = .ok (.tableswitch 156 0 10 #[59, 67, 75, 84, 89, 97, 105, 113, 132, 140, 148], 59) := by decide +kernel
theorem dX9_outline_60 : decode cX9_outline 60 = .ok (.aload_n 0, 1) := by decide +kernel
theorem dX9_outline_61 : decode cX9_outline 61 = .ok (.getfield 12, 3) := by decide +kernel
theorem dX9_outline_64 : decode cX9_outline 64 = .ok (.invokevirtual 97, 3) := by decide +kernel
theorem dX9_outline_67 : decode cX9_outline 67 = .ok (.ireturn, 1) := by decide +kernel
theorem dX9_outline_68 : decode cX9_outline 68 = .ok (.aload_n 0, 1) := by decide +kernel
theorem dX9_outline_69 : decode cX9_outline 69 = .ok (.getfield 12, 3) := by decide +kernel
theorem dX9_outline_72 : decode cX9_outline 72 = .ok (.invokevirtual 321, 3) := by decide +kernel
theorem dX9_outline_75 : decode cX9_outline 75 = .ok (.ireturn, 1) := by decide +kernel
theorem dX9_outline_76 : decode cX9_outline 76 = .ok (.aload_n 0, 1) := by decide +kernel
theorem dX9_outline_77 : decode cX9_outline 77 = .ok (.getfield 25, 3) := by decide +kernel
theorem dX9_outline_80 : decode cX9_outline 80 = .ok (.iconst 0, 1) := by decide +kernel
theorem dX9_outline_81 : decode cX9_outline 81 = .ok (.invokevirtual 309, 3) := by decide +kernel
theorem dX9_outline_84 : decode cX9_outline 84 = .ok (.ireturn, 1) := by decide +kernel
theorem dX9_outline_85 : decode cX9_outline 85 = .ok (.aload_n 0, 1) := by decide +kernel
theorem dX9_outline_86 : decode cX9_outline 86 = .ok (.invokevirtual 218, 3) := by decide +kernel
theorem dX9_outline_89 : decode cX9_outline 89 = .ok (.ireturn, 1) := by decide +kernel
theorem dX9_outline_90 : decode cX9_outline 90 = .ok (.aload_n 0, 1) := by decide +kernel
theorem dX9_outline_91 : decode cX9_outline 91 = .ok (.getfield 42, 3) := by decide +kernel
theorem dX9_outline_94 : decode cX9_outline 94 = .ok (.invokevirtual 324, 3) := by decide +kernel
theorem dX9_outline_97 : decode cX9_outline 97 = .ok (.ireturn, 1) := by decide +kernel
theorem dX9_outline_98 : decode cX9_outline 98 = .ok (.aload_n 0, 1) := by decide +kernel
theorem dX9_outline_99 : decode cX9_outline 99 = .ok (.getfield 42, 3) := by decide +kernel
theorem dX9_outline_102 : decode cX9_outline 102 = .ok (.invokevirtual 327, 3) := by decide +kernel
theorem dX9_outline_105 : decode cX9_outline 105 = .ok (.ireturn, 1) := by decide +kernel
theorem dX9_outline_106 : decode cX9_outline 106 = .ok (.aload_n 0, 1) := by decide +kernel
theorem dX9_outline_107 : decode cX9_outline 107 = .ok (.getfield 49, 3) := by decide +kernel
theorem dX9_outline_110 : decode cX9_outline 110 = .ok (.invokevirtual 328, 3) := by decide +kernel
theorem dX9_outline_113 : decode cX9_outline 113 = .ok (.ireturn, 1) := by decide +kernel
theorem dX9_outline_114 : decode cX9_outline 114 = .ok (.aload_n 0, 1) := by decide +kernel
theorem dX9_outline_115 : decode cX9_outline 115 = .ok (.getfield 49, 3) := by decide +kernel
theorem dX9_outline_118 : decode cX9_outline 118 = .ok (.aload_n 0, 1) := by decide +kernel
theorem dX9_outline_119 : decode cX9_outline 119 = .ok (.getfield 12, 3) := by decide +kernel
theorem dX9_outline_122 : decode cX9_outline 122 = .ok (.aload_n 0, 1) := by decide +kernel
theorem dX9_outline_123 : decode cX9_outline 123 = .ok (.getfield 25, 3) := by decide +kernel
theorem dX9_outline_126 : decode cX9_outline 126 = .ok (.invokevirtual 329, 3) := by decide +kernel
theorem dX9_outline_129 : decode cX9_outline 129 = .ok (.invokestatic 289, 3) := by decide +kernel
theorem dX9_outline_132 : decode cX9_outline 132 = .ok (.ireturn, 1) := by decide +kernel
theorem dX9_outline_133 : decode cX9_outline 133 = .ok (.aload_n 0, 1) := by decide +kernel
theorem dX9_outline_134 : decode cX9_outline 134 = .ok (.getfield 66, 3) := by decide +kernel
theorem dX9_outline_137 : decode cX9_outline 137 = .ok (.invokevirtual 134, 3) := by decide +kernel
theorem dX9_outline_140 : decode cX9_outline 140 = .ok (.ireturn, 1) := by decide +kernel
theorem dX9_outline_141 : decode cX9_outline 141 = .ok (.aload_n 0, 1) := by decide +kernel
theorem dX9_outline_142 : decode cX9_outline 142 = .ok (.getfield 35, 3) := by decide +kernel
theorem dX9_outline_145 : decode cX9_outline 145 = .ok (.invokevirtual 333, 3) := by decide +kernel
theorem dX9_outline_148 : decode cX9_outline 148 = .ok (.ireturn, 1) := by decide +kernel
theorem dX9_outline_149 : decode cX9_outline 149 = .ok (.aload_n 0, 1) := by decide +kernel
theorem dX9_outline_150 : decode cX9_outline 150 = .ok (.getfield 25, 3) := by decide +kernel
theorem dX9_outline_153 : decode cX9_outline 153 = .ok (.invokevirtual 334, 3) := by decide +kernel
theorem dX9_outline_156 : decode cX9_outline 156 = .ok (.ireturn, 1) := by decide +kernel
theorem dX9_outline_157 : decode cX9_outline 157 = .ok (.new 114, 3) := by decide +kernel
theorem dX9_outline_160 : decode cX9_outline 160 = .ok (.dup, 1) := by decide +kernel
theorem dX9_outline_161 : decode cX9_outline 161 = .ok (.ldc_w 312, 3) := by decide +kernel
theorem dX9_outline_164 : decode cX9_outline 164 = .ok (.invokespecial 118, 3) := by decide +kernel
theorem dX9_outline_167 : decode cX9_outline 167 = .ok (.athrow, 1) := by decide +kernel
theorem dX9_doneShare_0 : decode cX9_doneShare 0 = .ok (.aload_n 0, 1) := by decide +kernel
theorem dX9_doneShare_1 : decode cX9_doneShare 1 = .ok (.iload_n 1, 1) := by decide +kernel
theorem dX9_doneShare_2 : decode cX9_doneShare 2 = .ok (.invokevirtual 137, 3) := by decide +kernel
theorem dX9_doneShare_5 : decode cX9_doneShare 5 = .ok (.aload_n 0, 1) := by decide +kernel
theorem dX9_doneShare_6 : decode cX9_doneShare 6 = .ok (.iload_n 1, 1) := by decide +kernel
theorem dX9_doneShare_7 : decode cX9_doneShare 7 = .ok (.invokevirtual 303, 3) := by decide +kernel
theorem dX9_doneShare_10 : decode cX9_doneShare 10 = .ok (.istore_n 2, 1) := by decide +kernel
theorem dX9_doneShare_11 : decode cX9_doneShare 11 = .ok (.iload_n 2, 1) := by decide +kernel
theorem dX9_doneShare_12 : decode cX9_doneShare 12 = .ok (.ifCond .ne 7, 3) := by decide +kernel
theorem dX9_doneShare_15 : decode cX9_doneShare 15 = .ok (.fconst 0, 1) := by decide +kernel
theorem dX9_doneShare_16 : decode cX9_doneShare 16 = .ok (.goto 12, 3) := by decide +kernel
theorem dX9_doneShare_19 : decode cX9_doneShare 19 = .ok (.aload_n 0, 1) := by decide +kernel
theorem dX9_doneShare_20 : decode cX9_doneShare 20 = .ok (.iload_n 1, 1) := by decide +kernel
theorem dX9_doneShare_21 : decode cX9_doneShare 21 = .ok (.invokevirtual 306, 3) := by decide +kernel
theorem dX9_doneShare_24 : decode cX9_doneShare 24 = .ok (.i2f, 1) := by decide +kernel
theorem dX9_doneShare_25 : decode cX9_doneShare 25 = .ok (.iload_n 2, 1) := by decide +kernel
theorem dX9_doneShare_26 : decode cX9_doneShare 26 = .ok (.i2f, 1) := by decide +kernel
theorem dX9_doneShare_27 : decode cX9_doneShare 27 = .ok (.fdiv, 1) := by decide +kernel
theorem dX9_doneShare_28 : decode cX9_doneShare 28 = .ok (.freturn, 1) := by decide +kernel
theorem dX9_meanValue_0 : decode cX9_meanValue 0 = .ok (.aload_n 0, 1) := by decide +kernel
theorem dX9_meanValue_1 : decode cX9_meanValue 1 = .ok (.iload_n 1, 1) := by decide +kernel
theorem dX9_meanValue_2 : decode cX9_meanValue 2 = .ok (.invokevirtual 137, 3) := by decide +kernel
theorem dX9_meanValue_5 : decode cX9_meanValue 5 = .ok (.aload_n 0, 1) := by decide +kernel
theorem dX9_meanValue_6 : decode cX9_meanValue 6 = .ok (.getfield 25, 3) := by decide +kernel
theorem dX9_meanValue_9 : decode cX9_meanValue 9 = .ok (.iload_n 1, 1) := by decide +kernel
theorem dX9_meanValue_10 : decode cX9_meanValue 10 = .ok (.invokevirtual 198, 3) := by decide +kernel
theorem dX9_meanValue_13 : decode cX9_meanValue 13 = .ok (.lstore_n 2, 1) := by decide +kernel
theorem dX9_meanValue_14 : decode cX9_meanValue 14 = .ok (.lload_n 2, 1) := by decide +kernel
theorem dX9_meanValue_15 : decode cX9_meanValue 15 = .ok (.invokestatic 289, 3) := by decide +kernel
theorem dX9_meanValue_18 : decode cX9_meanValue 18 = .ok (.istore 4, 2) := by decide +kernel
theorem dX9_meanValue_20 : decode cX9_meanValue 20 = .ok (.iload 4, 2) := by decide +kernel
theorem dX9_meanValue_22 : decode cX9_meanValue 22 = .ok (.ifCond .ne 7, 3) := by decide +kernel
theorem dX9_meanValue_25 : decode cX9_meanValue 25 = .ok (.dconst 0, 1) := by decide +kernel
theorem dX9_meanValue_26 : decode cX9_meanValue 26 = .ok (.goto 16, 3) := by decide +kernel
theorem dX9_meanValue_29 : decode cX9_meanValue 29 = .ok (.aload_n 0, 1) := by decide +kernel
theorem dX9_meanValue_30 : decode cX9_meanValue 30 = .ok (.getfield 12, 3) := by decide +kernel
theorem dX9_meanValue_33 : decode cX9_meanValue 33 = .ok (.lload_n 2, 1) := by decide +kernel
theorem dX9_meanValue_34 : decode cX9_meanValue 34 = .ok (.invokevirtual 294, 3) := by decide +kernel
theorem dX9_meanValue_37 : decode cX9_meanValue 37 = .ok (.i2d, 1) := by decide +kernel
theorem dX9_meanValue_38 : decode cX9_meanValue 38 = .ok (.iload 4, 2) := by decide +kernel
theorem dX9_meanValue_40 : decode cX9_meanValue 40 = .ok (.i2d, 1) := by decide +kernel
theorem dX9_meanValue_41 : decode cX9_meanValue 41 = .ok (.ddiv, 1) := by decide +kernel
theorem dX9_meanValue_42 : decode cX9_meanValue 42 = .ok (.dreturn, 1) := by decide +kernel
theorem dX9_hoist_0 : decode cX9_hoist 0 = .ok (.aload_n 0, 1) := by decide +kernel
theorem dX9_hoist_1 : decode cX9_hoist 1 = .ok (.iload_n 1, 1) := by decide +kernel
theorem dX9_hoist_2 : decode cX9_hoist 2 = .ok (.invokevirtual 137, 3) := by decide +kernel
theorem dX9_hoist_5 : decode cX9_hoist 5 = .ok (.aload_n 0, 1) := by decide +kernel
theorem dX9_hoist_6 : decode cX9_hoist 6 = .ok (.getfield 42, 3) := by decide +kernel
theorem dX9_hoist_9 : decode cX9_hoist 9 = .ok (.invokevirtual 327, 3) := by decide +kernel
theorem dX9_hoist_12 : decode cX9_hoist 12 = .ok (.iconst 4, 1) := by decide +kernel
theorem dX9_hoist_13 : decode cX9_hoist 13 = .ok (.if_icmp .lt 14, 3) := by decide +kernel
theorem dX9_hoist_16 : decode cX9_hoist 16 = .ok (.new 125, 3) := by decide +kernel
theorem dX9_hoist_19 : decode cX9_hoist 19 = .ok (.dup, 1) := by decide +kernel
theorem dX9_hoist_20 : decode cX9_hoist 20 = .ok (.ldc_w 337, 3) := by decide +kernel
theorem dX9_hoist_23 : decode cX9_hoist 23 = .ok (.invokespecial 129, 3) := by decide +kernel
theorem dX9_hoist_26 : decode cX9_hoist 26 = .ok (.athrow, 1) := by decide +kernel
theorem dX9_hoist_27 : decode cX9_hoist 27 = .ok (.aload_n 0, 1) := by decide +kernel
theorem dX9_hoist_28 : decode cX9_hoist 28 = .ok (.getfield 42, 3) := by decide +kernel
theorem dX9_hoist_31 : decode cX9_hoist 31 = .ok (.iload_n 1, 1) := by decide +kernel
theorem dX9_hoist_32 : decode cX9_hoist 32 = .ok (.invokevirtual 339, 3) := by decide +kernel
theorem dX9_hoist_35 : decode cX9_hoist 35 = .ok (.aload_n 0, 1) := by decide +kernel
theorem dX9_hoist_36 : decode cX9_hoist 36 = .ok (.getfield 42, 3) := by decide +kernel
theorem dX9_hoist_39 : decode cX9_hoist 39 = .ok (.invokevirtual 327, 3) := by decide +kernel
theorem dX9_hoist_42 : decode cX9_hoist 42 = .ok (.ireturn, 1) := by decide +kernel
theorem dX9_unhoist_0 : decode cX9_unhoist 0 = .ok (.aload_n 0, 1) := by decide +kernel
theorem dX9_unhoist_1 : decode cX9_unhoist 1 = .ok (.getfield 42, 3) := by decide +kernel
theorem dX9_unhoist_4 : decode cX9_unhoist 4 = .ok (.invokevirtual 327, 3) := by decide +kernel
theorem dX9_unhoist_7 : decode cX9_unhoist 7 = .ok (.ifCond .ne 14, 3) := by decide +kernel
theorem dX9_unhoist_10 : decode cX9_unhoist 10 = .ok (.new 125, 3) := by decide +kernel
theorem dX9_unhoist_13 : decode cX9_unhoist 13 = .ok (.dup, 1) := by decide +kernel
theorem dX9_unhoist_14 : decode cX9_unhoist 14 = .ok (.ldc_w 342, 3) := by decide +kernel
theorem dX9_unhoist_17 : decode cX9_unhoist 17 = .ok (.invokespecial 129, 3) := by decide +kernel
theorem dX9_unhoist_20 : decode cX9_unhoist 20 = .ok (.athrow, 1) := by decide +kernel
theorem dX9_unhoist_21 : decode cX9_unhoist 21 = .ok (.aload_n 0, 1) := by decide +kernel
theorem dX9_unhoist_22 : decode cX9_unhoist 22 = .ok (.getfield 42, 3) := by decide +kernel
theorem dX9_unhoist_25 : decode cX9_unhoist 25 = .ok (.invokevirtual 344, 3) := by decide +kernel
theorem dX9_unhoist_28 : decode cX9_unhoist 28 = .ok (.aload_n 0, 1) := by decide +kernel
theorem dX9_unhoist_29 : decode cX9_unhoist 29 = .ok (.getfield 42, 3) := by decide +kernel
theorem dX9_unhoist_32 : decode cX9_unhoist 32 = .ok (.invokevirtual 324, 3) := by decide +kernel
theorem dX9_unhoist_35 : decode cX9_unhoist 35 = .ok (.ireturn, 1) := by decide +kernel
theorem dX9_filter_0 : decode cX9_filter 0 = .ok (.aload_n 0, 1) := by decide +kernel
theorem dX9_filter_1 : decode cX9_filter 1 = .ok (.getfield 66, 3) := by decide +kernel
theorem dX9_filter_4 : decode cX9_filter 4 = .ok (.invokevirtual 134, 3) := by decide +kernel
theorem dX9_filter_7 : decode cX9_filter 7 = .ok (.ifCond .ne 15, 3) := by decide +kernel
theorem dX9_filter_10 : decode cX9_filter 10 = .ok (.aload_n 0, 1) := by decide +kernel
theorem dX9_filter_11 : decode cX9_filter 11 = .ok (.getfield 49, 3) := by decide +kernel
theorem dX9_filter_14 : decode cX9_filter 14 = .ok (.invokevirtual 110, 3) := by decide +kernel
theorem dX9_filter_17 : decode cX9_filter 17 = .ok (.aload_n 0, 1) := by decide +kernel
theorem dX9_filter_18 : decode cX9_filter 18 = .ok (.invokevirtual 218, 3) := by decide +kernel
theorem dX9_filter_21 : decode cX9_filter 21 = .ok (.ireturn, 1) := by decide +kernel
theorem dX9_filter_22 : decode cX9_filter 22 = .ok (.aload_n 0, 1) := by decide +kernel
theorem dX9_filter_23 : decode cX9_filter 23 = .ok (.getfield 53, 3) := by decide +kernel
theorem dX9_filter_26 : decode cX9_filter 26 = .ok (.aload_n 0, 1) := by decide +kernel
theorem dX9_filter_27 : decode cX9_filter 27 = .ok (.getfield 66, 3) := by decide +kernel
theorem dX9_filter_30 : decode cX9_filter 30 = .ok (.invokevirtual 347, 3) := by decide +kernel
theorem dX9_filter_33 : decode cX9_filter 33 = .ok (.ifCond .ne 7, 3) := by decide +kernel
theorem dX9_filter_36 : decode cX9_filter 36 = .ok (.aload_n 0, 1) := by decide +kernel
theorem dX9_filter_37 : decode cX9_filter 37 = .ok (.invokevirtual 351, 3) := by decide +kernel
theorem dX9_filter_40 : decode cX9_filter 40 = .ok (.aload_n 0, 1) := by decide +kernel
theorem dX9_filter_41 : decode cX9_filter 41 = .ok (.getfield 66, 3) := by decide +kernel
theorem dX9_filter_44 : decode cX9_filter 44 = .ok (.invokevirtual 354, 3) := by decide +kernel
theorem dX9_filter_47 : decode cX9_filter 47 = .ok (.aload_n 0, 1) := by decide +kernel
theorem dX9_filter_48 : decode cX9_filter 48 = .ok (.getfield 49, 3) := by decide +kernel
theorem dX9_filter_51 : decode cX9_filter 51 = .ok (.astore_n 1, 1) := by decide +kernel
theorem dX9_filter_52 : decode cX9_filter 52 = .ok (.aload_n 0, 1) := by decide +kernel
theorem dX9_filter_53 : decode cX9_filter 53 = .ok (.aload_n 0, 1) := by decide +kernel
theorem dX9_filter_54 : decode cX9_filter 54 = .ok (.getfield 53, 3) := by decide +kernel
theorem dX9_filter_57 : decode cX9_filter 57 = .ok (.putfield 49, 3) := by decide +kernel
theorem dX9_filter_60 : decode cX9_filter 60 = .ok (.aload_n 0, 1) := by decide +kernel
theorem dX9_filter_61 : decode cX9_filter 61 = .ok (.aload_n 1, 1) := by decide +kernel
theorem dX9_filter_62 : decode cX9_filter 62 = .ok (.putfield 53, 3) := by decide +kernel
theorem dX9_filter_65 : decode cX9_filter 65 = .ok (.aload_n 0, 1) := by decide +kernel
theorem dX9_filter_66 : decode cX9_filter 66 = .ok (.invokevirtual 218, 3) := by decide +kernel
theorem dX9_filter_69 : decode cX9_filter 69 = .ok (.ireturn, 1) := by decide +kernel
theorem dX9_line_0 : decode cX9_line 0 = .ok (.aload_n 0, 1) := by decide +kernel
theorem dX9_line_1 : decode cX9_line 1 = .ok (.iload_n 1, 1) := by decide +kernel
theorem dX9_line_2 : decode cX9_line 2 = .ok (.aload_n 0, 1) := by decide +kernel
theorem dX9_line_3 : decode cX9_line 3 = .ok (.invokevirtual 218, 3) := by decide +kernel
theorem dX9_line_6 : decode cX9_line 6 = .ok (.invokevirtual 221, 3) := by decide +kernel
theorem dX9_line_9 : decode cX9_line 9 = .ok (.iload_n 2, 1) := by decide +kernel
theorem dX9_line_10 : decode cX9_line 10 = .ok (.tableswitch 122 0 5 #[38, 47, 56, 65, 74, 87], 38) := by decide +kernel
theorem dX9_line_48 : decode cX9_line 48 = .ok (.aload_n 0, 1) := by decide +kernel
theorem dX9_line_49 : decode cX9_line 49 = .ok (.getfield 59, 3) := by decide +kernel
theorem dX9_line_52 : decode cX9_line 52 = .ok (.iload_n 1, 1) := by decide +kernel
theorem dX9_line_53 : decode cX9_line 53 = .ok (.invokevirtual 244, 3) := by decide +kernel
theorem dX9_line_56 : decode cX9_line 56 = .ok (.ireturn, 1) := by decide +kernel
theorem dX9_line_57 : decode cX9_line 57 = .ok (.aload_n 0, 1) := by decide +kernel
theorem dX9_line_58 : decode cX9_line 58 = .ok (.getfield 59, 3) := by decide +kernel
theorem dX9_line_61 : decode cX9_line 61 = .ok (.iload_n 1, 1) := by decide +kernel
theorem dX9_line_62 : decode cX9_line 62 = .ok (.invokevirtual 236, 3) := by decide +kernel
theorem dX9_line_65 : decode cX9_line 65 = .ok (.ireturn, 1) := by decide +kernel
theorem dX9_line_66 : decode cX9_line 66 = .ok (.aload_n 0, 1) := by decide +kernel
theorem dX9_line_67 : decode cX9_line 67 = .ok (.getfield 59, 3) := by decide +kernel
theorem dX9_line_70 : decode cX9_line 70 = .ok (.iload_n 1, 1) := by decide +kernel
theorem dX9_line_71 : decode cX9_line 71 = .ok (.invokevirtual 224, 3) := by decide +kernel
theorem dX9_line_74 : decode cX9_line 74 = .ok (.ireturn, 1) := by decide +kernel
theorem dX9_line_75 : decode cX9_line 75 = .ok (.aload_n 0, 1) := by decide +kernel
theorem dX9_line_76 : decode cX9_line 76 = .ok (.getfield 59, 3) := by decide +kernel
theorem dX9_line_79 : decode cX9_line 79 = .ok (.iload_n 1, 1) := by decide +kernel
theorem dX9_line_80 : decode cX9_line 80 = .ok (.invokevirtual 227, 3) := by decide +kernel
theorem dX9_line_83 : decode cX9_line 83 = .ok (.ireturn, 1) := by decide +kernel
theorem dX9_line_84 : decode cX9_line 84 = .ok (.aload_n 0, 1) := by decide +kernel
theorem dX9_line_85 : decode cX9_line 85 = .ok (.getfield 59, 3) := by decide +kernel
theorem dX9_line_88 : decode cX9_line 88 = .ok (.aload_n 0, 1) := by decide +kernel
theorem dX9_line_89 : decode cX9_line 89 = .ok (.getfield 12, 3) := by decide +kernel
theorem dX9_line_92 : decode cX9_line 92 = .ok (.iload_n 1, 1) := by decide +kernel
theorem dX9_line_93 : decode cX9_line 93 = .ok (.invokevirtual 355, 3) := by decide +kernel
theorem dX9_line_96 : decode cX9_line 96 = .ok (.ireturn, 1) := by decide +kernel
theorem dX9_line_97 : decode cX9_line 97 = .ok (.aload_n 0, 1) := by decide +kernel
theorem dX9_line_98 : decode cX9_line 98 = .ok (.getfield 49, 3) := by decide +kernel
theorem dX9_line_101 : decode cX9_line 101 = .ok (.aload_n 0, 1) := by decide +kernel
theorem dX9_line_102 : decode cX9_line 102 = .ok (.getfield 12, 3) := by decide +kernel
theorem dX9_line_105 : decode cX9_line 105 = .ok (.aload_n 0, 1) := by decide +kernel
theorem dX9_line_106 : decode cX9_line 106 = .ok (.getfield 25, 3) := by decide +kernel
theorem dX9_line_109 : decode cX9_line 109 = .ok (.invokevirtual 329, 3) := by decide +kernel
theorem dX9_line_112 : decode cX9_line 112 = .ok (.aload_n 0, 1) := by decide +kernel
theorem dX9_line_113 : decode cX9_line 113 = .ok (.getfield 59, 3) := by decide +kernel
theorem dX9_line_116 : decode cX9_line 116 = .ok (.iload_n 1, 1) := by decide +kernel
theorem dX9_line_117 : decode cX9_line 117 = .ok (.invokevirtual 244, 3) := by decide +kernel
theorem dX9_line_120 : decode cX9_line 120 = .ok (.invokestatic 275, 3) := by decide +kernel
theorem dX9_line_123 : decode cX9_line 123 = .ok (.ifCond .eq 7, 3) := by decide +kernel
theorem dX9_line_126 : decode cX9_line 126 = .ok (.iconst 1, 1) := by decide +kernel
theorem dX9_line_127 : decode cX9_line 127 = .ok (.goto 4, 3) := by decide +kernel
theorem dX9_line_130 : decode cX9_line 130 = .ok (.iconst 0, 1) := by decide +kernel
theorem dX9_line_131 : decode cX9_line 131 = .ok (.ireturn, 1) := by decide +kernel
theorem dX9_line_132 : decode cX9_line 132 = .ok (.new 114, 3) := by decide +kernel
theorem dX9_line_135 : decode cX9_line 135 = .ok (.dup, 1) := by decide +kernel
theorem dX9_line_136 : decode cX9_line 136 = .ok (.ldc_w 312, 3) := by decide +kernel
theorem dX9_line_139 : decode cX9_line 139 = .ok (.invokespecial 118, 3) := by decide +kernel
theorem dX9_line_142 : decode cX9_line 142 = .ok (.athrow, 1) := by decide +kernel
theorem dX9_path_0 : decode cX9_path 0 = .ok (.aload_n 0, 1) := by decide +kernel
theorem dX9_path_1 : decode cX9_path 1 = .ok (.iload_n 1, 1) := by decide +kernel
theorem dX9_path_2 : decode cX9_path 2 = .ok (.aload_n 0, 1) := by decide +kernel
theorem dX9_path_3 : decode cX9_path 3 = .ok (.invokevirtual 218, 3) := by decide +kernel
theorem dX9_path_6 : decode cX9_path 6 = .ok (.invokevirtual 221, 3) := by decide +kernel
theorem dX9_path_9 : decode cX9_path 9 = .ok (.aload_n 0, 1) := by decide +kernel
theorem dX9_path_10 : decode cX9_path 10 = .ok (.iload_n 2, 1) := by decide +kernel
theorem dX9_path_11 : decode cX9_path 11 = .ok (.aload_n 0, 1) := by decide +kernel
theorem dX9_path_12 : decode cX9_path 12 = .ok (.getfield 59, 3) := by decide +kernel
theorem dX9_path_15 : decode cX9_path 15 = .ok (.aload_n 0, 1) := by decide +kernel
theorem dX9_path_16 : decode cX9_path 16 = .ok (.getfield 12, 3) := by decide +kernel
theorem dX9_path_19 : decode cX9_path 19 = .ok (.iload_n 1, 1) := by decide +kernel
theorem dX9_path_20 : decode cX9_path 20 = .ok (.invokevirtual 355, 3) := by decide +kernel
theorem dX9_path_23 : decode cX9_path 23 = .ok (.invokevirtual 189, 3) := by decide +kernel
theorem dX9_path_26 : decode cX9_path 26 = .ok (.aload_n 0, 1) := by decide +kernel
theorem dX9_path_27 : decode cX9_path 27 = .ok (.getfield 59, 3) := by decide +kernel
theorem dX9_path_30 : decode cX9_path 30 = .ok (.aload_n 0, 1) := by decide +kernel
theorem dX9_path_31 : decode cX9_path 31 = .ok (.getfield 12, 3) := by decide +kernel
theorem dX9_path_34 : decode cX9_path 34 = .ok (.iload_n 1, 1) := by decide +kernel
theorem dX9_path_35 : decode cX9_path 35 = .ok (.iload_n 2, 1) := by decide +kernel
theorem dX9_path_36 : decode cX9_path 36 = .ok (.invokevirtual 358, 3) := by decide +kernel
theorem dX9_path_39 : decode cX9_path 39 = .ok (.ireturn, 1) := by decide +kernel
theorem dX9_lineOf_0 : decode cX9_lineOf 0 = .ok (.aload_n 0, 1) := by decide +kernel
theorem dX9_lineOf_1 : decode cX9_lineOf 1 = .ok (.invokevirtual 218, 3) := by decide +kernel
theorem dX9_lineOf_4 : decode cX9_lineOf 4 = .ok (.istore_n 2, 1) := by decide +kernel
theorem dX9_lineOf_5 : decode cX9_lineOf 5 = .ok (.iconst 0, 1) := by decide +kernel
theorem dX9_lineOf_6 : decode cX9_lineOf 6 = .ok (.istore_n 3, 1) := by decide +kernel
theorem dX9_lineOf_7 : decode cX9_lineOf 7 = .ok (.iload_n 3, 1) := by decide +kernel
theorem dX9_lineOf_8 : decode cX9_lineOf 8 = .ok (.iload_n 2, 1) := by decide +kernel
theorem dX9_lineOf_9 : decode cX9_lineOf 9 = .ok (.if_icmp .ge 23, 3) := by decide +kernel
theorem dX9_lineOf_12 : decode cX9_lineOf 12 = .ok (.aload_n 0, 1) := by decide +kernel
theorem dX9_lineOf_13 : decode cX9_lineOf 13 = .ok (.getfield 59, 3) := by decide +kernel
theorem dX9_lineOf_16 : decode cX9_lineOf 16 = .ok (.iload_n 3, 1) := by decide +kernel
theorem dX9_lineOf_17 : decode cX9_lineOf 17 = .ok (.invokevirtual 244, 3) := by decide +kernel
theorem dX9_lineOf_20 : decode cX9_lineOf 20 = .ok (.iload_n 1, 1) := by decide +kernel
theorem dX9_lineOf_21 : decode cX9_lineOf 21 = .ok (.if_icmp .ne 5, 3) := by decide +kernel
theorem dX9_lineOf_24 : decode cX9_lineOf 24 = .ok (.iload_n 3, 1) := by decide +kernel
theorem dX9_lineOf_25 : decode cX9_lineOf 25 = .ok (.ireturn, 1) := by decide +kernel
theorem dX9_lineOf_26 : decode cX9_lineOf 26 = .ok (.iinc 3 1, 3) := by decide +kernel
theorem dX9_lineOf_29 : decode cX9_lineOf 29 = .ok (.goto (-22), 3) := by decide +kernel
theorem dX9_lineOf_32 : decode cX9_lineOf 32 = .ok (.iconst (-1), 1) := by decide +kernel
theorem dX9_lineOf_33 : decode cX9_lineOf 33 = .ok (.ireturn, 1) := by decide +kernel
theorem dX9_load_0 : decode cX9_load 0 = .ok (.aload_n 0, 1) := by decide +kernel
theorem dX9_load_1 : decode cX9_load 1 = .ok (.iload_n 1, 1) := by decide +kernel
theorem dX9_load_2 : decode cX9_load 2 = .ok (.invokevirtual 137, 3) := by decide +kernel
theorem dX9_load_5 : decode cX9_load 5 = .ok (.aload_n 0, 1) := by decide +kernel
theorem dX9_load_6 : decode cX9_load 6 = .ok (.getfield 73, 3) := by decide +kernel
theorem dX9_load_9 : decode cX9_load 9 = .ok (.aload_n 0, 1) := by decide +kernel
theorem dX9_load_10 : decode cX9_load 10 = .ok (.getfield 66, 3) := by decide +kernel
theorem dX9_load_13 : decode cX9_load 13 = .ok (.invokevirtual 362, 3) := by decide +kernel
theorem dX9_load_16 : decode cX9_load 16 = .ok (.ifCond .ne 7, 3) := by decide +kernel
theorem dX9_load_19 : decode cX9_load 19 = .ok (.aload_n 0, 1) := by decide +kernel
theorem dX9_load_20 : decode cX9_load 20 = .ok (.invokevirtual 351, 3) := by decide +kernel
theorem dX9_load_23 : decode cX9_load 23 = .ok (.aload_n 0, 1) := by decide +kernel
theorem dX9_load_24 : decode cX9_load 24 = .ok (.getfield 66, 3) := by decide +kernel
theorem dX9_load_27 : decode cX9_load 27 = .ok (.invokevirtual 354, 3) := by decide +kernel
theorem dX9_load_30 : decode cX9_load 30 = .ok (.aload_n 0, 1) := by decide +kernel
theorem dX9_load_31 : decode cX9_load 31 = .ok (.getfield 16, 3) := by decide +kernel
theorem dX9_load_34 : decode cX9_load 34 = .ok (.aload_n 0, 1) := by decide +kernel
theorem dX9_load_35 : decode cX9_load 35 = .ok (.getfield 12, 3) := by decide +kernel
theorem dX9_load_38 : decode cX9_load 38 = .ok (.invokevirtual 165, 3) := by decide +kernel
theorem dX9_load_41 : decode cX9_load 41 = .ok (.aload_n 0, 1) := by decide +kernel
theorem dX9_load_42 : decode cX9_load 42 = .ok (.iload_n 1, 1) := by decide +kernel
theorem dX9_load_43 : decode cX9_load 43 = .ok (.invokevirtual 363, 3) := by decide +kernel
theorem dX9_load_46 : decode cX9_load 46 = .ok (.ifCond .ne 13, 3) := by decide +kernel
theorem dX9_load_49 : decode cX9_load 49 = .ok (.new 160, 3) := by decide +kernel
theorem dX9_load_52 : decode cX9_load 52 = .ok (.dup, 1) := by decide +kernel
theorem dX9_load_53 : decode cX9_load 53 = .ok (.ldc 162, 2) := by decide +kernel
theorem dX9_load_55 : decode cX9_load 55 = .ok (.invokespecial 164, 3) := by decide +kernel
theorem dX9_load_58 : decode cX9_load 58 = .ok (.athrow, 1) := by decide +kernel
theorem dX9_load_59 : decode cX9_load 59 = .ok (.aload_n 0, 1) := by decide +kernel
theorem dX9_load_60 : decode cX9_load 60 = .ok (.invokevirtual 176, 3) := by decide +kernel
theorem dX9_load_63 : decode cX9_load 63 = .ok (.aload_n 0, 1) := by decide +kernel
theorem dX9_load_64 : decode cX9_load 64 = .ok (.getfield 73, 3) := by decide +kernel
theorem dX9_load_67 : decode cX9_load 67 = .ok (.invokevirtual 366, 3) := by decide +kernel
theorem dX9_load_70 : decode cX9_load 70 = .ok (.ireturn, 1) := by decide +kernel
theorem dX9_errorPosition_0 : decode cX9_errorPosition 0 = .ok (.aload_n 0, 1) := by decide +kernel
theorem dX9_errorPosition_1 : decode cX9_errorPosition 1 = .ok (.getfield 93, 3) := by decide +kernel
theorem dX9_errorPosition_4 : decode cX9_errorPosition 4 = .ok (.ldc 92, 2) := by decide +kernel
theorem dX9_errorPosition_6 : decode cX9_errorPosition 6 = .ok (.if_icmp .ne 14, 3) := by decide +kernel
theorem dX9_errorPosition_9 : decode cX9_errorPosition 9 = .ok (.new 125, 3) := by decide +kernel
theorem dX9_errorPosition_12 : decode cX9_errorPosition 12 = .ok (.dup, 1) := by decide +kernel
theorem dX9_errorPosition_13 : decode cX9_errorPosition 13 = .ok (.ldc_w 367, 3) := by decide +kernel
theorem dX9_errorPosition_16 : decode cX9_errorPosition 16 = .ok (.invokespecial 129, 3) := by decide +kernel
theorem dX9_errorPosition_19 : decode cX9_errorPosition 19 = .ok (.athrow, 1) := by decide +kernel
theorem dX9_errorPosition_20 : decode cX9_errorPosition 20 = .ok (.aload_n 0, 1) := by decide +kernel
theorem dX9_errorPosition_21 : decode cX9_errorPosition 21 = .ok (.getfield 93, 3) := by decide +kernel
theorem dX9_errorPosition_24 : decode cX9_errorPosition 24 = .ok (.ireturn, 1) := by decide +kernel
theorem dX9_refusal_0 : decode cX9_refusal 0 = .ok (.aload_n 0, 1) := by decide +kernel
theorem dX9_refusal_1 : decode cX9_refusal 1 = .ok (.getfield 80, 3) := by decide +kernel
theorem dX9_refusal_4 : decode cX9_refusal 4 = .ok (.invokevirtual 369, 3) := by decide +kernel
theorem dX9_refusal_7 : decode cX9_refusal 7 = .ok (.ifCond .ne 14, 3) := by decide +kernel
theorem dX9_refusal_10 : decode cX9_refusal 10 = .ok (.new 125, 3) := by decide +kernel
theorem dX9_refusal_13 : decode cX9_refusal 13 = .ok (.dup, 1) := by decide +kernel
theorem dX9_refusal_14 : decode cX9_refusal 14 = .ok (.ldc_w 370, 3) := by decide +kernel
theorem dX9_refusal_17 : decode cX9_refusal 17 = .ok (.invokespecial 129, 3) := by decide +kernel
theorem dX9_refusal_20 : decode cX9_refusal 20 = .ok (.athrow, 1) := by decide +kernel
theorem dX9_refusal_21 : decode cX9_refusal 21 = .ok (.aload_n 0, 1) := by decide +kernel
theorem dX9_refusal_22 : decode cX9_refusal 22 = .ok (.iload_n 1, 1) := by decide +kernel
theorem dX9_refusal_23 : decode cX9_refusal 23 = .ok (.aload_n 0, 1) := by decide +kernel
theorem dX9_refusal_24 : decode cX9_refusal 24 = .ok (.getfield 80, 3) := by decide +kernel
theorem dX9_refusal_27 : decode cX9_refusal 27 = .ok (.invokevirtual 369, 3) := by decide +kernel
theorem dX9_refusal_30 : decode cX9_refusal 30 = .ok (.invokevirtual 189, 3) := by decide +kernel
theorem dX9_refusal_33 : decode cX9_refusal 33 = .ok (.aload_n 0, 1) := by decide +kernel
theorem dX9_refusal_34 : decode cX9_refusal 34 = .ok (.getfield 80, 3) := by decide +kernel
theorem dX9_refusal_37 : decode cX9_refusal 37 = .ok (.iload_n 1, 1) := by decide +kernel
theorem dX9_refusal_38 : decode cX9_refusal 38 = .ok (.invokevirtual 372, 3) := by decide +kernel
theorem dX9_refusal_41 : decode cX9_refusal 41 = .ok (.ireturn, 1) := by decide +kernel
theorem dX9_isConsistent_0 : decode cX9_isConsistent 0 = .ok (.aload_n 0, 1) := by decide +kernel
theorem dX9_isConsistent_1 : decode cX9_isConsistent 1 = .ok (.getfield 29, 3) := by decide +kernel
theorem dX9_isConsistent_4 : decode cX9_isConsistent 4 = .ok (.aload_n 0, 1) := by decide +kernel
theorem dX9_isConsistent_5 : decode cX9_isConsistent 5 = .ok (.getfield 12, 3) := by decide +kernel
theorem dX9_isConsistent_8 : decode cX9_isConsistent 8 = .ok (.invokevirtual 195, 3) := by decide +kernel
theorem dX9_isConsistent_11 : decode cX9_isConsistent 11 = .ok (.aload_n 0, 1) := by decide +kernel
theorem dX9_isConsistent_12 : decode cX9_isConsistent 12 = .ok (.getfield 29, 3) := by decide +kernel
theorem dX9_isConsistent_15 : decode cX9_isConsistent 15 = .ok (.aload_n 0, 1) := by decide +kernel
theorem dX9_isConsistent_16 : decode cX9_isConsistent 16 = .ok (.getfield 12, 3) := by decide +kernel
theorem dX9_isConsistent_19 : decode cX9_isConsistent 19 = .ok (.invokevirtual 375, 3) := by decide +kernel
theorem dX9_isConsistent_22 : decode cX9_isConsistent 22 = .ok (.ifCond .eq 72, 3) := by decide +kernel
theorem dX9_isConsistent_25 : decode cX9_isConsistent 25 = .ok (.aload_n 0, 1) := by decide +kernel
theorem dX9_isConsistent_26 : decode cX9_isConsistent 26 = .ok (.getfield 29, 3) := by decide +kernel
theorem dX9_isConsistent_29 : decode cX9_isConsistent 29 = .ok (.iconst 0, 1) := by decide +kernel
theorem dX9_isConsistent_30 : decode cX9_isConsistent 30 = .ok (.invokevirtual 198, 3) := by decide +kernel
theorem dX9_isConsistent_33 : decode cX9_isConsistent 33 = .ok (.aload_n 0, 1) := by decide +kernel
theorem dX9_isConsistent_34 : decode cX9_isConsistent 34 = .ok (.getfield 12, 3) := by decide +kernel
theorem dX9_isConsistent_37 : decode cX9_isConsistent 37 = .ok (.invokevirtual 379, 3) := by decide +kernel
theorem dX9_isConsistent_40 : decode cX9_isConsistent 40 = .ok (.lcmp, 1) := by decide +kernel
theorem dX9_isConsistent_41 : decode cX9_isConsistent 41 = .ok (.ifCond .ne 53, 3) := by decide +kernel
theorem dX9_isConsistent_44 : decode cX9_isConsistent 44 = .ok (.aload_n 0, 1) := by decide +kernel
theorem dX9_isConsistent_45 : decode cX9_isConsistent 45 = .ok (.getfield 12, 3) := by decide +kernel
theorem dX9_isConsistent_48 : decode cX9_isConsistent 48 = .ok (.invokevirtual 382, 3) := by decide +kernel
theorem dX9_isConsistent_51 : decode cX9_isConsistent 51 = .ok (.ifCond .eq 43, 3) := by decide +kernel
theorem dX9_isConsistent_54 : decode cX9_isConsistent 54 = .ok (.aload_n 0, 1) := by decide +kernel
theorem dX9_isConsistent_55 : decode cX9_isConsistent 55 = .ok (.getfield 12, 3) := by decide +kernel
theorem dX9_isConsistent_58 : decode cX9_isConsistent 58 = .ok (.aload_n 0, 1) := by decide +kernel
theorem dX9_isConsistent_59 : decode cX9_isConsistent 59 = .ok (.getfield 29, 3) := by decide +kernel
theorem dX9_isConsistent_62 : decode cX9_isConsistent 62 = .ok (.invokevirtual 386, 3) := by decide +kernel
theorem dX9_isConsistent_65 : decode cX9_isConsistent 65 = .ok (.ifCond .eq 29, 3) := by decide +kernel
theorem dX9_isConsistent_68 : decode cX9_isConsistent 68 = .ok (.aload_n 0, 1) := by decide +kernel
theorem dX9_isConsistent_69 : decode cX9_isConsistent 69 = .ok (.getfield 29, 3) := by decide +kernel
theorem dX9_isConsistent_72 : decode cX9_isConsistent 72 = .ok (.aload_n 0, 1) := by decide +kernel
theorem dX9_isConsistent_73 : decode cX9_isConsistent 73 = .ok (.getfield 12, 3) := by decide +kernel
theorem dX9_isConsistent_76 : decode cX9_isConsistent 76 = .ok (.invokevirtual 390, 3) := by decide +kernel
theorem dX9_isConsistent_79 : decode cX9_isConsistent 79 = .ok (.aload_n 0, 1) := by decide +kernel
theorem dX9_isConsistent_80 : decode cX9_isConsistent 80 = .ok (.getfield 29, 3) := by decide +kernel
theorem dX9_isConsistent_83 : decode cX9_isConsistent 83 = .ok (.iconst 0, 1) := by decide +kernel
theorem dX9_isConsistent_84 : decode cX9_isConsistent 84 = .ok (.invokevirtual 309, 3) := by decide +kernel
theorem dX9_isConsistent_87 : decode cX9_isConsistent 87 = .ok (.if_icmp .ne 7, 3) := by decide +kernel
theorem dX9_isConsistent_90 : decode cX9_isConsistent 90 = .ok (.iconst 1, 1) := by decide +kernel
theorem dX9_isConsistent_91 : decode cX9_isConsistent 91 = .ok (.goto 4, 3) := by decide +kernel
theorem dX9_isConsistent_94 : decode cX9_isConsistent 94 = .ok (.iconst 0, 1) := by decide +kernel
theorem dX9_isConsistent_95 : decode cX9_isConsistent 95 = .ok (.ireturn, 1) := by decide +kernel
theorem dX9_undo_0 : decode cX9_undo 0 = .ok (.aload_n 0, 1) := by decide +kernel
theorem dX9_undo_1 : decode cX9_undo 1 = .ok (.getfield 35, 3) := by decide +kernel
theorem dX9_undo_4 : decode cX9_undo 4 = .ok (.invokevirtual 333, 3) := by decide +kernel
theorem dX9_undo_7 : decode cX9_undo 7 = .ok (.ifCond .ne 14, 3) := by decide +kernel
theorem dX9_undo_10 : decode cX9_undo 10 = .ok (.new 125, 3) := by decide +kernel
theorem dX9_undo_13 : decode cX9_undo 13 = .ok (.dup, 1) := by decide +kernel
theorem dX9_undo_14 : decode cX9_undo 14 = .ok (.ldc_w 394, 3) := by decide +kernel
theorem dX9_undo_17 : decode cX9_undo 17 = .ok (.invokespecial 129, 3) := by decide +kernel
theorem dX9_undo_20 : decode cX9_undo 20 = .ok (.athrow, 1) := by decide +kernel
theorem dX9_undo_21 : decode cX9_undo 21 = .ok (.aload_n 0, 1) := by decide +kernel
theorem dX9_undo_22 : decode cX9_undo 22 = .ok (.aload_n 0, 1) := by decide +kernel
theorem dX9_undo_23 : decode cX9_undo 23 = .ok (.getfield 35, 3) := by decide +kernel
theorem dX9_undo_26 : decode cX9_undo 26 = .ok (.aload_n 0, 1) := by decide +kernel
theorem dX9_undo_27 : decode cX9_undo 27 = .ok (.getfield 12, 3) := by decide +kernel
theorem dX9_undo_30 : decode cX9_undo 30 = .ok (.invokevirtual 396, 3) := by decide +kernel
theorem dX9_undo_33 : decode cX9_undo 33 = .ok (.putfield 12, 3) := by decide +kernel
theorem dX9_undo_36 : decode cX9_undo 36 = .ok (.aload_n 0, 1) := by decide +kernel
theorem dX9_undo_37 : decode cX9_undo 37 = .ok (.invokevirtual 111, 3) := by decide +kernel
theorem dX9_undo_40 : decode cX9_undo 40 = .ok (.aload_n 0, 1) := by decide +kernel
theorem dX9_undo_41 : decode cX9_undo 41 = .ok (.getfield 35, 3) := by decide +kernel
theorem dX9_undo_44 : decode cX9_undo 44 = .ok (.invokevirtual 333, 3) := by decide +kernel
theorem dX9_undo_47 : decode cX9_undo 47 = .ok (.ireturn, 1) := by decide +kernel
theorem dX9_snapshot_0 : decode cX9_snapshot 0 = .ok (.aload_n 0, 1) := by decide +kernel
theorem dX9_snapshot_1 : decode cX9_snapshot 1 = .ok (.getfield 19, 3) := by decide +kernel
theorem dX9_snapshot_4 : decode cX9_snapshot 4 = .ok (.ifnonnull 14, 3) := by decide +kernel
theorem dX9_snapshot_7 : decode cX9_snapshot 7 = .ok (.aload_n 0, 1) := by decide +kernel
theorem dX9_snapshot_8 : decode cX9_snapshot 8 = .ok (.new 9, 3) := by decide +kernel
theorem dX9_snapshot_11 : decode cX9_snapshot 11 = .ok (.dup, 1) := by decide +kernel
theorem dX9_snapshot_12 : decode cX9_snapshot 12 = .ok (.invokespecial 11, 3) := by decide +kernel
theorem dX9_snapshot_15 : decode cX9_snapshot 15 = .ok (.putfield 19, 3) := by decide +kernel
theorem dX9_snapshot_18 : decode cX9_snapshot 18 = .ok (.aload_n 0, 1) := by decide +kernel
theorem dX9_snapshot_19 : decode cX9_snapshot 19 = .ok (.getfield 19, 3) := by decide +kernel
theorem dX9_snapshot_22 : decode cX9_snapshot 22 = .ok (.aload_n 0, 1) := by decide +kernel
theorem dX9_snapshot_23 : decode cX9_snapshot 23 = .ok (.getfield 12, 3) := by decide +kernel
theorem dX9_snapshot_26 : decode cX9_snapshot 26 = .ok (.invokevirtual 165, 3) := by decide +kernel
theorem dX9_snapshot_29 : decode cX9_snapshot 29 = .ok (.aload_n 0, 1) := by decide +kernel
theorem dX9_snapshot_30 : decode cX9_snapshot 30 = .ok (.getfield 19, 3) := by decide +kernel
theorem dX9_snapshot_33 : decode cX9_snapshot 33 = .ok (.invokevirtual 97, 3) := by decide +kernel
theorem dX9_snapshot_36 : decode cX9_snapshot 36 = .ok (.ireturn, 1) := by decide +kernel
theorem dX9_restore_0 : decode cX9_restore 0 = .ok (.aload_n 0, 1) := by decide +kernel
theorem dX9_restore_1 : decode cX9_restore 1 = .ok (.getfield 19, 3) := by decide +kernel
theorem dX9_restore_4 : decode cX9_restore 4 = .ok (.ifnonnull 14, 3) := by decide +kernel
theorem dX9_restore_7 : decode cX9_restore 7 = .ok (.new 125, 3) := by decide +kernel
theorem dX9_restore_10 : decode cX9_restore 10 = .ok (.dup, 1) := by decide +kernel
theorem dX9_restore_11 : decode cX9_restore 11 = .ok (.ldc_w 399, 3) := by decide +kernel
theorem dX9_restore_14 : decode cX9_restore 14 = .ok (.invokespecial 129, 3) := by decide +kernel
theorem dX9_restore_17 : decode cX9_restore 17 = .ok (.athrow, 1) := by decide +kernel
theorem dX9_restore_18 : decode cX9_restore 18 = .ok (.aload_n 0, 1) := by decide +kernel
theorem dX9_restore_19 : decode cX9_restore 19 = .ok (.getfield 12, 3) := by decide +kernel
theorem dX9_restore_22 : decode cX9_restore 22 = .ok (.aload_n 0, 1) := by decide +kernel
theorem dX9_restore_23 : decode cX9_restore 23 = .ok (.getfield 19, 3) := by decide +kernel
theorem dX9_restore_26 : decode cX9_restore 26 = .ok (.invokevirtual 165, 3) := by decide +kernel
theorem dX9_restore_29 : decode cX9_restore 29 = .ok (.aload_n 0, 1) := by decide +kernel
theorem dX9_restore_30 : decode cX9_restore 30 = .ok (.getfield 35, 3) := by decide +kernel
theorem dX9_restore_33 : decode cX9_restore 33 = .ok (.invokevirtual 104, 3) := by decide +kernel
theorem dX9_restore_36 : decode cX9_restore 36 = .ok (.aload_n 0, 1) := by decide +kernel
theorem dX9_restore_37 : decode cX9_restore 37 = .ok (.invokevirtual 111, 3) := by decide +kernel
theorem dX9_restore_40 : decode cX9_restore 40 = .ok (.aload_n 0, 1) := by decide +kernel
theorem dX9_restore_41 : decode cX9_restore 41 = .ok (.getfield 12, 3) := by decide +kernel
theorem dX9_restore_44 : decode cX9_restore 44 = .ok (.invokevirtual 97, 3) := by decide +kernel
theorem dX9_restore_47 : decode cX9_restore 47 = .ok (.ireturn, 1) := by decide +kernel
theorem dX9_needItem_0 : decode cX9_needItem 0 = .ok (.aload_n 0, 1) := by decide +kernel
theorem dX9_needItem_1 : decode cX9_needItem 1 = .ok (.getfield 12, 3) := by decide +kernel
theorem dX9_needItem_4 : decode cX9_needItem 4 = .ok (.iload_n 1, 1) := by decide +kernel
theorem dX9_needItem_5 : decode cX9_needItem 5 = .ok (.invokevirtual 401, 3) := by decide +kernel
theorem dX9_needItem_8 : decode cX9_needItem 8 = .ok (.ifCond .ne 14, 3) := by decide +kernel
theorem dX9_needItem_11 : decode cX9_needItem 11 = .ok (.new 404, 3) := by decide +kernel
theorem dX9_needItem_14 : decode cX9_needItem 14 = .ok (.dup, 1) := by decide +kernel
theorem dX9_needItem_15 : decode cX9_needItem 15 = .ok (.ldc_w 406, 3) := by decide +kernel
theorem dX9_needItem_18 : decode cX9_needItem 18 = .ok (.invokespecial 408, 3) := by decide +kernel
theorem dX9_needItem_21 : decode cX9_needItem 21 = .ok (.athrow, 1) := by decide +kernel
theorem dX9_needItem_22 : decode cX9_needItem 22 = .ok (.return_, 1) := by decide +kernel
theorem dX9_needNamedItem_0 : decode cX9_needNamedItem 0 = .ok (.iload_n 1, 1) := by decide +kernel
theorem dX9_needNamedItem_1 : decode cX9_needNamedItem 1 = .ok (.ifCond .eq 14, 3) := by decide +kernel
theorem dX9_needNamedItem_4 : decode cX9_needNamedItem 4 = .ok (.aload_n 0, 1) := by decide +kernel
theorem dX9_needNamedItem_5 : decode cX9_needNamedItem 5 = .ok (.getfield 12, 3) := by decide +kernel
theorem dX9_needNamedItem_8 : decode cX9_needNamedItem 8 = .ok (.iload_n 1, 1) := by decide +kernel
theorem dX9_needNamedItem_9 : decode cX9_needNamedItem 9 = .ok (.invokevirtual 401, 3) := by decide +kernel
theorem dX9_needNamedItem_12 : decode cX9_needNamedItem 12 = .ok (.ifCond .ne 14, 3) := by decide +kernel
theorem dX9_needNamedItem_15 : decode cX9_needNamedItem 15 = .ok (.new 404, 3) := by decide +kernel
theorem dX9_needNamedItem_18 : decode cX9_needNamedItem 18 = .ok (.dup, 1) := by decide +kernel
theorem dX9_needNamedItem_19 : decode cX9_needNamedItem 19 = .ok (.ldc_w 409, 3) := by decide +kernel
theorem dX9_needNamedItem_22 : decode cX9_needNamedItem 22 = .ok (.invokespecial 408, 3) := by decide +kernel
theorem dX9_needNamedItem_25 : decode cX9_needNamedItem 25 = .ok (.athrow, 1) := by decide +kernel
theorem dX9_needNamedItem_26 : decode cX9_needNamedItem 26 = .ok (.return_, 1) := by decide +kernel
theorem dX9_needIndex_0 : decode cX9_needIndex 0 = .ok (.iload_n 1, 1) := by decide +kernel
theorem dX9_needIndex_1 : decode cX9_needIndex 1 = .ok (.ifCond .lt 8, 3) := by decide +kernel
theorem dX9_needIndex_4 : decode cX9_needIndex 4 = .ok (.iload_n 1, 1) := by decide +kernel
theorem dX9_needIndex_5 : decode cX9_needIndex 5 = .ok (.iload_n 2, 1) := by decide +kernel
theorem dX9_needIndex_6 : decode cX9_needIndex 6 = .ok (.if_icmp .lt 14, 3) := by decide +kernel
theorem dX9_needIndex_9 : decode cX9_needIndex 9 = .ok (.new 206, 3) := by decide +kernel
theorem dX9_needIndex_12 : decode cX9_needIndex 12 = .ok (.dup, 1) := by decide +kernel
theorem dX9_needIndex_13 : decode cX9_needIndex 13 = .ok (.ldc_w 411, 3) := by decide +kernel
theorem dX9_needIndex_16 : decode cX9_needIndex 16 = .ok (.invokespecial 210, 3) := by decide +kernel
theorem dX9_needIndex_19 : decode cX9_needIndex 19 = .ok (.athrow, 1) := by decide +kernel
theorem dX9_needIndex_20 : decode cX9_needIndex 20 = .ok (.return_, 1) := by decide +kernel
theorem dX9_needGap_0 : decode cX9_needGap 0 = .ok (.iload_n 1, 1) := by decide +kernel
theorem dX9_needGap_1 : decode cX9_needGap 1 = .ok (.ifCond .lt 8, 3) := by decide +kernel
theorem dX9_needGap_4 : decode cX9_needGap 4 = .ok (.iload_n 1, 1) := by decide +kernel
theorem dX9_needGap_5 : decode cX9_needGap 5 = .ok (.iload_n 2, 1) := by decide +kernel
theorem dX9_needGap_6 : decode cX9_needGap 6 = .ok (.if_icmp .le 14, 3) := by decide +kernel
theorem dX9_needGap_9 : decode cX9_needGap 9 = .ok (.new 206, 3) := by decide +kernel
theorem dX9_needGap_12 : decode cX9_needGap 12 = .ok (.dup, 1) := by decide +kernel
theorem dX9_needGap_13 : decode cX9_needGap 13 = .ok (.ldc_w 413, 3) := by decide +kernel
theorem dX9_needGap_16 : decode cX9_needGap 16 = .ok (.invokespecial 210, 3) := by decide +kernel
theorem dX9_needGap_19 : decode cX9_needGap 19 = .ok (.athrow, 1) := by decide +kernel
theorem dX9_needGap_20 : decode cX9_needGap 20 = .ok (.return_, 1) := by decide +kernel
theorem dX9_needLine_0 : decode cX9_needLine 0 = .ok (.iload_n 1, 1) := by decide +kernel
theorem dX9_needLine_1 : decode cX9_needLine 1 = .ok (.ifCond .lt 8, 3) := by decide +kernel
theorem dX9_needLine_4 : decode cX9_needLine 4 = .ok (.iload_n 1, 1) := by decide +kernel
theorem dX9_needLine_5 : decode cX9_needLine 5 = .ok (.iload_n 2, 1) := by decide +kernel
theorem dX9_needLine_6 : decode cX9_needLine 6 = .ok (.if_icmp .lt 14, 3) := by decide +kernel
theorem dX9_needLine_9 : decode cX9_needLine 9 = .ok (.new 404, 3) := by decide +kernel
theorem dX9_needLine_12 : decode cX9_needLine 12 = .ok (.dup, 1) := by decide +kernel
theorem dX9_needLine_13 : decode cX9_needLine 13 = .ok (.ldc_w 415, 3) := by decide +kernel
theorem dX9_needLine_16 : decode cX9_needLine 16 = .ok (.invokespecial 408, 3) := by decide +kernel
theorem dX9_needLine_19 : decode cX9_needLine 19 = .ok (.athrow, 1) := by decide +kernel
theorem dX9_needLine_20 : decode cX9_needLine 20 = .ok (.return_, 1) := by decide +kernel
theorem dX9_failText_0 : decode cX9_failText 0 = .ok (.aload_n 0, 1) := by decide +kernel
theorem dX9_failText_1 : decode cX9_failText 1 = .ok (.aload_n 0, 1) := by decide +kernel
theorem dX9_failText_2 : decode cX9_failText 2 = .ok (.getfield 66, 3) := by decide +kernel
theorem dX9_failText_5 : decode cX9_failText 5 = .ok (.invokevirtual 417, 3) := by decide +kernel
theorem dX9_failText_8 : decode cX9_failText 8 = .ok (.putfield 93, 3) := by decide +kernel
theorem dX9_failText_11 : decode cX9_failText 11 = .ok (.aload_n 0, 1) := by decide +kernel
theorem dX9_failText_12 : decode cX9_failText 12 = .ok (.getfield 66, 3) := by decide +kernel
theorem dX9_failText_15 : decode cX9_failText 15 = .ok (.invokevirtual 354, 3) := by decide +kernel
theorem dX9_failText_18 : decode cX9_failText 18 = .ok (.new 114, 3) := by decide +kernel
theorem dX9_failText_21 : decode cX9_failText 21 = .ok (.dup, 1) := by decide +kernel
theorem dX9_failText_22 : decode cX9_failText 22 = .ok (.ldc_w 420, 3) := by decide +kernel
theorem dX9_failText_25 : decode cX9_failText 25 = .ok (.invokespecial 118, 3) := by decide +kernel
theorem dX9_failText_28 : decode cX9_failText 28 = .ok (.athrow, 1) := by decide +kernel
theorem dX9_adoptDraft_0 : decode cX9_adoptDraft 0 = .ok (.aload_n 0, 1) := by decide +kernel
theorem dX9_adoptDraft_1 : decode cX9_adoptDraft 1 = .ok (.getfield 35, 3) := by decide +kernel
theorem dX9_adoptDraft_4 : decode cX9_adoptDraft 4 = .ok (.aload_n 0, 1) := by decide +kernel
theorem dX9_adoptDraft_5 : decode cX9_adoptDraft 5 = .ok (.getfield 12, 3) := by decide +kernel
theorem dX9_adoptDraft_8 : decode cX9_adoptDraft 8 = .ok (.invokevirtual 422, 3) := by decide +kernel
theorem dX9_adoptDraft_11 : decode cX9_adoptDraft 11 = .ok (.astore_n 1, 1) := by decide +kernel
theorem dX9_adoptDraft_12 : decode cX9_adoptDraft 12 = .ok (.aload_n 0, 1) := by decide +kernel
theorem dX9_adoptDraft_13 : decode cX9_adoptDraft 13 = .ok (.aload_n 0, 1) := by decide +kernel
theorem dX9_adoptDraft_14 : decode cX9_adoptDraft 14 = .ok (.getfield 16, 3) := by decide +kernel
theorem dX9_adoptDraft_17 : decode cX9_adoptDraft 17 = .ok (.putfield 12, 3) := by decide +kernel
theorem dX9_adoptDraft_20 : decode cX9_adoptDraft 20 = .ok (.aload_n 0, 1) := by decide +kernel
theorem dX9_adoptDraft_21 : decode cX9_adoptDraft 21 = .ok (.aload_n 1, 1) := by decide +kernel
theorem dX9_adoptDraft_22 : decode cX9_adoptDraft 22 = .ok (.putfield 16, 3) := by decide +kernel
theorem dX9_adoptDraft_25 : decode cX9_adoptDraft 25 = .ok (.aload_n 0, 1) := by decide +kernel
theorem dX9_adoptDraft_26 : decode cX9_adoptDraft 26 = .ok (.invokevirtual 111, 3) := by decide +kernel
theorem dX9_adoptDraft_29 : decode cX9_adoptDraft 29 = .ok (.return_, 1) := by decide +kernel
theorem dX9_settle_0 : decode cX9_settle 0 = .ok (.aload_n 0, 1) := by decide +kernel
theorem dX9_settle_1 : decode cX9_settle 1 = .ok (.getfield 25, 3) := by decide +kernel
theorem dX9_settle_4 : decode cX9_settle 4 = .ok (.aload_n 0, 1) := by decide +kernel
theorem dX9_settle_5 : decode cX9_settle 5 = .ok (.getfield 12, 3) := by decide +kernel
theorem dX9_settle_8 : decode cX9_settle 8 = .ok (.invokevirtual 195, 3) := by decide +kernel
theorem dX9_settle_11 : decode cX9_settle 11 = .ok (.aload_n 0, 1) := by decide +kernel
theorem dX9_settle_12 : decode cX9_settle 12 = .ok (.getfield 42, 3) := by decide +kernel
theorem dX9_settle_15 : decode cX9_settle 15 = .ok (.aload_n 0, 1) := by decide +kernel
theorem dX9_settle_16 : decode cX9_settle 16 = .ok (.getfield 12, 3) := by decide +kernel
theorem dX9_settle_19 : decode cX9_settle 19 = .ok (.invokevirtual 379, 3) := by decide +kernel
theorem dX9_settle_22 : decode cX9_settle 22 = .ok (.invokevirtual 424, 3) := by decide +kernel
theorem dX9_settle_25 : decode cX9_settle 25 = .ok (.return_, 1) := by decide +kernel
theorem dX9_takeName_0 : decode cX9_takeName 0 = .ok (.aload_n 0, 1) := by decide +kernel
theorem dX9_takeName_1 : decode cX9_takeName 1 = .ok (.getfield 66, 3) := by decide +kernel
theorem dX9_takeName_4 : decode cX9_takeName 4 = .ok (.invokevirtual 428, 3) := by decide +kernel
theorem dX9_takeName_7 : decode cX9_takeName 7 = .ok (.aload_n 0, 1) := by decide +kernel
theorem dX9_takeName_8 : decode cX9_takeName 8 = .ok (.getfield 66, 3) := by decide +kernel
theorem dX9_takeName_11 : decode cX9_takeName 11 = .ok (.aload_n 0, 1) := by decide +kernel
theorem dX9_takeName_12 : decode cX9_takeName 12 = .ok (.getfield 84, 3) := by decide +kernel
theorem dX9_takeName_15 : decode cX9_takeName 15 = .ok (.iconst 0, 1) := by decide +kernel
theorem dX9_takeName_16 : decode cX9_takeName 16 = .ok (.invokevirtual 431, 3) := by decide +kernel
theorem dX9_takeName_19 : decode cX9_takeName 19 = .ok (.istore_n 1, 1) := by decide +kernel
theorem dX9_takeName_20 : decode cX9_takeName 20 = .ok (.iload_n 1, 1) := by decide +kernel
theorem dX9_takeName_21 : decode cX9_takeName 21 = .ok (.ifCond .eq 13, 3) := by decide +kernel
theorem dX9_takeName_24 : decode cX9_takeName 24 = .ok (.aload_n 0, 1) := by decide +kernel
theorem dX9_takeName_25 : decode cX9_takeName 25 = .ok (.getfield 66, 3) := by decide +kernel
theorem dX9_takeName_28 : decode cX9_takeName 28 = .ok (.invokevirtual 435, 3) := by decide +kernel
theorem dX9_takeName_31 : decode cX9_takeName 31 = .ok (.ifCond .ne 7, 3) := by decide +kernel
theorem dX9_takeName_34 : decode cX9_takeName 34 = .ok (.aload_n 0, 1) := by decide +kernel
theorem dX9_takeName_35 : decode cX9_takeName 35 = .ok (.invokevirtual 351, 3) := by decide +kernel
theorem dX9_takeName_38 : decode cX9_takeName 38 = .ok (.aload_n 0, 1) := by decide +kernel
theorem dX9_takeName_39 : decode cX9_takeName 39 = .ok (.getfield 66, 3) := by decide +kernel
theorem dX9_takeName_42 : decode cX9_takeName 42 = .ok (.invokevirtual 354, 3) := by decide +kernel
theorem dX9_takeName_45 : decode cX9_takeName 45 = .ok (.iload_n 1, 1) := by decide +kernel
theorem dX9_takeName_46 : decode cX9_takeName 46 = .ok (.ireturn, 1) := by decide +kernel
theorem dX9_takeBlock_0 : decode cX9_takeBlock 0 = .ok (.iconst 0, 1) := by decide +kernel
theorem dX9_takeBlock_1 : decode cX9_takeBlock 1 = .ok (.istore 4, 2) := by decide +kernel
theorem dX9_takeBlock_3 : decode cX9_takeBlock 3 = .ok (.iload 4, 2) := by decide +kernel
theorem dX9_takeBlock_5 : decode cX9_takeBlock 5 = .ok (.iload_n 3, 1) := by decide +kernel
theorem dX9_takeBlock_6 : decode cX9_takeBlock 6 = .ok (.if_icmp .ge 34, 3) := by decide +kernel
theorem dX9_takeBlock_9 : decode cX9_takeBlock 9 = .ok (.aload_n 0, 1) := by decide +kernel
theorem dX9_takeBlock_10 : decode cX9_takeBlock 10 = .ok (.getfield 88, 3) := by decide +kernel
theorem dX9_takeBlock_13 : decode cX9_takeBlock 13 = .ok (.iload 4, 2) := by decide +kernel
theorem dX9_takeBlock_15 : decode cX9_takeBlock 15 = .ok (.aload_n 0, 1) := by decide +kernel
theorem dX9_takeBlock_16 : decode cX9_takeBlock 16 = .ok (.getfield 16, 3) := by decide +kernel
theorem dX9_takeBlock_19 : decode cX9_takeBlock 19 = .ok (.iload_n 1, 1) := by decide +kernel
theorem dX9_takeBlock_20 : decode cX9_takeBlock 20 = .ok (.iload_n 2, 1) := by decide +kernel
theorem dX9_takeBlock_21 : decode cX9_takeBlock 21 = .ok (.invokevirtual 232, 3) := by decide +kernel
theorem dX9_takeBlock_24 : decode cX9_takeBlock 24 = .ok (.iastore, 1) := by decide +kernel
theorem dX9_takeBlock_25 : decode cX9_takeBlock 25 = .ok (.aload_n 0, 1) := by decide +kernel
theorem dX9_takeBlock_26 : decode cX9_takeBlock 26 = .ok (.getfield 16, 3) := by decide +kernel
theorem dX9_takeBlock_29 : decode cX9_takeBlock 29 = .ok (.iload_n 1, 1) := by decide +kernel
theorem dX9_takeBlock_30 : decode cX9_takeBlock 30 = .ok (.iload_n 2, 1) := by decide +kernel
theorem dX9_takeBlock_31 : decode cX9_takeBlock 31 = .ok (.invokevirtual 192, 3) := by decide +kernel
theorem dX9_takeBlock_34 : decode cX9_takeBlock 34 = .ok (.iinc 4 1, 3) := by decide +kernel
theorem dX9_takeBlock_37 : decode cX9_takeBlock 37 = .ok (.goto (-34), 3) := by decide +kernel
theorem dX9_takeBlock_40 : decode cX9_takeBlock 40 = .ok (.return_, 1) := by decide +kernel
theorem dX9_putBlock_0 : decode cX9_putBlock 0 = .ok (.iconst 0, 1) := by decide +kernel
theorem dX9_putBlock_1 : decode cX9_putBlock 1 = .ok (.istore 5, 2) := by decide +kernel
theorem dX9_putBlock_3 : decode cX9_putBlock 3 = .ok (.iload 5, 2) := by decide +kernel
theorem dX9_putBlock_5 : decode cX9_putBlock 5 = .ok (.iload_n 2, 1) := by decide +kernel
theorem dX9_putBlock_6 : decode cX9_putBlock 6 = .ok (.if_icmp .ge 80, 3) := by decide +kernel
theorem dX9_putBlock_9 : decode cX9_putBlock 9 = .ok (.aload_n 0, 1) := by decide +kernel
theorem dX9_putBlock_10 : decode cX9_putBlock 10 = .ok (.getfield 29, 3) := by decide +kernel
theorem dX9_putBlock_13 : decode cX9_putBlock 13 = .ok (.aload_n 0, 1) := by decide +kernel
theorem dX9_putBlock_14 : decode cX9_putBlock 14 = .ok (.getfield 16, 3) := by decide +kernel
theorem dX9_putBlock_17 : decode cX9_putBlock 17 = .ok (.invokevirtual 195, 3) := by decide +kernel
theorem dX9_putBlock_20 : decode cX9_putBlock 20 = .ok (.aload_n 0, 1) := by decide +kernel
theorem dX9_putBlock_21 : decode cX9_putBlock 21 = .ok (.getfield 29, 3) := by decide +kernel
theorem dX9_putBlock_24 : decode cX9_putBlock 24 = .ok (.aload_n 0, 1) := by decide +kernel
theorem dX9_putBlock_25 : decode cX9_putBlock 25 = .ok (.getfield 16, 3) := by decide +kernel
theorem dX9_putBlock_28 : decode cX9_putBlock 28 = .ok (.aload_n 0, 1) := by decide +kernel
theorem dX9_putBlock_29 : decode cX9_putBlock 29 = .ok (.getfield 88, 3) := by decide +kernel
theorem dX9_putBlock_32 : decode cX9_putBlock 32 = .ok (.iload 5, 2) := by decide +kernel
theorem dX9_putBlock_34 : decode cX9_putBlock 34 = .ok (.iaload, 1) := by decide +kernel
theorem dX9_putBlock_35 : decode cX9_putBlock 35 = .ok (.iload_n 3, 1) := by decide +kernel
theorem dX9_putBlock_36 : decode cX9_putBlock 36 = .ok (.invokevirtual 182, 3) := by decide +kernel
theorem dX9_putBlock_39 : decode cX9_putBlock 39 = .ok (.istore 6, 2) := by decide +kernel
theorem dX9_putBlock_41 : decode cX9_putBlock 41 = .ok (.iload 6, 2) := by decide +kernel
theorem dX9_putBlock_43 : decode cX9_putBlock 43 = .ok (.ifCond .eq 17, 3) := by decide +kernel
theorem dX9_putBlock_46 : decode cX9_putBlock 46 = .ok (.aload_n 0, 1) := by decide +kernel
theorem dX9_putBlock_47 : decode cX9_putBlock 47 = .ok (.getfield 80, 3) := by decide +kernel
theorem dX9_putBlock_50 : decode cX9_putBlock 50 = .ok (.iload_n 1, 1) := by decide +kernel
theorem dX9_putBlock_51 : decode cX9_putBlock 51 = .ok (.iload 5, 2) := by decide +kernel
theorem dX9_putBlock_53 : decode cX9_putBlock 53 = .ok (.iload 6, 2) := by decide +kernel
theorem dX9_putBlock_55 : decode cX9_putBlock 55 = .ok (.invokevirtual 156, 3) := by decide +kernel
theorem dX9_putBlock_58 : decode cX9_putBlock 58 = .ok (.iconst 0, 1) := by decide +kernel
theorem dX9_putBlock_59 : decode cX9_putBlock 59 = .ok (.ireturn, 1) := by decide +kernel
theorem dX9_putBlock_60 : decode cX9_putBlock 60 = .ok (.aload_n 0, 1) := by decide +kernel
theorem dX9_putBlock_61 : decode cX9_putBlock 61 = .ok (.getfield 16, 3) := by decide +kernel
theorem dX9_putBlock_64 : decode cX9_putBlock 64 = .ok (.iload_n 3, 1) := by decide +kernel
theorem dX9_putBlock_65 : decode cX9_putBlock 65 = .ok (.iload 4, 2) := by decide +kernel
theorem dX9_putBlock_67 : decode cX9_putBlock 67 = .ok (.iload 5, 2) := by decide +kernel
theorem dX9_putBlock_69 : decode cX9_putBlock 69 = .ok (.iadd, 1) := by decide +kernel
theorem dX9_putBlock_70 : decode cX9_putBlock 70 = .ok (.aload_n 0, 1) := by decide +kernel
theorem dX9_putBlock_71 : decode cX9_putBlock 71 = .ok (.getfield 88, 3) := by decide +kernel
theorem dX9_putBlock_74 : decode cX9_putBlock 74 = .ok (.iload 5, 2) := by decide +kernel
theorem dX9_putBlock_76 : decode cX9_putBlock 76 = .ok (.iaload, 1) := by decide +kernel
theorem dX9_putBlock_77 : decode cX9_putBlock 77 = .ok (.invokevirtual 173, 3) := by decide +kernel
theorem dX9_putBlock_80 : decode cX9_putBlock 80 = .ok (.iinc 5 1, 3) := by decide +kernel
theorem dX9_putBlock_83 : decode cX9_putBlock 83 = .ok (.goto (-80), 3) := by decide +kernel
theorem dX9_putBlock_86 : decode cX9_putBlock 86 = .ok (.iconst 1, 1) := by decide +kernel
theorem dX9_putBlock_87 : decode cX9_putBlock 87 = .ok (.ireturn, 1) := by decide +kernel
theorem dX9_putEntries_0 : decode cX9_putEntries 0 = .ok (.iconst 0, 1) := by decide +kernel
theorem dX9_putEntries_1 : decode cX9_putEntries 1 = .ok (.istore_n 2, 1) := by decide +kernel
theorem dX9_putEntries_2 : decode cX9_putEntries 2 = .ok (.iload_n 2, 1) := by decide +kernel
theorem dX9_putEntries_3 : decode cX9_putEntries 3 = .ok (.aload_n 0, 1) := by decide +kernel
theorem dX9_putEntries_4 : decode cX9_putEntries 4 = .ok (.getfield 73, 3) := by decide +kernel
theorem dX9_putEntries_7 : decode cX9_putEntries 7 = .ok (.invokevirtual 366, 3) := by decide +kernel
theorem dX9_putEntries_10 : decode cX9_putEntries 10 = .ok (.if_icmp .ge 125, 3) := by decide +kernel
theorem dX9_putEntries_13 : decode cX9_putEntries 13 = .ok (.aload_n 0, 1) := by decide +kernel
theorem dX9_putEntries_14 : decode cX9_putEntries 14 = .ok (.getfield 73, 3) := by decide +kernel
theorem dX9_putEntries_17 : decode cX9_putEntries 17 = .ok (.iload_n 2, 1) := by decide +kernel
theorem dX9_putEntries_18 : decode cX9_putEntries 18 = .ok (.iload_n 1, 1) := by decide +kernel
theorem dX9_putEntries_19 : decode cX9_putEntries 19 = .ok (.invokevirtual 438, 3) := by decide +kernel
theorem dX9_putEntries_22 : decode cX9_putEntries 22 = .ok (.istore_n 3, 1) := by decide +kernel
theorem dX9_putEntries_23 : decode cX9_putEntries 23 = .ok (.aload_n 0, 1) := by decide +kernel
theorem dX9_putEntries_24 : decode cX9_putEntries 24 = .ok (.getfield 29, 3) := by decide +kernel
theorem dX9_putEntries_27 : decode cX9_putEntries 27 = .ok (.aload_n 0, 1) := by decide +kernel
theorem dX9_putEntries_28 : decode cX9_putEntries 28 = .ok (.getfield 16, 3) := by decide +kernel
theorem dX9_putEntries_31 : decode cX9_putEntries 31 = .ok (.invokevirtual 195, 3) := by decide +kernel
theorem dX9_putEntries_34 : decode cX9_putEntries 34 = .ok (.aload_n 0, 1) := by decide +kernel
theorem dX9_putEntries_35 : decode cX9_putEntries 35 = .ok (.getfield 73, 3) := by decide +kernel
theorem dX9_putEntries_38 : decode cX9_putEntries 38 = .ok (.iload_n 2, 1) := by decide +kernel
theorem dX9_putEntries_39 : decode cX9_putEntries 39 = .ok (.invokevirtual 441, 3) := by decide +kernel
theorem dX9_putEntries_42 : decode cX9_putEntries 42 = .ok (.ifCond .eq 26, 3) := by decide +kernel
theorem dX9_putEntries_45 : decode cX9_putEntries 45 = .ok (.aload_n 0, 1) := by decide +kernel
theorem dX9_putEntries_46 : decode cX9_putEntries 46 = .ok (.getfield 29, 3) := by decide +kernel
theorem dX9_putEntries_49 : decode cX9_putEntries 49 = .ok (.aload_n 0, 1) := by decide +kernel
theorem dX9_putEntries_50 : decode cX9_putEntries 50 = .ok (.getfield 16, 3) := by decide +kernel
theorem dX9_putEntries_53 : decode cX9_putEntries 53 = .ok (.aload_n 0, 1) := by decide +kernel
theorem dX9_putEntries_54 : decode cX9_putEntries 54 = .ok (.getfield 73, 3) := by decide +kernel
theorem dX9_putEntries_57 : decode cX9_putEntries 57 = .ok (.iload_n 2, 1) := by decide +kernel
theorem dX9_putEntries_58 : decode cX9_putEntries 58 = .ok (.invokevirtual 444, 3) := by decide +kernel
theorem dX9_putEntries_61 : decode cX9_putEntries 61 = .ok (.iload_n 3, 1) := by decide +kernel
theorem dX9_putEntries_62 : decode cX9_putEntries 62 = .ok (.invokevirtual 182, 3) := by decide +kernel
theorem dX9_putEntries_65 : decode cX9_putEntries 65 = .ok (.goto 15, 3) := by decide +kernel
theorem dX9_putEntries_68 : decode cX9_putEntries 68 = .ok (.aload_n 0, 1) := by decide +kernel
theorem dX9_putEntries_69 : decode cX9_putEntries 69 = .ok (.getfield 29, 3) := by decide +kernel
theorem dX9_putEntries_72 : decode cX9_putEntries 72 = .ok (.aload_n 0, 1) := by decide +kernel
theorem dX9_putEntries_73 : decode cX9_putEntries 73 = .ok (.getfield 16, 3) := by decide +kernel
theorem dX9_putEntries_76 : decode cX9_putEntries 76 = .ok (.iload_n 3, 1) := by decide +kernel
theorem dX9_putEntries_77 : decode cX9_putEntries 77 = .ok (.invokevirtual 152, 3) := by decide +kernel
theorem dX9_putEntries_80 : decode cX9_putEntries 80 = .ok (.istore 4, 2) := by decide +kernel
theorem dX9_putEntries_82 : decode cX9_putEntries 82 = .ok (.iload 4, 2) := by decide +kernel
theorem dX9_putEntries_84 : decode cX9_putEntries 84 = .ok (.ifCond .eq 17, 3) := by decide +kernel
theorem dX9_putEntries_87 : decode cX9_putEntries 87 = .ok (.aload_n 0, 1) := by decide +kernel
theorem dX9_putEntries_88 : decode cX9_putEntries 88 = .ok (.getfield 80, 3) := by decide +kernel
theorem dX9_putEntries_91 : decode cX9_putEntries 91 = .ok (.bipush 60, 2) := by decide +kernel
theorem dX9_putEntries_93 : decode cX9_putEntries 93 = .ok (.iload_n 2, 1) := by decide +kernel
theorem dX9_putEntries_94 : decode cX9_putEntries 94 = .ok (.iload 4, 2) := by decide +kernel
theorem dX9_putEntries_96 : decode cX9_putEntries 96 = .ok (.invokevirtual 156, 3) := by decide +kernel
theorem dX9_putEntries_99 : decode cX9_putEntries 99 = .ok (.iconst 0, 1) := by decide +kernel
theorem dX9_putEntries_100 : decode cX9_putEntries 100 = .ok (.ireturn, 1) := by decide +kernel
theorem dX9_putEntries_101 : decode cX9_putEntries 101 = .ok (.aload_n 0, 1) := by decide +kernel
theorem dX9_putEntries_102 : decode cX9_putEntries 102 = .ok (.getfield 16, 3) := by decide +kernel
theorem dX9_putEntries_105 : decode cX9_putEntries 105 = .ok (.iload_n 3, 1) := by decide +kernel
theorem dX9_putEntries_106 : decode cX9_putEntries 106 = .ok (.aload_n 0, 1) := by decide +kernel
theorem dX9_putEntries_107 : decode cX9_putEntries 107 = .ok (.getfield 16, 3) := by decide +kernel
theorem dX9_putEntries_110 : decode cX9_putEntries 110 = .ok (.iload_n 3, 1) := by decide +kernel
theorem dX9_putEntries_111 : decode cX9_putEntries 111 = .ok (.invokevirtual 141, 3) := by decide +kernel
theorem dX9_putEntries_114 : decode cX9_putEntries 114 = .ok (.aload_n 0, 1) := by decide +kernel
theorem dX9_putEntries_115 : decode cX9_putEntries 115 = .ok (.getfield 73, 3) := by decide +kernel
theorem dX9_putEntries_118 : decode cX9_putEntries 118 = .ok (.aload_n 0, 1) := by decide +kernel
theorem dX9_putEntries_119 : decode cX9_putEntries 119 = .ok (.getfield 16, 3) := by decide +kernel
theorem dX9_putEntries_122 : decode cX9_putEntries 122 = .ok (.iload_n 2, 1) := by decide +kernel
theorem dX9_putEntries_123 : decode cX9_putEntries 123 = .ok (.invokevirtual 447, 3) := by decide +kernel
theorem dX9_putEntries_126 : decode cX9_putEntries 126 = .ok (.invokevirtual 173, 3) := by decide +kernel
theorem dX9_putEntries_129 : decode cX9_putEntries 129 = .ok (.iinc 2 1, 3) := by decide +kernel
theorem dX9_putEntries_132 : decode cX9_putEntries 132 = .ok (.goto (-130), 3) := by decide +kernel
theorem dX9_putEntries_135 : decode cX9_putEntries 135 = .ok (.iconst 1, 1) := by decide +kernel
theorem dX9_putEntries_136 : decode cX9_putEntries 136 = .ok (.ireturn, 1) := by decide +kernel
theorem dX9_countLeaves_0 : decode cX9_countLeaves 0 = .ok (.aload_n 0, 1) := by decide +kernel
theorem dX9_countLeaves_1 : decode cX9_countLeaves 1 = .ok (.getfield 25, 3) := by decide +kernel
theorem dX9_countLeaves_4 : decode cX9_countLeaves 4 = .ok (.iload_n 1, 1) := by decide +kernel
theorem dX9_countLeaves_5 : decode cX9_countLeaves 5 = .ok (.invokevirtual 198, 3) := by decide +kernel
theorem dX9_countLeaves_8 : decode cX9_countLeaves 8 = .ok (.aload_n 0, 1) := by decide +kernel
theorem dX9_countLeaves_9 : decode cX9_countLeaves 9 = .ok (.getfield 12, 3) := by decide +kernel
theorem dX9_countLeaves_12 : decode cX9_countLeaves 12 = .ok (.invokevirtual 450, 3) := by decide +kernel
theorem dX9_countLeaves_15 : decode cX9_countLeaves 15 = .ok (.land, 1) := by decide +kernel
theorem dX9_countLeaves_16 : decode cX9_countLeaves 16 = .ok (.invokestatic 289, 3) := by decide +kernel
theorem dX9_countLeaves_19 : decode cX9_countLeaves 19 = .ok (.ireturn, 1) := by decide +kernel
theorem dX9_countDoneLeaves_0 : decode cX9_countDoneLeaves 0 = .ok (.aload_n 0, 1) := by decide +kernel
theorem dX9_countDoneLeaves_1 : decode cX9_countDoneLeaves 1 = .ok (.getfield 25, 3) := by decide +kernel
theorem dX9_countDoneLeaves_4 : decode cX9_countDoneLeaves 4 = .ok (.iload_n 1, 1) := by decide +kernel
theorem dX9_countDoneLeaves_5 : decode cX9_countDoneLeaves 5 = .ok (.invokevirtual 198, 3) := by decide +kernel
theorem dX9_countDoneLeaves_8 : decode cX9_countDoneLeaves 8 = .ok (.aload_n 0, 1) := by decide +kernel
theorem dX9_countDoneLeaves_9 : decode cX9_countDoneLeaves 9 = .ok (.getfield 12, 3) := by decide +kernel
theorem dX9_countDoneLeaves_12 : decode cX9_countDoneLeaves 12 = .ok (.invokevirtual 450, 3) := by decide +kernel
theorem dX9_countDoneLeaves_15 : decode cX9_countDoneLeaves 15 = .ok (.land, 1) := by decide +kernel
theorem dX9_countDoneLeaves_16 : decode cX9_countDoneLeaves 16 = .ok (.aload_n 0, 1) := by decide +kernel
theorem dX9_countDoneLeaves_17 : decode cX9_countDoneLeaves 17 = .ok (.getfield 12, 3) := by decide +kernel
theorem dX9_countDoneLeaves_20 : decode cX9_countDoneLeaves 20 = .ok (.invokevirtual 272, 3) := by decide +kernel
theorem dX9_countDoneLeaves_23 : decode cX9_countDoneLeaves 23 = .ok (.land, 1) := by decide +kernel
theorem dX9_countDoneLeaves_24 : decode cX9_countDoneLeaves 24 = .ok (.invokestatic 289, 3) := by decide +kernel
theorem dX9_countDoneLeaves_27 : decode cX9_countDoneLeaves 27 = .ok (.ireturn, 1) := by decide +kernel
theorem dX9_countLines_0 : decode cX9_countLines 0 = .ok (.aload_n 0, 1) := by decide +kernel
theorem dX9_countLines_1 : decode cX9_countLines 1 = .ok (.getfield 49, 3) := by decide +kernel
theorem dX9_countLines_4 : decode cX9_countLines 4 = .ok (.invokevirtual 328, 3) := by decide +kernel
theorem dX9_countLines_7 : decode cX9_countLines 7 = .ok (.ifCond .ne 42, 3) := by decide +kernel
theorem dX9_countLines_10 : decode cX9_countLines 10 = .ok (.aload_n 0, 1) := by decide +kernel
theorem dX9_countLines_11 : decode cX9_countLines 11 = .ok (.getfield 59, 3) := by decide +kernel
theorem dX9_countLines_14 : decode cX9_countLines 14 = .ok (.aload_n 0, 1) := by decide +kernel
theorem dX9_countLines_15 : decode cX9_countLines 15 = .ok (.getfield 12, 3) := by decide +kernel
theorem dX9_countLines_18 : decode cX9_countLines 18 = .ok (.aload_n 0, 1) := by decide +kernel
theorem dX9_countLines_19 : decode cX9_countLines 19 = .ok (.getfield 42, 3) := by decide +kernel
theorem dX9_countLines_22 : decode cX9_countLines 22 = .ok (.invokevirtual 324, 3) := by decide +kernel
theorem dX9_countLines_25 : decode cX9_countLines 25 = .ok (.aload_n 0, 1) := by decide +kernel
theorem dX9_countLines_26 : decode cX9_countLines 26 = .ok (.getfield 12, 3) := by decide +kernel
theorem dX9_countLines_29 : decode cX9_countLines 29 = .ok (.invokevirtual 379, 3) := by decide +kernel
theorem dX9_countLines_32 : decode cX9_countLines 32 = .ok (.aload_n 0, 1) := by decide +kernel
theorem dX9_countLines_33 : decode cX9_countLines 33 = .ok (.getfield 12, 3) := by decide +kernel
theorem dX9_countLines_36 : decode cX9_countLines 36 = .ok (.invokevirtual 268, 3) := by decide +kernel
theorem dX9_countLines_39 : decode cX9_countLines 39 = .ok (.ldc2_w 453, 3) := by decide +kernel
theorem dX9_countLines_42 : decode cX9_countLines 42 = .ok (.lxor, 1) := by decide +kernel
theorem dX9_countLines_43 : decode cX9_countLines 43 = .ok (.invokevirtual 455, 3) := by decide +kernel
theorem dX9_countLines_46 : decode cX9_countLines 46 = .ok (.goto 52, 3) := by decide +kernel
theorem dX9_countLines_49 : decode cX9_countLines 49 = .ok (.aload_n 0, 1) := by decide +kernel
theorem dX9_countLines_50 : decode cX9_countLines 50 = .ok (.getfield 25, 3) := by decide +kernel
theorem dX9_countLines_53 : decode cX9_countLines 53 = .ok (.aload_n 0, 1) := by decide +kernel
theorem dX9_countLines_54 : decode cX9_countLines 54 = .ok (.getfield 49, 3) := by decide +kernel
theorem dX9_countLines_57 : decode cX9_countLines 57 = .ok (.aload_n 0, 1) := by decide +kernel
theorem dX9_countLines_58 : decode cX9_countLines 58 = .ok (.getfield 12, 3) := by decide +kernel
theorem dX9_countLines_61 : decode cX9_countLines 61 = .ok (.aload_n 0, 1) := by decide +kernel
theorem dX9_countLines_62 : decode cX9_countLines 62 = .ok (.getfield 25, 3) := by decide +kernel
theorem dX9_countLines_65 : decode cX9_countLines 65 = .ok (.invokevirtual 329, 3) := by decide +kernel
theorem dX9_countLines_68 : decode cX9_countLines 68 = .ok (.invokevirtual 459, 3) := by decide +kernel
theorem dX9_countLines_71 : decode cX9_countLines 71 = .ok (.lstore_n 1, 1) := by decide +kernel
theorem dX9_countLines_72 : decode cX9_countLines 72 = .ok (.aload_n 0, 1) := by decide +kernel
theorem dX9_countLines_73 : decode cX9_countLines 73 = .ok (.getfield 59, 3) := by decide +kernel
theorem dX9_countLines_76 : decode cX9_countLines 76 = .ok (.aload_n 0, 1) := by decide +kernel
theorem dX9_countLines_77 : decode cX9_countLines 77 = .ok (.getfield 12, 3) := by decide +kernel
theorem dX9_countLines_80 : decode cX9_countLines 80 = .ok (.aload_n 0, 1) := by decide +kernel
theorem dX9_countLines_81 : decode cX9_countLines 81 = .ok (.getfield 42, 3) := by decide +kernel
theorem dX9_countLines_84 : decode cX9_countLines 84 = .ok (.invokevirtual 324, 3) := by decide +kernel
theorem dX9_countLines_87 : decode cX9_countLines 87 = .ok (.lload_n 1, 1) := by decide +kernel
theorem dX9_countLines_88 : decode cX9_countLines 88 = .ok (.aload_n 0, 1) := by decide +kernel
theorem dX9_countLines_89 : decode cX9_countLines 89 = .ok (.getfield 12, 3) := by decide +kernel
theorem dX9_countLines_92 : decode cX9_countLines 92 = .ok (.invokevirtual 379, 3) := by decide +kernel
theorem dX9_countLines_95 : decode cX9_countLines 95 = .ok (.invokevirtual 455, 3) := by decide +kernel
theorem dX9_countLines_98 : decode cX9_countLines 98 = .ok (.aload_n 0, 1) := by decide +kernel
theorem dX9_countLines_99 : decode cX9_countLines 99 = .ok (.getfield 59, 3) := by decide +kernel
theorem dX9_countLines_102 : decode cX9_countLines 102 = .ok (.invokevirtual 463, 3) := by decide +kernel
theorem dX9_countLines_105 : decode cX9_countLines 105 = .ok (.ireturn, 1) := by decide +kernel
theorem dX9_contains_0 : decode cX9_contains 0 = .ok (.lload_n 0, 1) := by decide +kernel
theorem dX9_contains_1 : decode cX9_contains 1 = .ok (.iload_n 2, 1) := by decide +kernel
theorem dX9_contains_2 : decode cX9_contains 2 = .ok (.lushr, 1) := by decide +kernel
theorem dX9_contains_3 : decode cX9_contains 3 = .ok (.lconst 1, 1) := by decide +kernel
theorem dX9_contains_4 : decode cX9_contains 4 = .ok (.land, 1) := by decide +kernel
theorem dX9_contains_5 : decode cX9_contains 5 = .ok (.lconst 0, 1) := by decide +kernel
theorem dX9_contains_6 : decode cX9_contains 6 = .ok (.lcmp, 1) := by decide +kernel
theorem dX9_contains_7 : decode cX9_contains 7 = .ok (.ifCond .eq 7, 3) := by decide +kernel
theorem dX9_contains_10 : decode cX9_contains 10 = .ok (.iconst 1, 1) := by decide +kernel
theorem dX9_contains_11 : decode cX9_contains 11 = .ok (.goto 4, 3) := by decide +kernel
theorem dX9_contains_14 : decode cX9_contains 14 = .ok (.iconst 0, 1) := by decide +kernel
theorem dX9_contains_15 : decode cX9_contains 15 = .ok (.ireturn, 1) := by decide +kernel
theorem dX9_with_0 : decode cX9_with 0 = .ok (.iload_n 3, 1) := by decide +kernel
theorem dX9_with_1 : decode cX9_with 1 = .ok (.ifCond .eq 11, 3) := by decide +kernel
theorem dX9_with_4 : decode cX9_with 4 = .ok (.lload_n 0, 1) := by decide +kernel
theorem dX9_with_5 : decode cX9_with 5 = .ok (.lconst 1, 1) := by decide +kernel
theorem dX9_with_6 : decode cX9_with 6 = .ok (.iload_n 2, 1) := by decide +kernel
theorem dX9_with_7 : decode cX9_with 7 = .ok (.lshl, 1) := by decide +kernel
theorem dX9_with_8 : decode cX9_with 8 = .ok (.lor, 1) := by decide +kernel
theorem dX9_with_9 : decode cX9_with 9 = .ok (.goto 12, 3) := by decide +kernel
theorem dX9_with_12 : decode cX9_with 12 = .ok (.lload_n 0, 1) := by decide +kernel
theorem dX9_with_13 : decode cX9_with 13 = .ok (.lconst 1, 1) := by decide +kernel
theorem dX9_with_14 : decode cX9_with 14 = .ok (.iload_n 2, 1) := by decide +kernel
theorem dX9_with_15 : decode cX9_with 15 = .ok (.lshl, 1) := by decide +kernel
theorem dX9_with_16 : decode cX9_with 16 = .ok (.ldc2_w 453, 3) := by decide +kernel
theorem dX9_with_19 : decode cX9_with 19 = .ok (.lxor, 1) := by decide +kernel
theorem dX9_with_20 : decode cX9_with 20 = .ok (.land, 1) := by decide +kernel
theorem dX9_with_21 : decode cX9_with 21 = .ok (.lreturn, 1) := by decide +kernel
theorem dX10_init_0 : decode cX10_init 0 = .ok (.aload_n 0, 1) := by decide +kernel
theorem dX10_init_1 : decode cX10_init 1 = .ok (.invokespecial 1, 3) := by decide +kernel
theorem dX10_init_4 : decode cX10_init 4 = .ok (.aload_n 0, 1) := by decide +kernel
theorem dX10_init_5 : decode cX10_init 5 = .ok (.sipush 1709, 3) := by decide +kernel
theorem dX10_init_8 : decode cX10_init 8 = .ok (.newarray .int, 2) := by decide +kernel
theorem dX10_init_10 : decode cX10_init 10 = .ok (.putfield 7, 3) := by decide +kernel
theorem dX10_init_13 : decode cX10_init 13 = .ok (.aload_n 0, 1) := by decide +kernel
theorem dX10_init_14 : decode cX10_init 14 = .ok (.sipush 1709, 3) := by decide +kernel
theorem dX10_init_17 : decode cX10_init 17 = .ok (.newarray .int, 2) := by decide +kernel
theorem dX10_init_19 : decode cX10_init 19 = .ok (.putfield 13, 3) := by decide +kernel
theorem dX10_init_22 : decode cX10_init 22 = .ok (.aload_n 0, 1) := by decide +kernel
theorem dX10_init_23 : decode cX10_init 23 = .ok (.sipush 1709, 3) := by decide +kernel
theorem dX10_init_26 : decode cX10_init 26 = .ok (.newarray .int, 2) := by decide +kernel
theorem dX10_init_28 : decode cX10_init 28 = .ok (.putfield 16, 3) := by decide +kernel
theorem dX10_init_31 : decode cX10_init 31 = .ok (.aload_n 0, 1) := by decide +kernel
theorem dX10_init_32 : decode cX10_init 32 = .ok (.sipush 13672, 3) := by decide +kernel
theorem dX10_init_35 : decode cX10_init 35 = .ok (.newarray .int, 2) := by decide +kernel
theorem dX10_init_37 : decode cX10_init 37 = .ok (.putfield 19, 3) := by decide +kernel
theorem dX10_init_40 : decode cX10_init 40 = .ok (.aload_n 0, 1) := by decide +kernel
theorem dX10_init_41 : decode cX10_init 41 = .ok (.iconst 4, 1) := by decide +kernel
theorem dX10_init_42 : decode cX10_init 42 = .ok (.newarray .int, 2) := by decide +kernel
theorem dX10_init_44 : decode cX10_init 44 = .ok (.putfield 22, 3) := by decide +kernel
theorem dX10_init_47 : decode cX10_init 47 = .ok (.aload_n 0, 1) := by decide +kernel
theorem dX10_init_48 : decode cX10_init 48 = .ok (.bipush 80, 2) := by decide +kernel
theorem dX10_init_50 : decode cX10_init 50 = .ok (.newarray .int, 2) := by decide +kernel
theorem dX10_init_52 : decode cX10_init 52 = .ok (.putfield 25, 3) := by decide +kernel
theorem dX10_init_55 : decode cX10_init 55 = .ok (.aload_n 0, 1) := by decide +kernel
theorem dX10_init_56 : decode cX10_init 56 = .ok (.iconst (-1), 1) := by decide +kernel
theorem dX10_init_57 : decode cX10_init 57 = .ok (.putfield 28, 3) := by decide +kernel
theorem dX10_init_60 : decode cX10_init 60 = .ok (.aload_n 0, 1) := by decide +kernel
theorem dX10_init_61 : decode cX10_init 61 = .ok (.iconst 3, 1) := by decide +kernel
theorem dX10_init_62 : decode cX10_init 62 = .ok (.newarray .int, 2) := by decide +kernel
theorem dX10_init_64 : decode cX10_init 64 = .ok (.putfield 32, 3) := by decide +kernel
theorem dX10_init_67 : decode cX10_init 67 = .ok (.aload_n 0, 1) := by decide +kernel
theorem dX10_init_68 : decode cX10_init 68 = .ok (.bipush 61, 2) := by decide +kernel
theorem dX10_init_70 : decode cX10_init 70 = .ok (.newarray .int, 2) := by decide +kernel
theorem dX10_init_72 : decode cX10_init 72 = .ok (.putfield 35, 3) := by decide +kernel
theorem dX10_init_75 : decode cX10_init 75 = .ok (.aload_n 0, 1) := by decide +kernel
theorem dX10_init_76 : decode cX10_init 76 = .ok (.bipush 61, 2) := by decide +kernel
theorem dX10_init_78 : decode cX10_init 78 = .ok (.newarray .int, 2) := by decide +kernel
theorem dX10_init_80 : decode cX10_init 80 = .ok (.putfield 38, 3) := by decide +kernel
theorem dX10_init_83 : decode cX10_init 83 = .ok (.aload_n 0, 1) := by decide +kernel
theorem dX10_init_84 : decode cX10_init 84 = .ok (.bipush 61, 2) := by decide +kernel
theorem dX10_init_86 : decode cX10_init 86 = .ok (.newarray .int, 2) := by decide +kernel
theorem dX10_init_88 : decode cX10_init 88 = .ok (.putfield 41, 3) := by decide +kernel
theorem dX10_init_91 : decode cX10_init 91 = .ok (.aload_n 0, 1) := by decide +kernel
theorem dX10_init_92 : decode cX10_init 92 = .ok (.bipush 61, 2) := by decide +kernel
theorem dX10_init_94 : decode cX10_init 94 = .ok (.newarray .int, 2) := by decide +kernel
theorem dX10_init_96 : decode cX10_init 96 = .ok (.putfield 44, 3) := by decide +kernel
theorem dX10_init_99 : decode cX10_init 99 = .ok (.aload_n 0, 1) := by decide +kernel
theorem dX10_init_100 : decode cX10_init 100 = .ok (.bipush 61, 2) := by decide +kernel
theorem dX10_init_102 : decode cX10_init 102 = .ok (.newarray .int, 2) := by decide +kernel
theorem dX10_init_104 : decode cX10_init 104 = .ok (.putfield 47, 3) := by decide +kernel
theorem dX10_init_107 : decode cX10_init 107 = .ok (.aload_n 0, 1) := by decide +kernel
theorem dX10_init_108 : decode cX10_init 108 = .ok (.bipush 61, 2) := by decide +kernel
theorem dX10_init_110 : decode cX10_init 110 = .ok (.newarray .long, 2) := by decide +kernel
theorem dX10_init_112 : decode cX10_init 112 = .ok (.putfield 50, 3) := by decide +kernel
theorem dX10_init_115 : decode cX10_init 115 = .ok (.aload_n 0, 1) := by decide +kernel
theorem dX10_init_116 : decode cX10_init 116 = .ok (.bipush 12, 2) := by decide +kernel
theorem dX10_init_118 : decode cX10_init 118 = .ok (.newarray .int, 2) := by decide +kernel
theorem dX10_init_120 : decode cX10_init 120 = .ok (.putfield 54, 3) := by decide +kernel
theorem dX10_init_123 : decode cX10_init 123 = .ok (.aload_n 0, 1) := by decide +kernel
theorem dX10_init_124 : decode cX10_init 124 = .ok (.iconst 5, 1) := by decide +kernel
theorem dX10_init_125 : decode cX10_init 125 = .ok (.newarray .int, 2) := by decide +kernel
theorem dX10_init_127 : decode cX10_init 127 = .ok (.putfield 57, 3) := by decide +kernel
theorem dX10_init_130 : decode cX10_init 130 = .ok (.aload_n 0, 1) := by decide +kernel
theorem dX10_init_131 : decode cX10_init 131 = .ok (.iconst 5, 1) := by decide +kernel
theorem dX10_init_132 : decode cX10_init 132 = .ok (.newarray .int, 2) := by decide +kernel
theorem dX10_init_134 : decode cX10_init 134 = .ok (.putfield 60, 3) := by decide +kernel
theorem dX10_init_137 : decode cX10_init 137 = .ok (.aload_n 0, 1) := by decide +kernel
theorem dX10_init_138 : decode cX10_init 138 = .ok (.iconst 5, 1) := by decide +kernel
theorem dX10_init_139 : decode cX10_init 139 = .ok (.newarray .int, 2) := by decide +kernel
theorem dX10_init_141 : decode cX10_init 141 = .ok (.putfield 63, 3) := by decide +kernel
theorem dX10_init_144 : decode cX10_init 144 = .ok (.aload_n 0, 1) := by decide +kernel
theorem dX10_init_145 : decode cX10_init 145 = .ok (.bipush 50, 2) := by decide +kernel
theorem dX10_init_147 : decode cX10_init 147 = .ok (.newarray .int, 2) := by decide +kernel
theorem dX10_init_149 : decode cX10_init 149 = .ok (.putfield 66, 3) := by decide +kernel
theorem dX10_init_152 : decode cX10_init 152 = .ok (.aload_n 0, 1) := by decide +kernel
theorem dX10_init_153 : decode cX10_init 153 = .ok (.iconst 5, 1) := by decide +kernel
theorem dX10_init_154 : decode cX10_init 154 = .ok (.newarray .boolean, 2) := by decide +kernel
theorem dX10_init_156 : decode cX10_init 156 = .ok (.putfield 69, 3) := by decide +kernel
theorem dX10_init_159 : decode cX10_init 159 = .ok (.aload_n 0, 1) := by decide +kernel
theorem dX10_init_160 : decode cX10_init 160 = .ok (.iconst 5, 1) := by decide +kernel
theorem dX10_init_161 : decode cX10_init 161 = .ok (.newarray .int, 2) := by decide +kernel
theorem dX10_init_163 : decode cX10_init 163 = .ok (.putfield 73, 3) := by decide +kernel
theorem dX10_init_166 : decode cX10_init 166 = .ok (.aload_n 0, 1) := by decide +kernel
theorem dX10_init_167 : decode cX10_init 167 = .ok (.iconst 5, 1) := by decide +kernel
theorem dX10_init_168 : decode cX10_init 168 = .ok (.newarray .int, 2) := by decide +kernel
theorem dX10_init_170 : decode cX10_init 170 = .ok (.putfield 76, 3) := by decide +kernel
theorem dX10_init_173 : decode cX10_init 173 = .ok (.aload_n 0, 1) := by decide +kernel
theorem dX10_init_174 : decode cX10_init 174 = .ok (.iconst 5, 1) := by decide +kernel
theorem dX10_init_175 : decode cX10_init 175 = .ok (.newarray .int, 2) := by decide +kernel
theorem dX10_init_177 : decode cX10_init 177 = .ok (.putfield 79, 3) := by decide +kernel
theorem dX10_init_180 : decode cX10_init 180 = .ok (.aload_n 0, 1) := by decide +kernel
theorem dX10_init_181 : decode cX10_init 181 = .ok (.bipush 50, 2) := by decide +kernel
theorem dX10_init_183 : decode cX10_init 183 = .ok (.newarray .int, 2) := by decide +kernel
theorem dX10_init_185 : decode cX10_init 185 = .ok (.putfield 82, 3) := by decide +kernel
theorem dX10_init_188 : decode cX10_init 188 = .ok (.aload_n 0, 1) := by decide +kernel
theorem dX10_init_189 : decode cX10_init 189 = .ok (.iconst 5, 1) := by decide +kernel
theorem dX10_init_190 : decode cX10_init 190 = .ok (.newarray .boolean, 2) := by decide +kernel
theorem dX10_init_192 : decode cX10_init 192 = .ok (.putfield 85, 3) := by decide +kernel
theorem dX10_init_195 : decode cX10_init 195 = .ok (.aload_n 0, 1) := by decide +kernel
theorem dX10_init_196 : decode cX10_init 196 = .ok (.sipush 400, 3) := by decide +kernel
theorem dX10_init_199 : decode cX10_init 199 = .ok (.newarray .int, 2) := by decide +kernel
theorem dX10_init_201 : decode cX10_init 201 = .ok (.putfield 88, 3) := by decide +kernel
theorem dX10_init_204 : decode cX10_init 204 = .ok (.aload_n 0, 1) := by decide +kernel
theorem dX10_init_205 : decode cX10_init 205 = .ok (.sipush 400, 3) := by decide +kernel
theorem dX10_init_208 : decode cX10_init 208 = .ok (.newarray .int, 2) := by decide +kernel
theorem dX10_init_210 : decode cX10_init 210 = .ok (.putfield 91, 3) := by decide +kernel
theorem dX10_init_213 : decode cX10_init 213 = .ok (.aload_n 0, 1) := by decide +kernel
theorem dX10_init_214 : decode cX10_init 214 = .ok (.sipush 400, 3) := by decide +kernel
theorem dX10_init_217 : decode cX10_init 217 = .ok (.newarray .int, 2) := by decide +kernel
theorem dX10_init_219 : decode cX10_init 219 = .ok (.putfield 94, 3) := by decide +kernel
theorem dX10_init_222 : decode cX10_init 222 = .ok (.aload_n 0, 1) := by decide +kernel
theorem dX10_init_223 : decode cX10_init 223 = .ok (.sipush 400, 3) := by decide +kernel
theorem dX10_init_226 : decode cX10_init 226 = .ok (.newarray .int, 2) := by decide +kernel
theorem dX10_init_228 : decode cX10_init 228 = .ok (.putfield 97, 3) := by decide +kernel
theorem dX10_init_231 : decode cX10_init 231 = .ok (.aload_n 0, 1) := by decide +kernel
theorem dX10_init_232 : decode cX10_init 232 = .ok (.bipush 62, 2) := by decide +kernel
theorem dX10_init_234 : decode cX10_init 234 = .ok (.newarray .int, 2) := by decide +kernel
theorem dX10_init_236 : decode cX10_init 236 = .ok (.putfield 100, 3) := by decide +kernel
theorem dX10_init_239 : decode cX10_init 239 = .ok (.aload_n 0, 1) := by decide +kernel
theorem dX10_init_240 : decode cX10_init 240 = .ok (.bipush 62, 2) := by decide +kernel
theorem dX10_init_242 : decode cX10_init 242 = .ok (.newarray .int, 2) := by decide +kernel
theorem dX10_init_244 : decode cX10_init 244 = .ok (.putfield 103, 3) := by decide +kernel
theorem dX10_init_247 : decode cX10_init 247 = .ok (.aload_n 0, 1) := by decide +kernel
theorem dX10_init_248 : decode cX10_init 248 = .ok (.bipush 62, 2) := by decide +kernel
theorem dX10_init_250 : decode cX10_init 250 = .ok (.newarray .int, 2) := by decide +kernel
theorem dX10_init_252 : decode cX10_init 252 = .ok (.putfield 106, 3) := by decide +kernel
theorem dX10_init_255 : decode cX10_init 255 = .ok (.aload_n 0, 1) := by decide +kernel
theorem dX10_init_256 : decode cX10_init 256 = .ok (.sipush 700, 3) := by decide +kernel
theorem dX10_init_259 : decode cX10_init 259 = .ok (.newarray .int, 2) := by decide +kernel
theorem dX10_init_261 : decode cX10_init 261 = .ok (.putfield 109, 3) := by decide +kernel
theorem dX10_init_264 : decode cX10_init 264 = .ok (.aload_n 0, 1) := by decide +kernel
theorem dX10_init_265 : decode cX10_init 265 = .ok (.bipush 41, 2) := by decide +kernel
theorem dX10_init_267 : decode cX10_init 267 = .ok (.newarray .int, 2) := by decide +kernel
theorem dX10_init_269 : decode cX10_init 269 = .ok (.putfield 112, 3) := by decide +kernel
theorem dX10_init_272 : decode cX10_init 272 = .ok (.aload_n 0, 1) := by decide +kernel
theorem dX10_init_273 : decode cX10_init 273 = .ok (.bipush 41, 2) := by decide +kernel
theorem dX10_init_275 : decode cX10_init 275 = .ok (.newarray .int, 2) := by decide +kernel
theorem dX10_init_277 : decode cX10_init 277 = .ok (.putfield 115, 3) := by decide +kernel
theorem dX10_init_280 : decode cX10_init 280 = .ok (.aload_n 0, 1) := by decide +kernel
theorem dX10_init_281 : decode cX10_init 281 = .ok (.bipush 41, 2) := by decide +kernel
theorem dX10_init_283 : decode cX10_init 283 = .ok (.newarray .int, 2) := by decide +kernel
theorem dX10_init_285 : decode cX10_init 285 = .ok (.putfield 118, 3) := by decide +kernel
theorem dX10_init_288 : decode cX10_init 288 = .ok (.aload_n 0, 1) := by decide +kernel
theorem dX10_init_289 : decode cX10_init 289 = .ok (.bipush 41, 2) := by decide +kernel
theorem dX10_init_291 : decode cX10_init 291 = .ok (.newarray .int, 2) := by decide +kernel
theorem dX10_init_293 : decode cX10_init 293 = .ok (.putfield 121, 3) := by decide +kernel
theorem dX10_init_296 : decode cX10_init 296 = .ok (.aload_n 0, 1) := by decide +kernel
theorem dX10_init_297 : decode cX10_init 297 = .ok (.bipush 41, 2) := by decide +kernel
theorem dX10_init_299 : decode cX10_init 299 = .ok (.newarray .int, 2) := by decide +kernel
theorem dX10_init_301 : decode cX10_init 301 = .ok (.putfield 124, 3) := by decide +kernel
theorem dX10_init_304 : decode cX10_init 304 = .ok (.aload_n 0, 1) := by decide +kernel
theorem dX10_init_305 : decode cX10_init 305 = .ok (.bipush 41, 2) := by decide +kernel
theorem dX10_init_307 : decode cX10_init 307 = .ok (.newarray .int, 2) := by decide +kernel
theorem dX10_init_309 : decode cX10_init 309 = .ok (.putfield 127, 3) := by decide +kernel
theorem dX10_init_312 : decode cX10_init 312 = .ok (.aload_n 0, 1) := by decide +kernel
theorem dX10_init_313 : decode cX10_init 313 = .ok (.bipush 41, 2) := by decide +kernel
theorem dX10_init_315 : decode cX10_init 315 = .ok (.newarray .int, 2) := by decide +kernel
theorem dX10_init_317 : decode cX10_init 317 = .ok (.putfield 130, 3) := by decide +kernel
theorem dX10_init_320 : decode cX10_init 320 = .ok (.aload_n 0, 1) := by decide +kernel
theorem dX10_init_321 : decode cX10_init 321 = .ok (.bipush 41, 2) := by decide +kernel
theorem dX10_init_323 : decode cX10_init 323 = .ok (.newarray .int, 2) := by decide +kernel
theorem dX10_init_325 : decode cX10_init 325 = .ok (.putfield 133, 3) := by decide +kernel
theorem dX10_init_328 : decode cX10_init 328 = .ok (.aload_n 0, 1) := by decide +kernel
theorem dX10_init_329 : decode cX10_init 329 = .ok (.invokevirtual 136, 3) := by decide +kernel
theorem dX10_init_332 : decode cX10_init 332 = .ok (.return_, 1) := by decide +kernel
theorem dX10_thrown_0 : decode cX10_thrown 0 = .ok (.aload_n 0, 1) := by decide +kernel
theorem dX10_thrown_1 : decode cX10_thrown 1 = .ok (.getfield 139, 3) := by decide +kernel
theorem dX10_thrown_4 : decode cX10_thrown 4 = .ok (.ireturn, 1) := by decide +kernel
theorem dX10_fails_0 : decode cX10_fails 0 = .ok (.aload_n 0, 1) := by decide +kernel
theorem dX10_fails_1 : decode cX10_fails 1 = .ok (.iload_n 1, 1) := by decide +kernel
theorem dX10_fails_2 : decode cX10_fails 2 = .ok (.putfield 139, 3) := by decide +kernel
theorem dX10_fails_5 : decode cX10_fails 5 = .ok (.iconst 0, 1) := by decide +kernel
theorem dX10_fails_6 : decode cX10_fails 6 = .ok (.ireturn, 1) := by decide +kernel
theorem dX10_in_0 : decode cX10_in 0 = .ok (.iload_n 0, 1) := by decide +kernel
theorem dX10_in_1 : decode cX10_in 1 = .ok (.iload_n 1, 1) := by decide +kernel
