theorem dX10_indent_29 : decode cX10_indent 29 = .ok (.invokevirtual 186, 3) := by decide +kernel
theorem dX10_indent_32 : decode cX10_indent 32 = .ok (.ireturn, 1) := by decide +kernel
theorem dX10_indent_33 : decode cX10_indent 33 = .ok (.aload_n 0, 1) := by decide +kernel
theorem dX10_indent_34 : decode cX10_indent 34 = .ok (.getfield 97, 3) := by decide +kernel
theorem dX10_indent_37 : decode cX10_indent 37 = .ok (.iload_n 1, 1) := by decide +kernel
theorem dX10_indent_38 : decode cX10_indent 38 = .ok (.iaload, 1) := by decide +kernel
theorem dX10_indent_39 : decode cX10_indent 39 = .ok (.ifCond .ne 9, 3) := by decide +kernel
theorem dX10_indent_42 : decode cX10_indent 42 = .ok (.aload_n 0, 1) := by decide +kernel
theorem dX10_indent_43 : decode cX10_indent 43 = .ok (.iconst 2, 1) := by decide +kernel
theorem dX10_indent_44 : decode cX10_indent 44 = .ok (.invokevirtual 186, 3) := by decide +kernel
theorem dX10_indent_47 : decode cX10_indent 47 = .ok (.ireturn, 1) := by decide +kernel
theorem dX10_indent_48 : decode cX10_indent 48 = .ok (.aload_n 0, 1) := by decide +kernel
theorem dX10_indent_49 : decode cX10_indent 49 = .ok (.aload_n 0, 1) := by decide +kernel
theorem dX10_indent_50 : decode cX10_indent 50 = .ok (.getfield 94, 3) := by decide +kernel
theorem dX10_indent_53 : decode cX10_indent 53 = .ok (.iload_n 1, 1) := by decide +kernel
theorem dX10_indent_54 : decode cX10_indent 54 = .ok (.iaload, 1) := by decide +kernel
theorem dX10_indent_55 : decode cX10_indent 55 = .ok (.aload_n 0, 1) := by decide +kernel
theorem dX10_indent_56 : decode cX10_indent 56 = .ok (.getfield 97, 3) := by decide +kernel
theorem dX10_indent_59 : decode cX10_indent 59 = .ok (.iload_n 1, 1) := by decide +kernel
theorem dX10_indent_60 : decode cX10_indent 60 = .ok (.iaload, 1) := by decide +kernel
theorem dX10_indent_61 : decode cX10_indent 61 = .ok (.aload_n 0, 1) := by decide +kernel
theorem dX10_indent_62 : decode cX10_indent 62 = .ok (.aload_n 0, 1) := by decide +kernel
theorem dX10_indent_63 : decode cX10_indent 63 = .ok (.getfield 94, 3) := by decide +kernel
theorem dX10_indent_66 : decode cX10_indent 66 = .ok (.iload_n 1, 1) := by decide +kernel
theorem dX10_indent_67 : decode cX10_indent 67 = .ok (.iaload, 1) := by decide +kernel
theorem dX10_indent_68 : decode cX10_indent 68 = .ok (.aload_n 0, 1) := by decide +kernel
theorem dX10_indent_69 : decode cX10_indent 69 = .ok (.getfield 97, 3) := by decide +kernel
theorem dX10_indent_72 : decode cX10_indent 72 = .ok (.iload_n 1, 1) := by decide +kernel
theorem dX10_indent_73 : decode cX10_indent 73 = .ok (.iaload, 1) := by decide +kernel
theorem dX10_indent_74 : decode cX10_indent 74 = .ok (.iconst 1, 1) := by decide +kernel
theorem dX10_indent_75 : decode cX10_indent 75 = .ok (.isub, 1) := by decide +kernel
theorem dX10_indent_76 : decode cX10_indent 76 = .ok (.invokevirtual 150, 3) := by decide +kernel
theorem dX10_indent_79 : decode cX10_indent 79 = .ok (.iconst (-1), 1) := by decide +kernel
theorem dX10_indent_80 : decode cX10_indent 80 = .ok (.bipush 40, 2) := by decide +kernel
theorem dX10_indent_82 : decode cX10_indent 82 = .ok (.invokevirtual 263, 3) := by decide +kernel
theorem dX10_indent_85 : decode cX10_indent 85 = .ok (.ireturn, 1) := by decide +kernel
theorem dX10_outdent_0 : decode cX10_outdent 0 = .ok (.aload_n 0, 1) := by decide +kernel
theorem dX10_outdent_1 : decode cX10_outdent 1 = .ok (.iconst 0, 1) := by decide +kernel
theorem dX10_outdent_2 : decode cX10_outdent 2 = .ok (.putfield 139, 3) := by decide +kernel
theorem dX10_outdent_5 : decode cX10_outdent 5 = .ok (.aload_n 0, 1) := by decide +kernel
theorem dX10_outdent_6 : decode cX10_outdent 6 = .ok (.invokevirtual 218, 3) := by decide +kernel
theorem dX10_outdent_9 : decode cX10_outdent 9 = .ok (.aload_n 0, 1) := by decide +kernel
theorem dX10_outdent_10 : decode cX10_outdent 10 = .ok (.invokevirtual 257, 3) := by decide +kernel
theorem dX10_outdent_13 : decode cX10_outdent 13 = .ok (.iload_n 1, 1) := by decide +kernel
theorem dX10_outdent_14 : decode cX10_outdent 14 = .ok (.iconst 0, 1) := by decide +kernel
theorem dX10_outdent_15 : decode cX10_outdent 15 = .ok (.aload_n 0, 1) := by decide +kernel
theorem dX10_outdent_16 : decode cX10_outdent 16 = .ok (.getfield 260, 3) := by decide +kernel
theorem dX10_outdent_19 : decode cX10_outdent 19 = .ok (.iconst 1, 1) := by decide +kernel
theorem dX10_outdent_20 : decode cX10_outdent 20 = .ok (.isub, 1) := by decide +kernel
theorem dX10_outdent_21 : decode cX10_outdent 21 = .ok (.invokestatic 142, 3) := by decide +kernel
theorem dX10_outdent_24 : decode cX10_outdent 24 = .ok (.ifCond .ne 9, 3) := by decide +kernel
theorem dX10_outdent_27 : decode cX10_outdent 27 = .ok (.aload_n 0, 1) := by decide +kernel
theorem dX10_outdent_28 : decode cX10_outdent 28 = .ok (.iconst 1, 1) := by decide +kernel
theorem dX10_outdent_29 : decode cX10_outdent 29 = .ok (.invokevirtual 186, 3) := by decide +kernel
theorem dX10_outdent_32 : decode cX10_outdent 32 = .ok (.ireturn, 1) := by decide +kernel
theorem dX10_outdent_33 : decode cX10_outdent 33 = .ok (.aload_n 0, 1) := by decide +kernel
theorem dX10_outdent_34 : decode cX10_outdent 34 = .ok (.getfield 91, 3) := by decide +kernel
theorem dX10_outdent_37 : decode cX10_outdent 37 = .ok (.iload_n 1, 1) := by decide +kernel
theorem dX10_outdent_38 : decode cX10_outdent 38 = .ok (.iaload, 1) := by decide +kernel
theorem dX10_outdent_39 : decode cX10_outdent 39 = .ok (.ifCond .ne 9, 3) := by decide +kernel
theorem dX10_outdent_42 : decode cX10_outdent 42 = .ok (.aload_n 0, 1) := by decide +kernel
theorem dX10_outdent_43 : decode cX10_outdent 43 = .ok (.iconst 2, 1) := by decide +kernel
theorem dX10_outdent_44 : decode cX10_outdent 44 = .ok (.invokevirtual 186, 3) := by decide +kernel
theorem dX10_outdent_47 : decode cX10_outdent 47 = .ok (.ireturn, 1) := by decide +kernel
theorem dX10_outdent_48 : decode cX10_outdent 48 = .ok (.aload_n 0, 1) := by decide +kernel
theorem dX10_outdent_49 : decode cX10_outdent 49 = .ok (.iload_n 1, 1) := by decide +kernel
theorem dX10_outdent_50 : decode cX10_outdent 50 = .ok (.invokevirtual 267, 3) := by decide +kernel
theorem dX10_outdent_53 : decode cX10_outdent 53 = .ok (.istore_n 2, 1) := by decide +kernel
theorem dX10_outdent_54 : decode cX10_outdent 54 = .ok (.aload_n 0, 1) := by decide +kernel
theorem dX10_outdent_55 : decode cX10_outdent 55 = .ok (.aload_n 0, 1) := by decide +kernel
theorem dX10_outdent_56 : decode cX10_outdent 56 = .ok (.getfield 94, 3) := by decide +kernel
theorem dX10_outdent_59 : decode cX10_outdent 59 = .ok (.iload_n 1, 1) := by decide +kernel
theorem dX10_outdent_60 : decode cX10_outdent 60 = .ok (.iaload, 1) := by decide +kernel
theorem dX10_outdent_61 : decode cX10_outdent 61 = .ok (.aload_n 0, 1) := by decide +kernel
theorem dX10_outdent_62 : decode cX10_outdent 62 = .ok (.getfield 97, 3) := by decide +kernel
theorem dX10_outdent_65 : decode cX10_outdent 65 = .ok (.iload_n 1, 1) := by decide +kernel
theorem dX10_outdent_66 : decode cX10_outdent 66 = .ok (.iaload, 1) := by decide +kernel
theorem dX10_outdent_67 : decode cX10_outdent 67 = .ok (.aload_n 0, 1) := by decide +kernel
theorem dX10_outdent_68 : decode cX10_outdent 68 = .ok (.getfield 94, 3) := by decide +kernel
theorem dX10_outdent_71 : decode cX10_outdent 71 = .ok (.iload_n 2, 1) := by decide +kernel
theorem dX10_outdent_72 : decode cX10_outdent 72 = .ok (.iaload, 1) := by decide +kernel
theorem dX10_outdent_73 : decode cX10_outdent 73 = .ok (.aload_n 0, 1) := by decide +kernel
theorem dX10_outdent_74 : decode cX10_outdent 74 = .ok (.getfield 97, 3) := by decide +kernel
theorem dX10_outdent_77 : decode cX10_outdent 77 = .ok (.iload_n 2, 1) := by decide +kernel
theorem dX10_outdent_78 : decode cX10_outdent 78 = .ok (.iaload, 1) := by decide +kernel
theorem dX10_outdent_79 : decode cX10_outdent 79 = .ok (.iconst 1, 1) := by decide +kernel
theorem dX10_outdent_80 : decode cX10_outdent 80 = .ok (.iadd, 1) := by decide +kernel
theorem dX10_outdent_81 : decode cX10_outdent 81 = .ok (.bipush 50, 2) := by decide +kernel
theorem dX10_outdent_83 : decode cX10_outdent 83 = .ok (.invokevirtual 263, 3) := by decide +kernel
theorem dX10_outdent_86 : decode cX10_outdent 86 = .ok (.ireturn, 1) := by decide +kernel
theorem dX10_rename_0 : decode cX10_rename 0 = .ok (.aload_n 0, 1) := by decide +kernel
theorem dX10_rename_1 : decode cX10_rename 1 = .ok (.iconst 0, 1) := by decide +kernel
theorem dX10_rename_2 : decode cX10_rename 2 = .ok (.putfield 139, 3) := by decide +kernel
theorem dX10_rename_5 : decode cX10_rename 5 = .ok (.aload_n 0, 1) := by decide +kernel
theorem dX10_rename_6 : decode cX10_rename 6 = .ok (.invokevirtual 218, 3) := by decide +kernel
theorem dX10_rename_9 : decode cX10_rename 9 = .ok (.aload_n 0, 1) := by decide +kernel
theorem dX10_rename_10 : decode cX10_rename 10 = .ok (.iload_n 1, 1) := by decide +kernel
theorem dX10_rename_11 : decode cX10_rename 11 = .ok (.invokevirtual 245, 3) := by decide +kernel
theorem dX10_rename_14 : decode cX10_rename 14 = .ok (.ifCond .ne 9, 3) := by decide +kernel
theorem dX10_rename_17 : decode cX10_rename 17 = .ok (.aload_n 0, 1) := by decide +kernel
theorem dX10_rename_18 : decode cX10_rename 18 = .ok (.iconst 1, 1) := by decide +kernel
theorem dX10_rename_19 : decode cX10_rename 19 = .ok (.invokevirtual 186, 3) := by decide +kernel
theorem dX10_rename_22 : decode cX10_rename 22 = .ok (.ireturn, 1) := by decide +kernel
theorem dX10_rename_23 : decode cX10_rename 23 = .ok (.aload_n 0, 1) := by decide +kernel
theorem dX10_rename_24 : decode cX10_rename 24 = .ok (.invokevirtual 221, 3) := by decide +kernel
theorem dX10_rename_27 : decode cX10_rename 27 = .ok (.ifCond .ne 9, 3) := by decide +kernel
theorem dX10_rename_30 : decode cX10_rename 30 = .ok (.aload_n 0, 1) := by decide +kernel
theorem dX10_rename_31 : decode cX10_rename 31 = .ok (.iconst 2, 1) := by decide +kernel
theorem dX10_rename_32 : decode cX10_rename 32 = .ok (.invokevirtual 186, 3) := by decide +kernel
theorem dX10_rename_35 : decode cX10_rename 35 = .ok (.ireturn, 1) := by decide +kernel
theorem dX10_rename_36 : decode cX10_rename 36 = .ok (.aload_n 0, 1) := by decide +kernel
theorem dX10_rename_37 : decode cX10_rename 37 = .ok (.getfield 7, 3) := by decide +kernel
theorem dX10_rename_40 : decode cX10_rename 40 = .ok (.sipush 245, 3) := by decide +kernel
theorem dX10_rename_43 : decode cX10_rename 43 = .ok (.iload_n 1, 1) := by decide +kernel
theorem dX10_rename_44 : decode cX10_rename 44 = .ok (.iadd, 1) := by decide +kernel
theorem dX10_rename_45 : decode cX10_rename 45 = .ok (.iaload, 1) := by decide +kernel
theorem dX10_rename_46 : decode cX10_rename 46 = .ok (.istore_n 2, 1) := by decide +kernel
theorem dX10_rename_47 : decode cX10_rename 47 = .ok (.aload_n 0, 1) := by decide +kernel
theorem dX10_rename_48 : decode cX10_rename 48 = .ok (.iload_n 1, 1) := by decide +kernel
theorem dX10_rename_49 : decode cX10_rename 49 = .ok (.iconst 0, 1) := by decide +kernel
theorem dX10_rename_50 : decode cX10_rename 50 = .ok (.aload_n 0, 1) := by decide +kernel
theorem dX10_rename_51 : decode cX10_rename 51 = .ok (.getfield 202, 3) := by decide +kernel
theorem dX10_rename_54 : decode cX10_rename 54 = .ok (.invokevirtual 235, 3) := by decide +kernel
theorem dX10_rename_57 : decode cX10_rename 57 = .ok (.aload_n 0, 1) := by decide +kernel
theorem dX10_rename_58 : decode cX10_rename 58 = .ok (.invokevirtual 242, 3) := by decide +kernel
theorem dX10_rename_61 : decode cX10_rename 61 = .ok (.iload_n 2, 1) := by decide +kernel
theorem dX10_rename_62 : decode cX10_rename 62 = .ok (.ireturn, 1) := by decide +kernel
theorem dX10_setNumber_0 : decode cX10_setNumber 0 = .ok (.aload_n 0, 1) := by decide +kernel
theorem dX10_setNumber_1 : decode cX10_setNumber 1 = .ok (.iconst 0, 1) := by decide +kernel
theorem dX10_setNumber_2 : decode cX10_setNumber 2 = .ok (.putfield 139, 3) := by decide +kernel
theorem dX10_setNumber_5 : decode cX10_setNumber 5 = .ok (.aload_n 0, 1) := by decide +kernel
theorem dX10_setNumber_6 : decode cX10_setNumber 6 = .ok (.invokevirtual 218, 3) := by decide +kernel
theorem dX10_setNumber_9 : decode cX10_setNumber 9 = .ok (.aload_n 0, 1) := by decide +kernel
theorem dX10_setNumber_10 : decode cX10_setNumber 10 = .ok (.iload_n 1, 1) := by decide +kernel
theorem dX10_setNumber_11 : decode cX10_setNumber 11 = .ok (.invokevirtual 146, 3) := by decide +kernel
theorem dX10_setNumber_14 : decode cX10_setNumber 14 = .ok (.ifCond .ne 9, 3) := by decide +kernel
theorem dX10_setNumber_17 : decode cX10_setNumber 17 = .ok (.aload_n 0, 1) := by decide +kernel
theorem dX10_setNumber_18 : decode cX10_setNumber 18 = .ok (.iconst 1, 1) := by decide +kernel
theorem dX10_setNumber_19 : decode cX10_setNumber 19 = .ok (.invokevirtual 186, 3) := by decide +kernel
theorem dX10_setNumber_22 : decode cX10_setNumber 22 = .ok (.ireturn, 1) := by decide +kernel
theorem dX10_setNumber_23 : decode cX10_setNumber 23 = .ok (.iload_n 2, 1) := by decide +kernel
theorem dX10_setNumber_24 : decode cX10_setNumber 24 = .ok (.ifCond .eq 17, 3) := by decide +kernel
theorem dX10_setNumber_27 : decode cX10_setNumber 27 = .ok (.iload_n 3, 1) := by decide +kernel
theorem dX10_setNumber_28 : decode cX10_setNumber 28 = .ok (.iconst (-1), 1) := by decide +kernel
theorem dX10_setNumber_29 : decode cX10_setNumber 29 = .ok (.sipush 9999, 3) := by decide +kernel
theorem dX10_setNumber_32 : decode cX10_setNumber 32 = .ok (.invokestatic 142, 3) := by decide +kernel
theorem dX10_setNumber_35 : decode cX10_setNumber 35 = .ok (.ifCond .ne 25, 3) := by decide +kernel
theorem dX10_setNumber_38 : decode cX10_setNumber 38 = .ok (.goto 16, 3) := by decide +kernel
theorem dX10_setNumber_41 : decode cX10_setNumber 41 = .ok (.iload_n 3, 1) := by decide +kernel
theorem dX10_setNumber_42 : decode cX10_setNumber 42 = .ok (.sipush (-999), 3) := by decide +kernel
theorem dX10_setNumber_45 : decode cX10_setNumber 45 = .ok (.sipush 999, 3) := by decide +kernel
theorem dX10_setNumber_48 : decode cX10_setNumber 48 = .ok (.invokestatic 142, 3) := by decide +kernel
theorem dX10_setNumber_51 : decode cX10_setNumber 51 = .ok (.ifCond .ne 9, 3) := by decide +kernel
theorem dX10_setNumber_54 : decode cX10_setNumber 54 = .ok (.aload_n 0, 1) := by decide +kernel
theorem dX10_setNumber_55 : decode cX10_setNumber 55 = .ok (.iconst 2, 1) := by decide +kernel
theorem dX10_setNumber_56 : decode cX10_setNumber 56 = .ok (.invokevirtual 186, 3) := by decide +kernel
theorem dX10_setNumber_59 : decode cX10_setNumber 59 = .ok (.ireturn, 1) := by decide +kernel
theorem dX10_setNumber_60 : decode cX10_setNumber 60 = .ok (.iload_n 2, 1) := by decide +kernel
theorem dX10_setNumber_61 : decode cX10_setNumber 61 = .ok (.ifCond .eq 8, 3) := by decide +kernel
theorem dX10_setNumber_64 : decode cX10_setNumber 64 = .ok (.bipush 123, 2) := by decide +kernel
theorem dX10_setNumber_66 : decode cX10_setNumber 66 = .ok (.goto 5, 3) := by decide +kernel
theorem dX10_setNumber_69 : decode cX10_setNumber 69 = .ok (.bipush 62, 2) := by decide +kernel
theorem dX10_setNumber_71 : decode cX10_setNumber 71 = .ok (.iload_n 1, 1) := by decide +kernel
theorem dX10_setNumber_72 : decode cX10_setNumber 72 = .ok (.iadd, 1) := by decide +kernel
theorem dX10_setNumber_73 : decode cX10_setNumber 73 = .ok (.istore 4, 2) := by decide +kernel
theorem dX10_setNumber_75 : decode cX10_setNumber 75 = .ok (.aload_n 0, 1) := by decide +kernel
theorem dX10_setNumber_76 : decode cX10_setNumber 76 = .ok (.getfield 7, 3) := by decide +kernel
theorem dX10_setNumber_79 : decode cX10_setNumber 79 = .ok (.iload 4, 2) := by decide +kernel
theorem dX10_setNumber_81 : decode cX10_setNumber 81 = .ok (.iaload, 1) := by decide +kernel
theorem dX10_setNumber_82 : decode cX10_setNumber 82 = .ok (.istore 5, 2) := by decide +kernel
theorem dX10_setNumber_84 : decode cX10_setNumber 84 = .ok (.aload_n 0, 1) := by decide +kernel
theorem dX10_setNumber_85 : decode cX10_setNumber 85 = .ok (.getfield 7, 3) := by decide +kernel
theorem dX10_setNumber_88 : decode cX10_setNumber 88 = .ok (.iload 4, 2) := by decide +kernel
theorem dX10_setNumber_90 : decode cX10_setNumber 90 = .ok (.iload_n 3, 1) := by decide +kernel
theorem dX10_setNumber_91 : decode cX10_setNumber 91 = .ok (.iastore, 1) := by decide +kernel
theorem dX10_setNumber_92 : decode cX10_setNumber 92 = .ok (.aload_n 0, 1) := by decide +kernel
theorem dX10_setNumber_93 : decode cX10_setNumber 93 = .ok (.invokevirtual 242, 3) := by decide +kernel
theorem dX10_setNumber_96 : decode cX10_setNumber 96 = .ok (.iload 5, 2) := by decide +kernel
theorem dX10_setNumber_98 : decode cX10_setNumber 98 = .ok (.ireturn, 1) := by decide +kernel
theorem dX10_setFlag_0 : decode cX10_setFlag 0 = .ok (.aload_n 0, 1) := by decide +kernel
theorem dX10_setFlag_1 : decode cX10_setFlag 1 = .ok (.aload_n 0, 1) := by decide +kernel
theorem dX10_setFlag_2 : decode cX10_setFlag 2 = .ok (.iload_n 1, 1) := by decide +kernel
theorem dX10_setFlag_3 : decode cX10_setFlag 3 = .ok (.invokevirtual 146, 3) := by decide +kernel
theorem dX10_setFlag_6 : decode cX10_setFlag 6 = .ok (.ifCond .eq 7, 3) := by decide +kernel
theorem dX10_setFlag_9 : decode cX10_setFlag 9 = .ok (.iconst 0, 1) := by decide +kernel
theorem dX10_setFlag_10 : decode cX10_setFlag 10 = .ok (.goto 4, 3) := by decide +kernel
theorem dX10_setFlag_13 : decode cX10_setFlag 13 = .ok (.iconst 1, 1) := by decide +kernel
theorem dX10_setFlag_14 : decode cX10_setFlag 14 = .ok (.putfield 139, 3) := by decide +kernel
theorem dX10_setFlag_17 : decode cX10_setFlag 17 = .ok (.aload_n 0, 1) := by decide +kernel
theorem dX10_setFlag_18 : decode cX10_setFlag 18 = .ok (.getfield 139, 3) := by decide +kernel
theorem dX10_setFlag_21 : decode cX10_setFlag 21 = .ok (.ifCond .le 5, 3) := by decide +kernel
theorem dX10_setFlag_24 : decode cX10_setFlag 24 = .ok (.iconst 0, 1) := by decide +kernel
theorem dX10_setFlag_25 : decode cX10_setFlag 25 = .ok (.ireturn, 1) := by decide +kernel
theorem dX10_setFlag_26 : decode cX10_setFlag 26 = .ok (.aload_n 0, 1) := by decide +kernel
theorem dX10_setFlag_27 : decode cX10_setFlag 27 = .ok (.invokevirtual 218, 3) := by decide +kernel
theorem dX10_setFlag_30 : decode cX10_setFlag 30 = .ok (.iload_n 2, 1) := by decide +kernel
theorem dX10_setFlag_31 : decode cX10_setFlag 31 = .ok (.ifCond .eq 7, 3) := by decide +kernel
theorem dX10_setFlag_34 : decode cX10_setFlag 34 = .ok (.iconst 1, 1) := by decide +kernel
theorem dX10_setFlag_35 : decode cX10_setFlag 35 = .ok (.goto 4, 3) := by decide +kernel
theorem dX10_setFlag_38 : decode cX10_setFlag 38 = .ok (.iconst 0, 1) := by decide +kernel
theorem dX10_setFlag_39 : decode cX10_setFlag 39 = .ok (.istore 4, 2) := by decide +kernel
theorem dX10_setFlag_41 : decode cX10_setFlag 41 = .ok (.aload_n 0, 1) := by decide +kernel
theorem dX10_setFlag_42 : decode cX10_setFlag 42 = .ok (.iload_n 1, 1) := by decide +kernel
theorem dX10_setFlag_43 : decode cX10_setFlag 43 = .ok (.iload 4, 2) := by decide +kernel
theorem dX10_setFlag_45 : decode cX10_setFlag 45 = .ok (.invokevirtual 270, 3) := by decide +kernel
theorem dX10_setFlag_48 : decode cX10_setFlag 48 = .ok (.istore 5, 2) := by decide +kernel
theorem dX10_setFlag_50 : decode cX10_setFlag 50 = .ok (.aload_n 0, 1) := by decide +kernel
theorem dX10_setFlag_51 : decode cX10_setFlag 51 = .ok (.getfield 7, 3) := by decide +kernel
theorem dX10_setFlag_54 : decode cX10_setFlag 54 = .ok (.sipush 184, 3) := by decide +kernel
theorem dX10_setFlag_57 : decode cX10_setFlag 57 = .ok (.iload_n 1, 1) := by decide +kernel
theorem dX10_setFlag_58 : decode cX10_setFlag 58 = .ok (.iadd, 1) := by decide +kernel
theorem dX10_setFlag_59 : decode cX10_setFlag 59 = .ok (.iload_n 3, 1) := by decide +kernel
theorem dX10_setFlag_60 : decode cX10_setFlag 60 = .ok (.ifCond .eq 21, 3) := by decide +kernel
theorem dX10_setFlag_63 : decode cX10_setFlag 63 = .ok (.aload_n 0, 1) := by decide +kernel
theorem dX10_setFlag_64 : decode cX10_setFlag 64 = .ok (.getfield 7, 3) := by decide +kernel
theorem dX10_setFlag_67 : decode cX10_setFlag 67 = .ok (.sipush 184, 3) := by decide +kernel
theorem dX10_setFlag_70 : decode cX10_setFlag 70 = .ok (.iload_n 1, 1) := by decide +kernel
theorem dX10_setFlag_71 : decode cX10_setFlag 71 = .ok (.iadd, 1) := by decide +kernel
theorem dX10_setFlag_72 : decode cX10_setFlag 72 = .ok (.iaload, 1) := by decide +kernel
theorem dX10_setFlag_73 : decode cX10_setFlag 73 = .ok (.iconst 1, 1) := by decide +kernel
theorem dX10_setFlag_74 : decode cX10_setFlag 74 = .ok (.iload 4, 2) := by decide +kernel
theorem dX10_setFlag_76 : decode cX10_setFlag 76 = .ok (.ishl, 1) := by decide +kernel
theorem dX10_setFlag_77 : decode cX10_setFlag 77 = .ok (.ior, 1) := by decide +kernel
theorem dX10_setFlag_78 : decode cX10_setFlag 78 = .ok (.goto 20, 3) := by decide +kernel
theorem dX10_setFlag_81 : decode cX10_setFlag 81 = .ok (.aload_n 0, 1) := by decide +kernel
theorem dX10_setFlag_82 : decode cX10_setFlag 82 = .ok (.getfield 7, 3) := by decide +kernel
theorem dX10_setFlag_85 : decode cX10_setFlag 85 = .ok (.sipush 184, 3) := by decide +kernel
theorem dX10_setFlag_88 : decode cX10_setFlag 88 = .ok (.iload_n 1, 1) := by decide +kernel
theorem dX10_setFlag_89 : decode cX10_setFlag 89 = .ok (.iadd, 1) := by decide +kernel
theorem dX10_setFlag_90 : decode cX10_setFlag 90 = .ok (.iaload, 1) := by decide +kernel
theorem dX10_setFlag_91 : decode cX10_setFlag 91 = .ok (.iconst 1, 1) := by decide +kernel
theorem dX10_setFlag_92 : decode cX10_setFlag 92 = .ok (.iload 4, 2) := by decide +kernel
theorem dX10_setFlag_94 : decode cX10_setFlag 94 = .ok (.ishl, 1) := by decide +kernel
theorem dX10_setFlag_95 : decode cX10_setFlag 95 = .ok (.iconst (-1), 1) := by decide +kernel
theorem dX10_setFlag_96 : decode cX10_setFlag 96 = .ok (.ixor, 1) := by decide +kernel
theorem dX10_setFlag_97 : decode cX10_setFlag 97 = .ok (.iand, 1) := by decide +kernel
theorem dX10_setFlag_98 : decode cX10_setFlag 98 = .ok (.iastore, 1) := by decide +kernel
theorem dX10_setFlag_99 : decode cX10_setFlag 99 = .ok (.aload_n 0, 1) := by decide +kernel
theorem dX10_setFlag_100 : decode cX10_setFlag 100 = .ok (.invokevirtual 242, 3) := by decide +kernel
theorem dX10_setFlag_103 : decode cX10_setFlag 103 = .ok (.iload 5, 2) := by decide +kernel
theorem dX10_setFlag_105 : decode cX10_setFlag 105 = .ok (.ireturn, 1) := by decide +kernel
theorem dX10_isOfFamily_0 : decode cX10_isOfFamily 0 = .ok (.iload_n 1, 1) := by decide +kernel
theorem dX10_isOfFamily_1 : decode cX10_isOfFamily 1 = .ok (.iload_n 2, 1) := by decide +kernel
theorem dX10_isOfFamily_2 : decode cX10_isOfFamily 2 = .ok (.if_icmp .eq 12, 3) := by decide +kernel
theorem dX10_isOfFamily_5 : decode cX10_isOfFamily 5 = .ok (.aload_n 0, 1) := by decide +kernel
theorem dX10_isOfFamily_6 : decode cX10_isOfFamily 6 = .ok (.iload_n 1, 1) := by decide +kernel
theorem dX10_isOfFamily_7 : decode cX10_isOfFamily 7 = .ok (.iload_n 2, 1) := by decide +kernel
theorem dX10_isOfFamily_8 : decode cX10_isOfFamily 8 = .ok (.invokevirtual 175, 3) := by decide +kernel
theorem dX10_isOfFamily_11 : decode cX10_isOfFamily 11 = .ok (.ifCond .eq 7, 3) := by decide +kernel
theorem dX10_isOfFamily_14 : decode cX10_isOfFamily 14 = .ok (.iconst 1, 1) := by decide +kernel
theorem dX10_isOfFamily_15 : decode cX10_isOfFamily 15 = .ok (.goto 4, 3) := by decide +kernel
theorem dX10_isOfFamily_18 : decode cX10_isOfFamily 18 = .ok (.iconst 0, 1) := by decide +kernel
theorem dX10_isOfFamily_19 : decode cX10_isOfFamily 19 = .ok (.ireturn, 1) := by decide +kernel
theorem dX10_parents_0 : decode cX10_parents 0 = .ok (.iconst 0, 1) := by decide +kernel
theorem dX10_parents_1 : decode cX10_parents 1 = .ok (.istore_n 2, 1) := by decide +kernel
theorem dX10_parents_2 : decode cX10_parents 2 = .ok (.iconst 0, 1) := by decide +kernel
theorem dX10_parents_3 : decode cX10_parents 3 = .ok (.istore_n 3, 1) := by decide +kernel
theorem dX10_parents_4 : decode cX10_parents 4 = .ok (.iload_n 3, 1) := by decide +kernel
theorem dX10_parents_5 : decode cX10_parents 5 = .ok (.bipush 61, 2) := by decide +kernel
theorem dX10_parents_7 : decode cX10_parents 7 = .ok (.if_icmp .ge 35, 3) := by decide +kernel
theorem dX10_parents_10 : decode cX10_parents 10 = .ok (.iload_n 2, 1) := by decide +kernel
theorem dX10_parents_11 : decode cX10_parents 11 = .ok (.aload_n 0, 1) := by decide +kernel
theorem dX10_parents_12 : decode cX10_parents 12 = .ok (.iload_n 3, 1) := by decide +kernel
theorem dX10_parents_13 : decode cX10_parents 13 = .ok (.invokevirtual 146, 3) := by decide +kernel
theorem dX10_parents_16 : decode cX10_parents 16 = .ok (.ifCond .eq 17, 3) := by decide +kernel
theorem dX10_parents_19 : decode cX10_parents 19 = .ok (.aload_n 0, 1) := by decide +kernel
theorem dX10_parents_20 : decode cX10_parents 20 = .ok (.iload_n 3, 1) := by decide +kernel
theorem dX10_parents_21 : decode cX10_parents 21 = .ok (.iload_n 1, 1) := by decide +kernel
theorem dX10_parents_22 : decode cX10_parents 22 = .ok (.invokevirtual 172, 3) := by decide +kernel
theorem dX10_parents_25 : decode cX10_parents 25 = .ok (.iconst (-1), 1) := by decide +kernel
theorem dX10_parents_26 : decode cX10_parents 26 = .ok (.if_icmp .eq 7, 3) := by decide +kernel
theorem dX10_parents_29 : decode cX10_parents 29 = .ok (.iconst 1, 1) := by decide +kernel
theorem dX10_parents_30 : decode cX10_parents 30 = .ok (.goto 4, 3) := by decide +kernel
theorem dX10_parents_33 : decode cX10_parents 33 = .ok (.iconst 0, 1) := by decide +kernel
theorem dX10_parents_34 : decode cX10_parents 34 = .ok (.iadd, 1) := by decide +kernel
theorem dX10_parents_35 : decode cX10_parents 35 = .ok (.istore_n 2, 1) := by decide +kernel
theorem dX10_parents_36 : decode cX10_parents 36 = .ok (.iinc 3 1, 3) := by decide +kernel
theorem dX10_parents_39 : decode cX10_parents 39 = .ok (.goto (-35), 3) := by decide +kernel
theorem dX10_parents_42 : decode cX10_parents 42 = .ok (.iload_n 2, 1) := by decide +kernel
theorem dX10_parents_43 : decode cX10_parents 43 = .ok (.ireturn, 1) := by decide +kernel
theorem dX10_familyOf_0 : decode cX10_familyOf 0 = .ok (.iconst 0, 1) := by decide +kernel
theorem dX10_familyOf_1 : decode cX10_familyOf 1 = .ok (.istore_n 3, 1) := by decide +kernel
theorem dX10_familyOf_2 : decode cX10_familyOf 2 = .ok (.iconst 0, 1) := by decide +kernel
theorem dX10_familyOf_3 : decode cX10_familyOf 3 = .ok (.istore 4, 2) := by decide +kernel
theorem dX10_familyOf_5 : decode cX10_familyOf 5 = .ok (.iconst (-1), 1) := by decide +kernel
theorem dX10_familyOf_6 : decode cX10_familyOf 6 = .ok (.istore 5, 2) := by decide +kernel
theorem dX10_familyOf_8 : decode cX10_familyOf 8 = .ok (.iconst (-1), 1) := by decide +kernel
theorem dX10_familyOf_9 : decode cX10_familyOf 9 = .ok (.istore 6, 2) := by decide +kernel
theorem dX10_familyOf_11 : decode cX10_familyOf 11 = .ok (.iconst 0, 1) := by decide +kernel
theorem dX10_familyOf_12 : decode cX10_familyOf 12 = .ok (.istore 7, 2) := by decide +kernel
theorem dX10_familyOf_14 : decode cX10_familyOf 14 = .ok (.iconst 0, 1) := by decide +kernel
theorem dX10_familyOf_15 : decode cX10_familyOf 15 = .ok (.istore 8, 2) := by decide +kernel
theorem dX10_familyOf_17 : decode cX10_familyOf 17 = .ok (.iconst 0, 1) := by decide +kernel
theorem dX10_familyOf_18 : decode cX10_familyOf 18 = .ok (.istore 9, 2) := by decide +kernel
theorem dX10_familyOf_20 : decode cX10_familyOf 20 = .ok (.iload 9, 2) := by decide +kernel
theorem dX10_familyOf_22 : decode cX10_familyOf 22 = .ok (.bipush 61, 2) := by decide +kernel
theorem dX10_familyOf_24 : decode cX10_familyOf 24 = .ok (.if_icmp .ge 166, 3) := by decide +kernel
theorem dX10_familyOf_27 : decode cX10_familyOf 27 = .ok (.aload_n 0, 1) := by decide +kernel
theorem dX10_familyOf_28 : decode cX10_familyOf 28 = .ok (.iload 9, 2) := by decide +kernel
theorem dX10_familyOf_30 : decode cX10_familyOf 30 = .ok (.invokevirtual 146, 3) := by decide +kernel
theorem dX10_familyOf_33 : decode cX10_familyOf 33 = .ok (.ifCond .eq 151, 3) := by decide +kernel
theorem dX10_familyOf_36 : decode cX10_familyOf 36 = .ok (.aload_n 0, 1) := by decide +kernel
theorem dX10_familyOf_37 : decode cX10_familyOf 37 = .ok (.iload 9, 2) := by decide +kernel
theorem dX10_familyOf_39 : decode cX10_familyOf 39 = .ok (.iload_n 1, 1) := by decide +kernel
theorem dX10_familyOf_40 : decode cX10_familyOf 40 = .ok (.invokevirtual 273, 3) := by decide +kernel
theorem dX10_familyOf_43 : decode cX10_familyOf 43 = .ok (.ifCond .ne 6, 3) := by decide +kernel
theorem dX10_familyOf_46 : decode cX10_familyOf 46 = .ok (.goto 138, 3) := by decide +kernel
theorem dX10_familyOf_49 : decode cX10_familyOf 49 = .ok (.iinc 3 1, 3) := by decide +kernel
theorem dX10_familyOf_52 : decode cX10_familyOf 52 = .ok (.iload 4, 2) := by decide +kernel
theorem dX10_familyOf_54 : decode cX10_familyOf 54 = .ok (.aload_n 0, 1) := by decide +kernel
theorem dX10_familyOf_55 : decode cX10_familyOf 55 = .ok (.getfield 7, 3) := by decide +kernel
theorem dX10_familyOf_58 : decode cX10_familyOf 58 = .ok (.bipush 62, 2) := by decide +kernel
theorem dX10_familyOf_60 : decode cX10_familyOf 60 = .ok (.iload 9, 2) := by decide +kernel
theorem dX10_familyOf_62 : decode cX10_familyOf 62 = .ok (.iadd, 1) := by decide +kernel
theorem dX10_familyOf_63 : decode cX10_familyOf 63 = .ok (.iaload, 1) := by decide +kernel
theorem dX10_familyOf_64 : decode cX10_familyOf 64 = .ok (.iadd, 1) := by decide +kernel
theorem dX10_familyOf_65 : decode cX10_familyOf 65 = .ok (.istore 4, 2) := by decide +kernel
theorem dX10_familyOf_67 : decode cX10_familyOf 67 = .ok (.aload_n 0, 1) := by decide +kernel
theorem dX10_familyOf_68 : decode cX10_familyOf 68 = .ok (.getfield 7, 3) := by decide +kernel
theorem dX10_familyOf_71 : decode cX10_familyOf 71 = .ok (.bipush 123, 2) := by decide +kernel
theorem dX10_familyOf_73 : decode cX10_familyOf 73 = .ok (.iload 9, 2) := by decide +kernel
theorem dX10_familyOf_75 : decode cX10_familyOf 75 = .ok (.iadd, 1) := by decide +kernel
theorem dX10_familyOf_76 : decode cX10_familyOf 76 = .ok (.iaload, 1) := by decide +kernel
theorem dX10_familyOf_77 : decode cX10_familyOf 77 = .ok (.istore 10, 2) := by decide +kernel
theorem dX10_familyOf_79 : decode cX10_familyOf 79 = .ok (.iload 10, 2) := by decide +kernel
theorem dX10_familyOf_81 : decode cX10_familyOf 81 = .ok (.iconst (-1), 1) := by decide +kernel
theorem dX10_familyOf_82 : decode cX10_familyOf 82 = .ok (.if_icmp .eq 21, 3) := by decide +kernel
theorem dX10_familyOf_85 : decode cX10_familyOf 85 = .ok (.iload 5, 2) := by decide +kernel
theorem dX10_familyOf_87 : decode cX10_familyOf 87 = .ok (.iconst (-1), 1) := by decide +kernel
theorem dX10_familyOf_88 : decode cX10_familyOf 88 = .ok (.if_icmp .eq 10, 3) := by decide +kernel
theorem dX10_familyOf_91 : decode cX10_familyOf 91 = .ok (.iload 10, 2) := by decide +kernel
theorem dX10_familyOf_93 : decode cX10_familyOf 93 = .ok (.iload 5, 2) := by decide +kernel
theorem dX10_familyOf_95 : decode cX10_familyOf 95 = .ok (.if_icmp .ge 8, 3) := by decide +kernel
theorem dX10_familyOf_98 : decode cX10_familyOf 98 = .ok (.iload 10, 2) := by decide +kernel
theorem dX10_familyOf_100 : decode cX10_familyOf 100 = .ok (.goto 5, 3) := by decide +kernel
theorem dX10_familyOf_103 : decode cX10_familyOf 103 = .ok (.iload 5, 2) := by decide +kernel
theorem dX10_familyOf_105 : decode cX10_familyOf 105 = .ok (.istore 5, 2) := by decide +kernel
theorem dX10_familyOf_107 : decode cX10_familyOf 107 = .ok (.iload 10, 2) := by decide +kernel
theorem dX10_familyOf_109 : decode cX10_familyOf 109 = .ok (.iload 6, 2) := by decide +kernel
theorem dX10_familyOf_111 : decode cX10_familyOf 111 = .ok (.if_icmp .le 8, 3) := by decide +kernel
theorem dX10_familyOf_114 : decode cX10_familyOf 114 = .ok (.iload 10, 2) := by decide +kernel
theorem dX10_familyOf_116 : decode cX10_familyOf 116 = .ok (.goto 5, 3) := by decide +kernel
theorem dX10_familyOf_119 : decode cX10_familyOf 119 = .ok (.iload 6, 2) := by decide +kernel
theorem dX10_familyOf_121 : decode cX10_familyOf 121 = .ok (.istore 6, 2) := by decide +kernel
theorem dX10_familyOf_123 : decode cX10_familyOf 123 = .ok (.aload_n 0, 1) := by decide +kernel
theorem dX10_familyOf_124 : decode cX10_familyOf 124 = .ok (.getfield 7, 3) := by decide +kernel
theorem dX10_familyOf_127 : decode cX10_familyOf 127 = .ok (.sipush 916, 3) := by decide +kernel
theorem dX10_familyOf_130 : decode cX10_familyOf 130 = .ok (.iload 9, 2) := by decide +kernel
theorem dX10_familyOf_132 : decode cX10_familyOf 132 = .ok (.iadd, 1) := by decide +kernel
theorem dX10_familyOf_133 : decode cX10_familyOf 133 = .ok (.iaload, 1) := by decide +kernel
theorem dX10_familyOf_134 : decode cX10_familyOf 134 = .ok (.ifCond .ne 7, 3) := by decide +kernel
theorem dX10_familyOf_137 : decode cX10_familyOf 137 = .ok (.iconst 1, 1) := by decide +kernel
theorem dX10_familyOf_138 : decode cX10_familyOf 138 = .ok (.goto 4, 3) := by decide +kernel
theorem dX10_familyOf_141 : decode cX10_familyOf 141 = .ok (.iconst 0, 1) := by decide +kernel
theorem dX10_familyOf_142 : decode cX10_familyOf 142 = .ok (.istore 11, 2) := by decide +kernel
theorem dX10_familyOf_144 : decode cX10_familyOf 144 = .ok (.iload 7, 2) := by decide +kernel
theorem dX10_familyOf_146 : decode cX10_familyOf 146 = .ok (.iload 11, 2) := by decide +kernel
theorem dX10_familyOf_148 : decode cX10_familyOf 148 = .ok (.ifCond .eq 7, 3) := by decide +kernel
theorem dX10_familyOf_151 : decode cX10_familyOf 151 = .ok (.iconst 1, 1) := by decide +kernel
theorem dX10_familyOf_152 : decode cX10_familyOf 152 = .ok (.goto 4, 3) := by decide +kernel
theorem dX10_familyOf_155 : decode cX10_familyOf 155 = .ok (.iconst 0, 1) := by decide +kernel
theorem dX10_familyOf_156 : decode cX10_familyOf 156 = .ok (.iadd, 1) := by decide +kernel
theorem dX10_familyOf_157 : decode cX10_familyOf 157 = .ok (.istore 7, 2) := by decide +kernel
theorem dX10_familyOf_159 : decode cX10_familyOf 159 = .ok (.iload 8, 2) := by decide +kernel
theorem dX10_familyOf_161 : decode cX10_familyOf 161 = .ok (.iload 11, 2) := by decide +kernel
theorem dX10_familyOf_163 : decode cX10_familyOf 163 = .ok (.ifCond .eq 17, 3) := by decide +kernel
theorem dX10_familyOf_166 : decode cX10_familyOf 166 = .ok (.aload_n 0, 1) := by decide +kernel
theorem dX10_familyOf_167 : decode cX10_familyOf 167 = .ok (.iload 9, 2) := by decide +kernel
theorem dX10_familyOf_169 : decode cX10_familyOf 169 = .ok (.iconst 0, 1) := by decide +kernel
theorem dX10_familyOf_170 : decode cX10_familyOf 170 = .ok (.invokevirtual 270, 3) := by decide +kernel
theorem dX10_familyOf_173 : decode cX10_familyOf 173 = .ok (.ifCond .eq 7, 3) := by decide +kernel
theorem dX10_familyOf_176 : decode cX10_familyOf 176 = .ok (.iconst 1, 1) := by decide +kernel
theorem dX10_familyOf_177 : decode cX10_familyOf 177 = .ok (.goto 4, 3) := by decide +kernel
theorem dX10_familyOf_180 : decode cX10_familyOf 180 = .ok (.iconst 0, 1) := by decide +kernel
theorem dX10_familyOf_181 : decode cX10_familyOf 181 = .ok (.iadd, 1) := by decide +kernel
theorem dX10_familyOf_182 : decode cX10_familyOf 182 = .ok (.istore 8, 2) := by decide +kernel
theorem dX10_familyOf_184 : decode cX10_familyOf 184 = .ok (.iinc 9 1, 3) := by decide +kernel
theorem dX10_familyOf_187 : decode cX10_familyOf 187 = .ok (.goto (-167), 3) := by decide +kernel
theorem dX10_familyOf_190 : decode cX10_familyOf 190 = .ok (.iload_n 2, 1) := by decide +kernel
theorem dX10_familyOf_191 : decode cX10_familyOf 191 = .ok (.ifCond .ne 7, 3) := by decide +kernel
theorem dX10_familyOf_194 : decode cX10_familyOf 194 = .ok (.iload_n 3, 1) := by decide +kernel
theorem dX10_familyOf_195 : decode cX10_familyOf 195 = .ok (.goto 45, 3) := by decide +kernel
theorem dX10_familyOf_198 : decode cX10_familyOf 198 = .ok (.iload_n 2, 1) := by decide +kernel
theorem dX10_familyOf_199 : decode cX10_familyOf 199 = .ok (.iconst 1, 1) := by decide +kernel
theorem dX10_familyOf_200 : decode cX10_familyOf 200 = .ok (.if_icmp .ne 8, 3) := by decide +kernel
theorem dX10_familyOf_203 : decode cX10_familyOf 203 = .ok (.iload 4, 2) := by decide +kernel
theorem dX10_familyOf_205 : decode cX10_familyOf 205 = .ok (.goto 35, 3) := by decide +kernel
theorem dX10_familyOf_208 : decode cX10_familyOf 208 = .ok (.iload_n 2, 1) := by decide +kernel
theorem dX10_familyOf_209 : decode cX10_familyOf 209 = .ok (.iconst 2, 1) := by decide +kernel
theorem dX10_familyOf_210 : decode cX10_familyOf 210 = .ok (.if_icmp .ne 8, 3) := by decide +kernel
theorem dX10_familyOf_213 : decode cX10_familyOf 213 = .ok (.iload 5, 2) := by decide +kernel
theorem dX10_familyOf_215 : decode cX10_familyOf 215 = .ok (.goto 25, 3) := by decide +kernel
theorem dX10_familyOf_218 : decode cX10_familyOf 218 = .ok (.iload_n 2, 1) := by decide +kernel
theorem dX10_familyOf_219 : decode cX10_familyOf 219 = .ok (.iconst 3, 1) := by decide +kernel
theorem dX10_familyOf_220 : decode cX10_familyOf 220 = .ok (.if_icmp .ne 8, 3) := by decide +kernel
theorem dX10_familyOf_223 : decode cX10_familyOf 223 = .ok (.iload 6, 2) := by decide +kernel
theorem dX10_familyOf_225 : decode cX10_familyOf 225 = .ok (.goto 15, 3) := by decide +kernel
theorem dX10_familyOf_228 : decode cX10_familyOf 228 = .ok (.iload_n 2, 1) := by decide +kernel
theorem dX10_familyOf_229 : decode cX10_familyOf 229 = .ok (.iconst 4, 1) := by decide +kernel
theorem dX10_familyOf_230 : decode cX10_familyOf 230 = .ok (.if_icmp .ne 8, 3) := by decide +kernel
theorem dX10_familyOf_233 : decode cX10_familyOf 233 = .ok (.iload 7, 2) := by decide +kernel
theorem dX10_familyOf_235 : decode cX10_familyOf 235 = .ok (.goto 5, 3) := by decide +kernel
theorem dX10_familyOf_238 : decode cX10_familyOf 238 = .ok (.iload 8, 2) := by decide +kernel
theorem dX10_familyOf_240 : decode cX10_familyOf 240 = .ok (.ireturn, 1) := by decide +kernel
theorem dX10_item_0 : decode cX10_item 0 = .ok (.aload_n 0, 1) := by decide +kernel
theorem dX10_item_1 : decode cX10_item 1 = .ok (.iconst 0, 1) := by decide +kernel
theorem dX10_item_2 : decode cX10_item 2 = .ok (.putfield 139, 3) := by decide +kernel
theorem dX10_item_5 : decode cX10_item 5 = .ok (.aload_n 0, 1) := by decide +kernel
theorem dX10_item_6 : decode cX10_item 6 = .ok (.iload_n 1, 1) := by decide +kernel
theorem dX10_item_7 : decode cX10_item 7 = .ok (.invokevirtual 146, 3) := by decide +kernel
theorem dX10_item_10 : decode cX10_item 10 = .ok (.ifCond .ne 9, 3) := by decide +kernel
theorem dX10_item_13 : decode cX10_item 13 = .ok (.aload_n 0, 1) := by decide +kernel
theorem dX10_item_14 : decode cX10_item 14 = .ok (.iconst 1, 1) := by decide +kernel
theorem dX10_item_15 : decode cX10_item 15 = .ok (.invokevirtual 186, 3) := by decide +kernel
theorem dX10_item_18 : decode cX10_item 18 = .ok (.ireturn, 1) := by decide +kernel
theorem dX10_item_19 : decode cX10_item 19 = .ok (.aload_n 0, 1) := by decide +kernel
theorem dX10_item_20 : decode cX10_item 20 = .ok (.invokevirtual 169, 3) := by decide +kernel
theorem dX10_item_23 : decode cX10_item 23 = .ok (.iload_n 2, 1) := by decide +kernel
theorem dX10_item_24 : decode cX10_item 24 = .ok (.tableswitch 168 0 14 #[76, 82, 93, 100, 111, 121, 131, 146, 168, 168, 168, 168, 168, 168, 161], 76) := by decide +kernel
theorem dX10_item_100 : decode cX10_item 100 = .ok (.aload_n 0, 1) := by decide +kernel
theorem dX10_item_101 : decode cX10_item 101 = .ok (.iload_n 1, 1) := by decide +kernel
theorem dX10_item_102 : decode cX10_item 102 = .ok (.invokevirtual 276, 3) := by decide +kernel
theorem dX10_item_105 : decode cX10_item 105 = .ok (.ireturn, 1) := by decide +kernel
theorem dX10_item_106 : decode cX10_item 106 = .ok (.aload_n 0, 1) := by decide +kernel
theorem dX10_item_107 : decode cX10_item 107 = .ok (.getfield 7, 3) := by decide +kernel
theorem dX10_item_110 : decode cX10_item 110 = .ok (.sipush 916, 3) := by decide +kernel
theorem dX10_item_113 : decode cX10_item 113 = .ok (.iload_n 1, 1) := by decide +kernel
theorem dX10_item_114 : decode cX10_item 114 = .ok (.iadd, 1) := by decide +kernel
theorem dX10_item_115 : decode cX10_item 115 = .ok (.iaload, 1) := by decide +kernel
theorem dX10_item_116 : decode cX10_item 116 = .ok (.ireturn, 1) := by decide +kernel
theorem dX10_item_117 : decode cX10_item 117 = .ok (.aload_n 0, 1) := by decide +kernel
theorem dX10_item_118 : decode cX10_item 118 = .ok (.getfield 41, 3) := by decide +kernel
theorem dX10_item_121 : decode cX10_item 121 = .ok (.iload_n 1, 1) := by decide +kernel
theorem dX10_item_122 : decode cX10_item 122 = .ok (.iaload, 1) := by decide +kernel
theorem dX10_item_123 : decode cX10_item 123 = .ok (.ireturn, 1) := by decide +kernel
theorem dX10_item_124 : decode cX10_item 124 = .ok (.aload_n 0, 1) := by decide +kernel
theorem dX10_item_125 : decode cX10_item 125 = .ok (.getfield 7, 3) := by decide +kernel
theorem dX10_item_128 : decode cX10_item 128 = .ok (.sipush 245, 3) := by decide +kernel
theorem dX10_item_131 : decode cX10_item 131 = .ok (.iload_n 1, 1) := by decide +kernel
theorem dX10_item_132 : decode cX10_item 132 = .ok (.iadd, 1) := by decide +kernel
theorem dX10_item_133 : decode cX10_item 133 = .ok (.iaload, 1) := by decide +kernel
theorem dX10_item_134 : decode cX10_item 134 = .ok (.ireturn, 1) := by decide +kernel
theorem dX10_item_135 : decode cX10_item 135 = .ok (.aload_n 0, 1) := by decide +kernel
theorem dX10_item_136 : decode cX10_item 136 = .ok (.getfield 7, 3) := by decide +kernel
theorem dX10_item_139 : decode cX10_item 139 = .ok (.bipush 62, 2) := by decide +kernel
theorem dX10_item_141 : decode cX10_item 141 = .ok (.iload_n 1, 1) := by decide +kernel
theorem dX10_item_142 : decode cX10_item 142 = .ok (.iadd, 1) := by decide +kernel
theorem dX10_item_143 : decode cX10_item 143 = .ok (.iaload, 1) := by decide +kernel
theorem dX10_item_144 : decode cX10_item 144 = .ok (.ireturn, 1) := by decide +kernel
theorem dX10_item_145 : decode cX10_item 145 = .ok (.aload_n 0, 1) := by decide +kernel
theorem dX10_item_146 : decode cX10_item 146 = .ok (.getfield 7, 3) := by decide +kernel
theorem dX10_item_149 : decode cX10_item 149 = .ok (.bipush 123, 2) := by decide +kernel
theorem dX10_item_151 : decode cX10_item 151 = .ok (.iload_n 1, 1) := by decide +kernel
theorem dX10_item_152 : decode cX10_item 152 = .ok (.iadd, 1) := by decide +kernel
theorem dX10_item_153 : decode cX10_item 153 = .ok (.iaload, 1) := by decide +kernel
theorem dX10_item_154 : decode cX10_item 154 = .ok (.ireturn, 1) := by decide +kernel
theorem dX10_item_155 : decode cX10_item 155 = .ok (.aload_n 0, 1) := by decide +kernel
theorem dX10_item_156 : decode cX10_item 156 = .ok (.iload_n 1, 1) := by decide +kernel
theorem dX10_item_157 : decode cX10_item 157 = .ok (.iconst 0, 1) := by decide +kernel
theorem dX10_item_158 : decode cX10_item 158 = .ok (.invokevirtual 270, 3) := by decide +kernel
theorem dX10_item_161 : decode cX10_item 161 = .ok (.ifCond .eq 7, 3) := by decide +kernel
theorem dX10_item_164 : decode cX10_item 164 = .ok (.iconst 1, 1) := by decide +kernel
theorem dX10_item_165 : decode cX10_item 165 = .ok (.goto 4, 3) := by decide +kernel
theorem dX10_item_168 : decode cX10_item 168 = .ok (.iconst 0, 1) := by decide +kernel
theorem dX10_item_169 : decode cX10_item 169 = .ok (.ireturn, 1) := by decide +kernel
theorem dX10_item_170 : decode cX10_item 170 = .ok (.aload_n 0, 1) := by decide +kernel
theorem dX10_item_171 : decode cX10_item 171 = .ok (.iload_n 1, 1) := by decide +kernel
theorem dX10_item_172 : decode cX10_item 172 = .ok (.iconst 1, 1) := by decide +kernel
theorem dX10_item_173 : decode cX10_item 173 = .ok (.invokevirtual 270, 3) := by decide +kernel
theorem dX10_item_176 : decode cX10_item 176 = .ok (.ifCond .eq 7, 3) := by decide +kernel
theorem dX10_item_179 : decode cX10_item 179 = .ok (.iconst 1, 1) := by decide +kernel
theorem dX10_item_180 : decode cX10_item 180 = .ok (.goto 4, 3) := by decide +kernel
theorem dX10_item_183 : decode cX10_item 183 = .ok (.iconst 0, 1) := by decide +kernel
theorem dX10_item_184 : decode cX10_item 184 = .ok (.ireturn, 1) := by decide +kernel
theorem dX10_item_185 : decode cX10_item 185 = .ok (.aload_n 0, 1) := by decide +kernel
theorem dX10_item_186 : decode cX10_item 186 = .ok (.getfield 44, 3) := by decide +kernel
theorem dX10_item_189 : decode cX10_item 189 = .ok (.iload_n 1, 1) := by decide +kernel
theorem dX10_item_190 : decode cX10_item 190 = .ok (.iaload, 1) := by decide +kernel
theorem dX10_item_191 : decode cX10_item 191 = .ok (.ireturn, 1) := by decide +kernel
theorem dX10_item_192 : decode cX10_item 192 = .ok (.iload_n 2, 1) := by decide +kernel
theorem dX10_item_193 : decode cX10_item 193 = .ok (.bipush 8, 2) := by decide +kernel
theorem dX10_item_195 : decode cX10_item 195 = .ok (.bipush 13, 2) := by decide +kernel
theorem dX10_item_197 : decode cX10_item 197 = .ok (.invokestatic 142, 3) := by decide +kernel
theorem dX10_item_200 : decode cX10_item 200 = .ok (.ifCond .eq 15, 3) := by decide +kernel
theorem dX10_item_203 : decode cX10_item 203 = .ok (.aload_n 0, 1) := by decide +kernel
theorem dX10_item_204 : decode cX10_item 204 = .ok (.iload_n 1, 1) := by decide +kernel
theorem dX10_item_205 : decode cX10_item 205 = .ok (.iload_n 2, 1) := by decide +kernel
theorem dX10_item_206 : decode cX10_item 206 = .ok (.bipush 8, 2) := by decide +kernel
theorem dX10_item_208 : decode cX10_item 208 = .ok (.isub, 1) := by decide +kernel
theorem dX10_item_209 : decode cX10_item 209 = .ok (.invokevirtual 279, 3) := by decide +kernel
theorem dX10_item_212 : decode cX10_item 212 = .ok (.goto 8, 3) := by decide +kernel
theorem dX10_item_215 : decode cX10_item 215 = .ok (.aload_n 0, 1) := by decide +kernel
theorem dX10_item_216 : decode cX10_item 216 = .ok (.iconst 2, 1) := by decide +kernel
theorem dX10_item_217 : decode cX10_item 217 = .ok (.invokevirtual 186, 3) := by decide +kernel
theorem dX10_item_220 : decode cX10_item 220 = .ok (.ireturn, 1) := by decide +kernel
theorem dX10_related_0 : decode cX10_related 0 = .ok (.aload_n 0, 1) := by decide +kernel
theorem dX10_related_1 : decode cX10_related 1 = .ok (.iconst 0, 1) := by decide +kernel
theorem dX10_related_2 : decode cX10_related 2 = .ok (.putfield 139, 3) := by decide +kernel
theorem dX10_related_5 : decode cX10_related 5 = .ok (.aload_n 0, 1) := by decide +kernel
theorem dX10_related_6 : decode cX10_related 6 = .ok (.iload_n 1, 1) := by decide +kernel
theorem dX10_related_7 : decode cX10_related 7 = .ok (.invokevirtual 146, 3) := by decide +kernel
theorem dX10_related_10 : decode cX10_related 10 = .ok (.ifCond .ne 9, 3) := by decide +kernel
theorem dX10_related_13 : decode cX10_related 13 = .ok (.aload_n 0, 1) := by decide +kernel
theorem dX10_related_14 : decode cX10_related 14 = .ok (.iconst 1, 1) := by decide +kernel
theorem dX10_related_15 : decode cX10_related 15 = .ok (.invokevirtual 186, 3) := by decide +kernel
theorem dX10_related_18 : decode cX10_related 18 = .ok (.ireturn, 1) := by decide +kernel
theorem dX10_related_19 : decode cX10_related 19 = .ok (.iload_n 3, 1) := by decide +kernel
theorem dX10_related_20 : decode cX10_related 20 = .ok (.ifCond .ne 38, 3) := by decide +kernel
theorem dX10_related_23 : decode cX10_related 23 = .ok (.iload_n 2, 1) := by decide +kernel
theorem dX10_related_24 : decode cX10_related 24 = .ok (.iconst 0, 1) := by decide +kernel
theorem dX10_related_25 : decode cX10_related 25 = .ok (.aload_n 0, 1) := by decide +kernel
theorem dX10_related_26 : decode cX10_related 26 = .ok (.getfield 7, 3) := by decide +kernel
theorem dX10_related_29 : decode cX10_related 29 = .ok (.sipush 916, 3) := by decide +kernel
theorem dX10_related_32 : decode cX10_related 32 = .ok (.iload_n 1, 1) := by decide +kernel
theorem dX10_related_33 : decode cX10_related 33 = .ok (.iadd, 1) := by decide +kernel
theorem dX10_related_34 : decode cX10_related 34 = .ok (.iaload, 1) := by decide +kernel
theorem dX10_related_35 : decode cX10_related 35 = .ok (.iconst 1, 1) := by decide +kernel
theorem dX10_related_36 : decode cX10_related 36 = .ok (.isub, 1) := by decide +kernel
theorem dX10_related_37 : decode cX10_related 37 = .ok (.invokestatic 142, 3) := by decide +kernel
theorem dX10_related_40 : decode cX10_related 40 = .ok (.ifCond .eq 12, 3) := by decide +kernel
theorem dX10_related_43 : decode cX10_related 43 = .ok (.aload_n 0, 1) := by decide +kernel
theorem dX10_related_44 : decode cX10_related 44 = .ok (.iload_n 1, 1) := by decide +kernel
theorem dX10_related_45 : decode cX10_related 45 = .ok (.iload_n 2, 1) := by decide +kernel
theorem dX10_related_46 : decode cX10_related 46 = .ok (.invokevirtual 150, 3) := by decide +kernel
theorem dX10_related_49 : decode cX10_related 49 = .ok (.goto 8, 3) := by decide +kernel
theorem dX10_related_52 : decode cX10_related 52 = .ok (.aload_n 0, 1) := by decide +kernel
theorem dX10_related_53 : decode cX10_related 53 = .ok (.iconst 2, 1) := by decide +kernel
theorem dX10_related_54 : decode cX10_related 54 = .ok (.invokevirtual 186, 3) := by decide +kernel
theorem dX10_related_57 : decode cX10_related 57 = .ok (.ireturn, 1) := by decide +kernel
theorem dX10_related_58 : decode cX10_related 58 = .ok (.iconst 0, 1) := by decide +kernel
theorem dX10_related_59 : decode cX10_related 59 = .ok (.istore 4, 2) := by decide +kernel
theorem dX10_related_61 : decode cX10_related 61 = .ok (.iconst 0, 1) := by decide +kernel
theorem dX10_related_62 : decode cX10_related 62 = .ok (.istore 5, 2) := by decide +kernel
theorem dX10_related_64 : decode cX10_related 64 = .ok (.iload 5, 2) := by decide +kernel
theorem dX10_related_66 : decode cX10_related 66 = .ok (.bipush 61, 2) := by decide +kernel
theorem dX10_related_68 : decode cX10_related 68 = .ok (.if_icmp .ge 41, 3) := by decide +kernel
theorem dX10_related_71 : decode cX10_related 71 = .ok (.aload_n 0, 1) := by decide +kernel
theorem dX10_related_72 : decode cX10_related 72 = .ok (.iload 5, 2) := by decide +kernel
theorem dX10_related_74 : decode cX10_related 74 = .ok (.invokevirtual 146, 3) := by decide +kernel
theorem dX10_related_77 : decode cX10_related 77 = .ok (.ifCond .eq 26, 3) := by decide +kernel
theorem dX10_related_80 : decode cX10_related 80 = .ok (.aload_n 0, 1) := by decide +kernel
theorem dX10_related_81 : decode cX10_related 81 = .ok (.iload 5, 2) := by decide +kernel
theorem dX10_related_83 : decode cX10_related 83 = .ok (.iload_n 1, 1) := by decide +kernel
theorem dX10_related_84 : decode cX10_related 84 = .ok (.invokevirtual 172, 3) := by decide +kernel
theorem dX10_related_87 : decode cX10_related 87 = .ok (.iconst (-1), 1) := by decide +kernel
theorem dX10_related_88 : decode cX10_related 88 = .ok (.if_icmp .eq 15, 3) := by decide +kernel
theorem dX10_related_91 : decode cX10_related 91 = .ok (.iload 4, 2) := by decide +kernel
theorem dX10_related_93 : decode cX10_related 93 = .ok (.iload_n 2, 1) := by decide +kernel
theorem dX10_related_94 : decode cX10_related 94 = .ok (.if_icmp .ne 6, 3) := by decide +kernel
theorem dX10_related_97 : decode cX10_related 97 = .ok (.iload 5, 2) := by decide +kernel
theorem dX10_related_99 : decode cX10_related 99 = .ok (.ireturn, 1) := by decide +kernel
theorem dX10_related_100 : decode cX10_related 100 = .ok (.iinc 4 1, 3) := by decide +kernel
theorem dX10_related_103 : decode cX10_related 103 = .ok (.iinc 5 1, 3) := by decide +kernel
theorem dX10_related_106 : decode cX10_related 106 = .ok (.goto (-42), 3) := by decide +kernel
theorem dX10_related_109 : decode cX10_related 109 = .ok (.aload_n 0, 1) := by decide +kernel
theorem dX10_related_110 : decode cX10_related 110 = .ok (.iconst 2, 1) := by decide +kernel
theorem dX10_related_111 : decode cX10_related 111 = .ok (.invokevirtual 186, 3) := by decide +kernel
theorem dX10_related_114 : decode cX10_related 114 = .ok (.ireturn, 1) := by decide +kernel
theorem dX10_letter_0 : decode cX10_letter 0 = .ok (.aload_n 0, 1) := by decide +kernel
theorem dX10_letter_1 : decode cX10_letter 1 = .ok (.aload_n 0, 1) := by decide +kernel
theorem dX10_letter_2 : decode cX10_letter 2 = .ok (.iload_n 1, 1) := by decide +kernel
theorem dX10_letter_3 : decode cX10_letter 3 = .ok (.invokevirtual 245, 3) := by decide +kernel
theorem dX10_letter_6 : decode cX10_letter 6 = .ok (.ifCond .ne 7, 3) := by decide +kernel
theorem dX10_letter_9 : decode cX10_letter 9 = .ok (.iconst 1, 1) := by decide +kernel
theorem dX10_letter_10 : decode cX10_letter 10 = .ok (.goto 28, 3) := by decide +kernel
theorem dX10_letter_13 : decode cX10_letter 13 = .ok (.iload_n 2, 1) := by decide +kernel
theorem dX10_letter_14 : decode cX10_letter 14 = .ok (.iconst 0, 1) := by decide +kernel
theorem dX10_letter_15 : decode cX10_letter 15 = .ok (.aload_n 0, 1) := by decide +kernel
theorem dX10_letter_16 : decode cX10_letter 16 = .ok (.getfield 7, 3) := by decide +kernel
theorem dX10_letter_19 : decode cX10_letter 19 = .ok (.sipush 245, 3) := by decide +kernel
theorem dX10_letter_22 : decode cX10_letter 22 = .ok (.iload_n 1, 1) := by decide +kernel
theorem dX10_letter_23 : decode cX10_letter 23 = .ok (.iadd, 1) := by decide +kernel
theorem dX10_letter_24 : decode cX10_letter 24 = .ok (.iaload, 1) := by decide +kernel
theorem dX10_letter_25 : decode cX10_letter 25 = .ok (.iconst 1, 1) := by decide +kernel
theorem dX10_letter_26 : decode cX10_letter 26 = .ok (.isub, 1) := by decide +kernel
theorem dX10_letter_27 : decode cX10_letter 27 = .ok (.invokestatic 142, 3) := by decide +kernel
theorem dX10_letter_30 : decode cX10_letter 30 = .ok (.ifCond .ne 7, 3) := by decide +kernel
theorem dX10_letter_33 : decode cX10_letter 33 = .ok (.iconst 2, 1) := by decide +kernel
theorem dX10_letter_34 : decode cX10_letter 34 = .ok (.goto 4, 3) := by decide +kernel
theorem dX10_letter_37 : decode cX10_letter 37 = .ok (.iconst 0, 1) := by decide +kernel
theorem dX10_letter_38 : decode cX10_letter 38 = .ok (.putfield 139, 3) := by decide +kernel
theorem dX10_letter_41 : decode cX10_letter 41 = .ok (.aload_n 0, 1) := by decide +kernel
theorem dX10_letter_42 : decode cX10_letter 42 = .ok (.getfield 139, 3) := by decide +kernel
theorem dX10_letter_45 : decode cX10_letter 45 = .ok (.ifCond .le 7, 3) := by decide +kernel
theorem dX10_letter_48 : decode cX10_letter 48 = .ok (.iconst 0, 1) := by decide +kernel
theorem dX10_letter_49 : decode cX10_letter 49 = .ok (.goto 19, 3) := by decide +kernel
theorem dX10_letter_52 : decode cX10_letter 52 = .ok (.aload_n 0, 1) := by decide +kernel
theorem dX10_letter_53 : decode cX10_letter 53 = .ok (.getfield 7, 3) := by decide +kernel
theorem dX10_letter_56 : decode cX10_letter 56 = .ok (.sipush 306, 3) := by decide +kernel
theorem dX10_letter_59 : decode cX10_letter 59 = .ok (.bipush 10, 2) := by decide +kernel
theorem dX10_letter_61 : decode cX10_letter 61 = .ok (.iload_n 1, 1) := by decide +kernel
theorem dX10_letter_62 : decode cX10_letter 62 = .ok (.imul, 1) := by decide +kernel
theorem dX10_letter_63 : decode cX10_letter 63 = .ok (.iadd, 1) := by decide +kernel
theorem dX10_letter_64 : decode cX10_letter 64 = .ok (.iload_n 2, 1) := by decide +kernel
theorem dX10_letter_65 : decode cX10_letter 65 = .ok (.iadd, 1) := by decide +kernel
theorem dX10_letter_66 : decode cX10_letter 66 = .ok (.iaload, 1) := by decide +kernel
theorem dX10_letter_67 : decode cX10_letter 67 = .ok (.i2c, 1) := by decide +kernel
theorem dX10_letter_68 : decode cX10_letter 68 = .ok (.ireturn, 1) := by decide +kernel
theorem dX10_isBelow_0 : decode cX10_isBelow 0 = .ok (.aload_n 0, 1) := by decide +kernel
theorem dX10_isBelow_1 : decode cX10_isBelow 1 = .ok (.aload_n 0, 1) := by decide +kernel
theorem dX10_isBelow_2 : decode cX10_isBelow 2 = .ok (.iload_n 1, 1) := by decide +kernel
theorem dX10_isBelow_3 : decode cX10_isBelow 3 = .ok (.invokevirtual 146, 3) := by decide +kernel
theorem dX10_isBelow_6 : decode cX10_isBelow 6 = .ok (.ifCond .eq 15, 3) := by decide +kernel
theorem dX10_isBelow_9 : decode cX10_isBelow 9 = .ok (.aload_n 0, 1) := by decide +kernel
theorem dX10_isBelow_10 : decode cX10_isBelow 10 = .ok (.iload_n 2, 1) := by decide +kernel
theorem dX10_isBelow_11 : decode cX10_isBelow 11 = .ok (.invokevirtual 146, 3) := by decide +kernel
theorem dX10_isBelow_14 : decode cX10_isBelow 14 = .ok (.ifCond .eq 7, 3) := by decide +kernel
theorem dX10_isBelow_17 : decode cX10_isBelow 17 = .ok (.iconst 0, 1) := by decide +kernel
theorem dX10_isBelow_18 : decode cX10_isBelow 18 = .ok (.goto 4, 3) := by decide +kernel
theorem dX10_isBelow_21 : decode cX10_isBelow 21 = .ok (.iconst 1, 1) := by decide +kernel
theorem dX10_isBelow_22 : decode cX10_isBelow 22 = .ok (.putfield 139, 3) := by decide +kernel
theorem dX10_isBelow_25 : decode cX10_isBelow 25 = .ok (.aload_n 0, 1) := by decide +kernel
theorem dX10_isBelow_26 : decode cX10_isBelow 26 = .ok (.getfield 139, 3) := by decide +kernel
theorem dX10_isBelow_29 : decode cX10_isBelow 29 = .ok (.ifCond .le 5, 3) := by decide +kernel
theorem dX10_isBelow_32 : decode cX10_isBelow 32 = .ok (.iconst 0, 1) := by decide +kernel
theorem dX10_isBelow_33 : decode cX10_isBelow 33 = .ok (.ireturn, 1) := by decide +kernel
theorem dX10_isBelow_34 : decode cX10_isBelow 34 = .ok (.aload_n 0, 1) := by decide +kernel
theorem dX10_isBelow_35 : decode cX10_isBelow 35 = .ok (.invokevirtual 169, 3) := by decide +kernel
theorem dX10_isBelow_38 : decode cX10_isBelow 38 = .ok (.aload_n 0, 1) := by decide +kernel
theorem dX10_isBelow_39 : decode cX10_isBelow 39 = .ok (.iload_n 1, 1) := by decide +kernel
theorem dX10_isBelow_40 : decode cX10_isBelow 40 = .ok (.iload_n 2, 1) := by decide +kernel
theorem dX10_isBelow_41 : decode cX10_isBelow 41 = .ok (.invokevirtual 175, 3) := by decide +kernel
theorem dX10_isBelow_44 : decode cX10_isBelow 44 = .ok (.ireturn, 1) := by decide +kernel
theorem dX10_fitting_0 : decode cX10_fitting 0 = .ok (.iconst 0, 1) := by decide +kernel
theorem dX10_fitting_1 : decode cX10_fitting 1 = .ok (.istore_n 1, 1) := by decide +kernel
theorem dX10_fitting_2 : decode cX10_fitting 2 = .ok (.iconst 1, 1) := by decide +kernel
theorem dX10_fitting_3 : decode cX10_fitting 3 = .ok (.istore_n 2, 1) := by decide +kernel
theorem dX10_fitting_4 : decode cX10_fitting 4 = .ok (.iload_n 2, 1) := by decide +kernel
theorem dX10_fitting_5 : decode cX10_fitting 5 = .ok (.bipush 61, 2) := by decide +kernel
theorem dX10_fitting_7 : decode cX10_fitting 7 = .ok (.if_icmp .ge 33, 3) := by decide +kernel
theorem dX10_fitting_10 : decode cX10_fitting 10 = .ok (.iload_n 1, 1) := by decide +kernel
theorem dX10_fitting_11 : decode cX10_fitting 11 = .ok (.aload_n 0, 1) := by decide +kernel
theorem dX10_fitting_12 : decode cX10_fitting 12 = .ok (.iload_n 2, 1) := by decide +kernel
theorem dX10_fitting_13 : decode cX10_fitting 13 = .ok (.invokevirtual 146, 3) := by decide +kernel
theorem dX10_fitting_16 : decode cX10_fitting 16 = .ok (.ifCond .eq 15, 3) := by decide +kernel
theorem dX10_fitting_19 : decode cX10_fitting 19 = .ok (.aload_n 0, 1) := by decide +kernel
theorem dX10_fitting_20 : decode cX10_fitting 20 = .ok (.iload_n 2, 1) := by decide +kernel
theorem dX10_fitting_21 : decode cX10_fitting 21 = .ok (.invokevirtual 282, 3) := by decide +kernel
theorem dX10_fitting_24 : decode cX10_fitting 24 = .ok (.ifCond .eq 7, 3) := by decide +kernel
theorem dX10_fitting_27 : decode cX10_fitting 27 = .ok (.iconst 1, 1) := by decide +kernel
theorem dX10_fitting_28 : decode cX10_fitting 28 = .ok (.goto 4, 3) := by decide +kernel
theorem dX10_fitting_31 : decode cX10_fitting 31 = .ok (.iconst 0, 1) := by decide +kernel
theorem dX10_fitting_32 : decode cX10_fitting 32 = .ok (.iadd, 1) := by decide +kernel
theorem dX10_fitting_33 : decode cX10_fitting 33 = .ok (.istore_n 1, 1) := by decide +kernel
theorem dX10_fitting_34 : decode cX10_fitting 34 = .ok (.iinc 2 1, 3) := by decide +kernel
theorem dX10_fitting_37 : decode cX10_fitting 37 = .ok (.goto (-33), 3) := by decide +kernel
theorem dX10_fitting_40 : decode cX10_fitting 40 = .ok (.iload_n 1, 1) := by decide +kernel
theorem dX10_fitting_41 : decode cX10_fitting 41 = .ok (.ireturn, 1) := by decide +kernel
theorem dX10_deepest_0 : decode cX10_deepest 0 = .ok (.iconst 0, 1) := by decide +kernel
theorem dX10_deepest_1 : decode cX10_deepest 1 = .ok (.istore_n 1, 1) := by decide +kernel
theorem dX10_deepest_2 : decode cX10_deepest 2 = .ok (.iconst 0, 1) := by decide +kernel
theorem dX10_deepest_3 : decode cX10_deepest 3 = .ok (.istore_n 2, 1) := by decide +kernel
theorem dX10_deepest_4 : decode cX10_deepest 4 = .ok (.iload_n 2, 1) := by decide +kernel
theorem dX10_deepest_5 : decode cX10_deepest 5 = .ok (.bipush 61, 2) := by decide +kernel
theorem dX10_deepest_7 : decode cX10_deepest 7 = .ok (.if_icmp .ge 38, 3) := by decide +kernel
theorem dX10_deepest_10 : decode cX10_deepest 10 = .ok (.aload_n 0, 1) := by decide +kernel
theorem dX10_deepest_11 : decode cX10_deepest 11 = .ok (.iload_n 2, 1) := by decide +kernel
theorem dX10_deepest_12 : decode cX10_deepest 12 = .ok (.invokevirtual 146, 3) := by decide +kernel
theorem dX10_deepest_15 : decode cX10_deepest 15 = .ok (.ifCond .eq 22, 3) := by decide +kernel
theorem dX10_deepest_18 : decode cX10_deepest 18 = .ok (.aload_n 0, 1) := by decide +kernel
theorem dX10_deepest_19 : decode cX10_deepest 19 = .ok (.getfield 47, 3) := by decide +kernel
theorem dX10_deepest_22 : decode cX10_deepest 22 = .ok (.iload_n 2, 1) := by decide +kernel
theorem dX10_deepest_23 : decode cX10_deepest 23 = .ok (.iaload, 1) := by decide +kernel
theorem dX10_deepest_24 : decode cX10_deepest 24 = .ok (.iload_n 1, 1) := by decide +kernel
theorem dX10_deepest_25 : decode cX10_deepest 25 = .ok (.if_icmp .le 12, 3) := by decide +kernel
theorem dX10_deepest_28 : decode cX10_deepest 28 = .ok (.aload_n 0, 1) := by decide +kernel
theorem dX10_deepest_29 : decode cX10_deepest 29 = .ok (.getfield 47, 3) := by decide +kernel
theorem dX10_deepest_32 : decode cX10_deepest 32 = .ok (.iload_n 2, 1) := by decide +kernel
theorem dX10_deepest_33 : decode cX10_deepest 33 = .ok (.iaload, 1) := by decide +kernel
theorem dX10_deepest_34 : decode cX10_deepest 34 = .ok (.goto 4, 3) := by decide +kernel
theorem dX10_deepest_37 : decode cX10_deepest 37 = .ok (.iload_n 1, 1) := by decide +kernel
theorem dX10_deepest_38 : decode cX10_deepest 38 = .ok (.istore_n 1, 1) := by decide +kernel
theorem dX10_deepest_39 : decode cX10_deepest 39 = .ok (.iinc 2 1, 3) := by decide +kernel
theorem dX10_deepest_42 : decode cX10_deepest 42 = .ok (.goto (-38), 3) := by decide +kernel
theorem dX10_deepest_45 : decode cX10_deepest 45 = .ok (.iload_n 1, 1) := by decide +kernel
theorem dX10_deepest_46 : decode cX10_deepest 46 = .ok (.ireturn, 1) := by decide +kernel
theorem dX10_top_0 : decode cX10_top 0 = .ok (.aload_n 0, 1) := by decide +kernel
theorem dX10_top_1 : decode cX10_top 1 = .ok (.getfield 154, 3) := by decide +kernel
theorem dX10_top_4 : decode cX10_top 4 = .ok (.ifCond .ne 7, 3) := by decide +kernel
theorem dX10_top_7 : decode cX10_top 7 = .ok (.iconst 0, 1) := by decide +kernel
theorem dX10_top_8 : decode cX10_top 8 = .ok (.goto 14, 3) := by decide +kernel
theorem dX10_top_11 : decode cX10_top 11 = .ok (.aload_n 0, 1) := by decide +kernel
theorem dX10_top_12 : decode cX10_top 12 = .ok (.getfield 22, 3) := by decide +kernel
theorem dX10_top_15 : decode cX10_top 15 = .ok (.aload_n 0, 1) := by decide +kernel
theorem dX10_top_16 : decode cX10_top 16 = .ok (.getfield 154, 3) := by decide +kernel
theorem dX10_top_19 : decode cX10_top 19 = .ok (.iconst 1, 1) := by decide +kernel
theorem dX10_top_20 : decode cX10_top 20 = .ok (.isub, 1) := by decide +kernel
theorem dX10_top_21 : decode cX10_top 21 = .ok (.iaload, 1) := by decide +kernel
theorem dX10_top_22 : decode cX10_top 22 = .ok (.ireturn, 1) := by decide +kernel
theorem dX10_outline_0 : decode cX10_outline 0 = .ok (.aload_n 0, 1) := by decide +kernel
theorem dX10_outline_1 : decode cX10_outline 1 = .ok (.iconst 0, 1) := by decide +kernel
theorem dX10_outline_2 : decode cX10_outline 2 = .ok (.putfield 139, 3) := by decide +kernel
theorem dX10_outline_5 : decode cX10_outline 5 = .ok (.aload_n 0, 1) := by decide +kernel
theorem dX10_outline_6 : decode cX10_outline 6 = .ok (.invokevirtual 169, 3) := by decide +kernel
theorem dX10_outline_9 : decode cX10_outline 9 = .ok (.iload_n 1, 1) := by decide +kernel
theorem dX10_outline_10 : decode cX10_outline 10 = .ok (.tableswitch 119 0 10 #[58, 63, 70, 75, 84, 89, 94, 99, 104, 109, 114], 58) := by decide +kernel
theorem dX10_outline_68 : decode cX10_outline 68 = .ok (.aload_n 0, 1) := by decide +kernel
theorem dX10_outline_69 : decode cX10_outline 69 = .ok (.invokevirtual 190, 3) := by decide +kernel
theorem dX10_outline_72 : decode cX10_outline 72 = .ok (.ireturn, 1) := by decide +kernel
theorem dX10_outline_73 : decode cX10_outline 73 = .ok (.aload_n 0, 1) := by decide +kernel
theorem dX10_outline_74 : decode cX10_outline 74 = .ok (.getfield 7, 3) := by decide +kernel
theorem dX10_outline_77 : decode cX10_outline 77 = .ok (.iconst 0, 1) := by decide +kernel
theorem dX10_outline_78 : decode cX10_outline 78 = .ok (.iaload, 1) := by decide +kernel
theorem dX10_outline_79 : decode cX10_outline 79 = .ok (.ireturn, 1) := by decide +kernel
theorem dX10_outline_80 : decode cX10_outline 80 = .ok (.aload_n 0, 1) := by decide +kernel
theorem dX10_outline_81 : decode cX10_outline 81 = .ok (.invokevirtual 179, 3) := by decide +kernel
theorem dX10_outline_84 : decode cX10_outline 84 = .ok (.ireturn, 1) := by decide +kernel
theorem dX10_outline_85 : decode cX10_outline 85 = .ok (.aload_n 0, 1) := by decide +kernel
theorem dX10_outline_86 : decode cX10_outline 86 = .ok (.invokevirtual 257, 3) := by decide +kernel
theorem dX10_outline_89 : decode cX10_outline 89 = .ok (.aload_n 0, 1) := by decide +kernel
theorem dX10_outline_90 : decode cX10_outline 90 = .ok (.getfield 260, 3) := by decide +kernel
theorem dX10_outline_93 : decode cX10_outline 93 = .ok (.ireturn, 1) := by decide +kernel
theorem dX10_outline_94 : decode cX10_outline 94 = .ok (.aload_n 0, 1) := by decide +kernel
theorem dX10_outline_95 : decode cX10_outline 95 = .ok (.invokevirtual 285, 3) := by decide +kernel
theorem dX10_outline_98 : decode cX10_outline 98 = .ok (.ireturn, 1) := by decide +kernel
theorem dX10_outline_99 : decode cX10_outline 99 = .ok (.aload_n 0, 1) := by decide +kernel
theorem dX10_outline_100 : decode cX10_outline 100 = .ok (.getfield 154, 3) := by decide +kernel
theorem dX10_outline_103 : decode cX10_outline 103 = .ok (.ireturn, 1) := by decide +kernel
theorem dX10_outline_104 : decode cX10_outline 104 = .ok (.aload_n 0, 1) := by decide +kernel
theorem dX10_outline_105 : decode cX10_outline 105 = .ok (.getfield 193, 3) := by decide +kernel
theorem dX10_outline_108 : decode cX10_outline 108 = .ok (.ireturn, 1) := by decide +kernel
theorem dX10_outline_109 : decode cX10_outline 109 = .ok (.aload_n 0, 1) := by decide +kernel
theorem dX10_outline_110 : decode cX10_outline 110 = .ok (.invokevirtual 288, 3) := by decide +kernel
theorem dX10_outline_113 : decode cX10_outline 113 = .ok (.ireturn, 1) := by decide +kernel
theorem dX10_outline_114 : decode cX10_outline 114 = .ok (.aload_n 0, 1) := by decide +kernel
theorem dX10_outline_115 : decode cX10_outline 115 = .ok (.getfield 196, 3) := by decide +kernel
theorem dX10_outline_118 : decode cX10_outline 118 = .ok (.ireturn, 1) := by decide +kernel
theorem dX10_outline_119 : decode cX10_outline 119 = .ok (.aload_n 0, 1) := by decide +kernel
theorem dX10_outline_120 : decode cX10_outline 120 = .ok (.getfield 157, 3) := by decide +kernel
theorem dX10_outline_123 : decode cX10_outline 123 = .ok (.ireturn, 1) := by decide +kernel
theorem dX10_outline_124 : decode cX10_outline 124 = .ok (.aload_n 0, 1) := by decide +kernel
theorem dX10_outline_125 : decode cX10_outline 125 = .ok (.invokevirtual 291, 3) := by decide +kernel
theorem dX10_outline_128 : decode cX10_outline 128 = .ok (.ireturn, 1) := by decide +kernel
theorem dX10_outline_129 : decode cX10_outline 129 = .ok (.aload_n 0, 1) := by decide +kernel
theorem dX10_outline_130 : decode cX10_outline 130 = .ok (.iconst 1, 1) := by decide +kernel
theorem dX10_outline_131 : decode cX10_outline 131 = .ok (.invokevirtual 186, 3) := by decide +kernel
theorem dX10_outline_134 : decode cX10_outline 134 = .ok (.ireturn, 1) := by decide +kernel
theorem dX10_doneShare_0 : decode cX10_doneShare 0 = .ok (.aload_n 0, 1) := by decide +kernel
theorem dX10_doneShare_1 : decode cX10_doneShare 1 = .ok (.aload_n 0, 1) := by decide +kernel
theorem dX10_doneShare_2 : decode cX10_doneShare 2 = .ok (.iload_n 1, 1) := by decide +kernel
theorem dX10_doneShare_3 : decode cX10_doneShare 3 = .ok (.invokevirtual 146, 3) := by decide +kernel
theorem dX10_doneShare_6 : decode cX10_doneShare 6 = .ok (.ifCond .eq 7, 3) := by decide +kernel
theorem dX10_doneShare_9 : decode cX10_doneShare 9 = .ok (.iconst 0, 1) := by decide +kernel
theorem dX10_doneShare_10 : decode cX10_doneShare 10 = .ok (.goto 4, 3) := by decide +kernel
theorem dX10_doneShare_13 : decode cX10_doneShare 13 = .ok (.iconst 1, 1) := by decide +kernel
theorem dX10_doneShare_14 : decode cX10_doneShare 14 = .ok (.putfield 139, 3) := by decide +kernel
theorem dX10_doneShare_17 : decode cX10_doneShare 17 = .ok (.aload_n 0, 1) := by decide +kernel
theorem dX10_doneShare_18 : decode cX10_doneShare 18 = .ok (.getfield 139, 3) := by decide +kernel
theorem dX10_doneShare_21 : decode cX10_doneShare 21 = .ok (.ifCond .le 5, 3) := by decide +kernel
theorem dX10_doneShare_24 : decode cX10_doneShare 24 = .ok (.fconst 0, 1) := by decide +kernel
theorem dX10_doneShare_25 : decode cX10_doneShare 25 = .ok (.freturn, 1) := by decide +kernel
theorem dX10_doneShare_26 : decode cX10_doneShare 26 = .ok (.aload_n 0, 1) := by decide +kernel
theorem dX10_doneShare_27 : decode cX10_doneShare 27 = .ok (.invokevirtual 169, 3) := by decide +kernel
theorem dX10_doneShare_30 : decode cX10_doneShare 30 = .ok (.aload_n 0, 1) := by decide +kernel
theorem dX10_doneShare_31 : decode cX10_doneShare 31 = .ok (.iload_n 1, 1) := by decide +kernel
theorem dX10_doneShare_32 : decode cX10_doneShare 32 = .ok (.iconst 5, 1) := by decide +kernel
theorem dX10_doneShare_33 : decode cX10_doneShare 33 = .ok (.invokevirtual 279, 3) := by decide +kernel
theorem dX10_doneShare_36 : decode cX10_doneShare 36 = .ok (.i2f, 1) := by decide +kernel
theorem dX10_doneShare_37 : decode cX10_doneShare 37 = .ok (.aload_n 0, 1) := by decide +kernel
theorem dX10_doneShare_38 : decode cX10_doneShare 38 = .ok (.iload_n 1, 1) := by decide +kernel
theorem dX10_doneShare_39 : decode cX10_doneShare 39 = .ok (.iconst 4, 1) := by decide +kernel
theorem dX10_doneShare_40 : decode cX10_doneShare 40 = .ok (.invokevirtual 279, 3) := by decide +kernel
theorem dX10_doneShare_43 : decode cX10_doneShare 43 = .ok (.i2f, 1) := by decide +kernel
theorem dX10_doneShare_44 : decode cX10_doneShare 44 = .ok (.fdiv, 1) := by decide +kernel
theorem dX10_doneShare_45 : decode cX10_doneShare 45 = .ok (.freturn, 1) := by decide +kernel
theorem dX10_meanValue_0 : decode cX10_meanValue 0 = .ok (.aload_n 0, 1) := by decide +kernel
theorem dX10_meanValue_1 : decode cX10_meanValue 1 = .ok (.aload_n 0, 1) := by decide +kernel
theorem dX10_meanValue_2 : decode cX10_meanValue 2 = .ok (.iload_n 1, 1) := by decide +kernel
theorem dX10_meanValue_3 : decode cX10_meanValue 3 = .ok (.invokevirtual 146, 3) := by decide +kernel
theorem dX10_meanValue_6 : decode cX10_meanValue 6 = .ok (.ifCond .eq 7, 3) := by decide +kernel
theorem dX10_meanValue_9 : decode cX10_meanValue 9 = .ok (.iconst 0, 1) := by decide +kernel
theorem dX10_meanValue_10 : decode cX10_meanValue 10 = .ok (.goto 4, 3) := by decide +kernel
theorem dX10_meanValue_13 : decode cX10_meanValue 13 = .ok (.iconst 1, 1) := by decide +kernel
theorem dX10_meanValue_14 : decode cX10_meanValue 14 = .ok (.putfield 139, 3) := by decide +kernel
theorem dX10_meanValue_17 : decode cX10_meanValue 17 = .ok (.aload_n 0, 1) := by decide +kernel
theorem dX10_meanValue_18 : decode cX10_meanValue 18 = .ok (.getfield 139, 3) := by decide +kernel
theorem dX10_meanValue_21 : decode cX10_meanValue 21 = .ok (.ifCond .le 5, 3) := by decide +kernel
theorem dX10_meanValue_24 : decode cX10_meanValue 24 = .ok (.dconst 0, 1) := by decide +kernel
theorem dX10_meanValue_25 : decode cX10_meanValue 25 = .ok (.dreturn, 1) := by decide +kernel
theorem dX10_meanValue_26 : decode cX10_meanValue 26 = .ok (.aload_n 0, 1) := by decide +kernel
theorem dX10_meanValue_27 : decode cX10_meanValue 27 = .ok (.invokevirtual 169, 3) := by decide +kernel
theorem dX10_meanValue_30 : decode cX10_meanValue 30 = .ok (.aload_n 0, 1) := by decide +kernel
theorem dX10_meanValue_31 : decode cX10_meanValue 31 = .ok (.iload_n 1, 1) := by decide +kernel
theorem dX10_meanValue_32 : decode cX10_meanValue 32 = .ok (.iconst 1, 1) := by decide +kernel
theorem dX10_meanValue_33 : decode cX10_meanValue 33 = .ok (.invokevirtual 279, 3) := by decide +kernel
theorem dX10_meanValue_36 : decode cX10_meanValue 36 = .ok (.i2d, 1) := by decide +kernel
theorem dX10_meanValue_37 : decode cX10_meanValue 37 = .ok (.aload_n 0, 1) := by decide +kernel
theorem dX10_meanValue_38 : decode cX10_meanValue 38 = .ok (.iload_n 1, 1) := by decide +kernel
theorem dX10_meanValue_39 : decode cX10_meanValue 39 = .ok (.iconst 0, 1) := by decide +kernel
theorem dX10_meanValue_40 : decode cX10_meanValue 40 = .ok (.invokevirtual 279, 3) := by decide +kernel
theorem dX10_meanValue_43 : decode cX10_meanValue 43 = .ok (.i2d, 1) := by decide +kernel
theorem dX10_meanValue_44 : decode cX10_meanValue 44 = .ok (.ddiv, 1) := by decide +kernel
theorem dX10_meanValue_45 : decode cX10_meanValue 45 = .ok (.dreturn, 1) := by decide +kernel
theorem dX10_contains_0 : decode cX10_contains 0 = .ok (.iconst 0, 1) := by decide +kernel
theorem dX10_contains_1 : decode cX10_contains 1 = .ok (.istore_n 3, 1) := by decide +kernel
theorem dX10_contains_2 : decode cX10_contains 2 = .ok (.iload_n 3, 1) := by decide +kernel
theorem dX10_contains_3 : decode cX10_contains 3 = .ok (.aload_n 0, 1) := by decide +kernel
theorem dX10_contains_4 : decode cX10_contains 4 = .ok (.getfield 63, 3) := by decide +kernel
theorem dX10_contains_7 : decode cX10_contains 7 = .ok (.iload_n 2, 1) := by decide +kernel
theorem dX10_contains_8 : decode cX10_contains 8 = .ok (.iaload, 1) := by decide +kernel
theorem dX10_contains_9 : decode cX10_contains 9 = .ok (.iadd, 1) := by decide +kernel
theorem dX10_contains_10 : decode cX10_contains 10 = .ok (.aload_n 0, 1) := by decide +kernel
theorem dX10_contains_11 : decode cX10_contains 11 = .ok (.getfield 7, 3) := by decide +kernel
theorem dX10_contains_14 : decode cX10_contains 14 = .ok (.sipush 245, 3) := by decide +kernel
theorem dX10_contains_17 : decode cX10_contains 17 = .ok (.iload_n 1, 1) := by decide +kernel
theorem dX10_contains_18 : decode cX10_contains 18 = .ok (.iadd, 1) := by decide +kernel
theorem dX10_contains_19 : decode cX10_contains 19 = .ok (.iaload, 1) := by decide +kernel
theorem dX10_contains_20 : decode cX10_contains 20 = .ok (.if_icmp .gt 84, 3) := by decide +kernel
theorem dX10_contains_23 : decode cX10_contains 23 = .ok (.iconst 1, 1) := by decide +kernel
theorem dX10_contains_24 : decode cX10_contains 24 = .ok (.istore 4, 2) := by decide +kernel
theorem dX10_contains_26 : decode cX10_contains 26 = .ok (.iconst 0, 1) := by decide +kernel
theorem dX10_contains_27 : decode cX10_contains 27 = .ok (.istore 5, 2) := by decide +kernel
theorem dX10_contains_29 : decode cX10_contains 29 = .ok (.iload 5, 2) := by decide +kernel
theorem dX10_contains_31 : decode cX10_contains 31 = .ok (.aload_n 0, 1) := by decide +kernel
theorem dX10_contains_32 : decode cX10_contains 32 = .ok (.getfield 63, 3) := by decide +kernel
theorem dX10_contains_35 : decode cX10_contains 35 = .ok (.iload_n 2, 1) := by decide +kernel
theorem dX10_contains_36 : decode cX10_contains 36 = .ok (.iaload, 1) := by decide +kernel
theorem dX10_contains_37 : decode cX10_contains 37 = .ok (.if_icmp .ge 54, 3) := by decide +kernel
theorem dX10_contains_40 : decode cX10_contains 40 = .ok (.iload 4, 2) := by decide +kernel
theorem dX10_contains_42 : decode cX10_contains 42 = .ok (.ifCond .eq 40, 3) := by decide +kernel
theorem dX10_contains_45 : decode cX10_contains 45 = .ok (.aload_n 0, 1) := by decide +kernel
theorem dX10_contains_46 : decode cX10_contains 46 = .ok (.getfield 7, 3) := by decide +kernel
theorem dX10_contains_49 : decode cX10_contains 49 = .ok (.sipush 306, 3) := by decide +kernel
theorem dX10_contains_52 : decode cX10_contains 52 = .ok (.bipush 10, 2) := by decide +kernel
theorem dX10_contains_54 : decode cX10_contains 54 = .ok (.iload_n 1, 1) := by decide +kernel
theorem dX10_contains_55 : decode cX10_contains 55 = .ok (.imul, 1) := by decide +kernel
theorem dX10_contains_56 : decode cX10_contains 56 = .ok (.iadd, 1) := by decide +kernel
theorem dX10_contains_57 : decode cX10_contains 57 = .ok (.iload_n 3, 1) := by decide +kernel
theorem dX10_contains_58 : decode cX10_contains 58 = .ok (.iadd, 1) := by decide +kernel
theorem dX10_contains_59 : decode cX10_contains 59 = .ok (.iload 5, 2) := by decide +kernel
theorem dX10_contains_61 : decode cX10_contains 61 = .ok (.iadd, 1) := by decide +kernel
theorem dX10_contains_62 : decode cX10_contains 62 = .ok (.iaload, 1) := by decide +kernel
theorem dX10_contains_63 : decode cX10_contains 63 = .ok (.aload_n 0, 1) := by decide +kernel
theorem dX10_contains_64 : decode cX10_contains 64 = .ok (.getfield 66, 3) := by decide +kernel
theorem dX10_contains_67 : decode cX10_contains 67 = .ok (.bipush 10, 2) := by decide +kernel
theorem dX10_contains_69 : decode cX10_contains 69 = .ok (.iload_n 2, 1) := by decide +kernel
theorem dX10_contains_70 : decode cX10_contains 70 = .ok (.imul, 1) := by decide +kernel
theorem dX10_contains_71 : decode cX10_contains 71 = .ok (.iload 5, 2) := by decide +kernel
theorem dX10_contains_73 : decode cX10_contains 73 = .ok (.iadd, 1) := by decide +kernel
theorem dX10_contains_74 : decode cX10_contains 74 = .ok (.iaload, 1) := by decide +kernel
theorem dX10_contains_75 : decode cX10_contains 75 = .ok (.if_icmp .ne 7, 3) := by decide +kernel
theorem dX10_contains_78 : decode cX10_contains 78 = .ok (.iconst 1, 1) := by decide +kernel
theorem dX10_contains_79 : decode cX10_contains 79 = .ok (.goto 4, 3) := by decide +kernel
theorem dX10_contains_82 : decode cX10_contains 82 = .ok (.iconst 0, 1) := by decide +kernel
theorem dX10_contains_83 : decode cX10_contains 83 = .ok (.istore 4, 2) := by decide +kernel
theorem dX10_contains_85 : decode cX10_contains 85 = .ok (.iinc 5 1, 3) := by decide +kernel
theorem dX10_contains_88 : decode cX10_contains 88 = .ok (.goto (-59), 3) := by decide +kernel
theorem dX10_contains_91 : decode cX10_contains 91 = .ok (.iload 4, 2) := by decide +kernel
theorem dX10_contains_93 : decode cX10_contains 93 = .ok (.ifCond .eq 5, 3) := by decide +kernel
theorem dX10_contains_96 : decode cX10_contains 96 = .ok (.iconst 1, 1) := by decide +kernel
theorem dX10_contains_97 : decode cX10_contains 97 = .ok (.ireturn, 1) := by decide +kernel
theorem dX10_contains_98 : decode cX10_contains 98 = .ok (.iinc 3 1, 3) := by decide +kernel
theorem dX10_contains_101 : decode cX10_contains 101 = .ok (.goto (-99), 3) := by decide +kernel
theorem dX10_contains_104 : decode cX10_contains 104 = .ok (.iconst 0, 1) := by decide +kernel
theorem dX10_contains_105 : decode cX10_contains 105 = .ok (.ireturn, 1) := by decide +kernel
theorem dX10_holds_0 : decode cX10_holds 0 = .ok (.aload_n 0, 1) := by decide +kernel
theorem dX10_holds_1 : decode cX10_holds 1 = .ok (.getfield 57, 3) := by decide +kernel
theorem dX10_holds_4 : decode cX10_holds 4 = .ok (.iload_n 2, 1) := by decide +kernel
theorem dX10_holds_5 : decode cX10_holds 5 = .ok (.iaload, 1) := by decide +kernel
theorem dX10_holds_6 : decode cX10_holds 6 = .ok (.tableswitch 141 0 5 #[38, 45, 64, 83, 99, 120], 38) := by decide +kernel
theorem dX10_holds_44 : decode cX10_holds 44 = .ok (.aload_n 0, 1) := by decide +kernel
theorem dX10_holds_45 : decode cX10_holds 45 = .ok (.iload_n 1, 1) := by decide +kernel
theorem dX10_holds_46 : decode cX10_holds 46 = .ok (.iconst 0, 1) := by decide +kernel
theorem dX10_holds_47 : decode cX10_holds 47 = .ok (.invokevirtual 270, 3) := by decide +kernel
theorem dX10_holds_50 : decode cX10_holds 50 = .ok (.ireturn, 1) := by decide +kernel
theorem dX10_holds_51 : decode cX10_holds 51 = .ok (.aload_n 0, 1) := by decide +kernel
theorem dX10_holds_52 : decode cX10_holds 52 = .ok (.getfield 7, 3) := by decide +kernel
theorem dX10_holds_55 : decode cX10_holds 55 = .ok (.bipush 123, 2) := by decide +kernel
theorem dX10_holds_57 : decode cX10_holds 57 = .ok (.iload_n 1, 1) := by decide +kernel
theorem dX10_holds_58 : decode cX10_holds 58 = .ok (.iadd, 1) := by decide +kernel
theorem dX10_holds_59 : decode cX10_holds 59 = .ok (.iaload, 1) := by decide +kernel
theorem dX10_holds_60 : decode cX10_holds 60 = .ok (.iconst (-1), 1) := by decide +kernel
theorem dX10_holds_61 : decode cX10_holds 61 = .ok (.if_icmp .eq 7, 3) := by decide +kernel
theorem dX10_holds_64 : decode cX10_holds 64 = .ok (.iconst 1, 1) := by decide +kernel
theorem dX10_holds_65 : decode cX10_holds 65 = .ok (.goto 4, 3) := by decide +kernel
theorem dX10_holds_68 : decode cX10_holds 68 = .ok (.iconst 0, 1) := by decide +kernel
theorem dX10_holds_69 : decode cX10_holds 69 = .ok (.ireturn, 1) := by decide +kernel
theorem dX10_holds_70 : decode cX10_holds 70 = .ok (.aload_n 0, 1) := by decide +kernel
theorem dX10_holds_71 : decode cX10_holds 71 = .ok (.getfield 7, 3) := by decide +kernel
theorem dX10_holds_74 : decode cX10_holds 74 = .ok (.sipush 916, 3) := by decide +kernel
theorem dX10_holds_77 : decode cX10_holds 77 = .ok (.iload_n 1, 1) := by decide +kernel
theorem dX10_holds_78 : decode cX10_holds 78 = .ok (.iadd, 1) := by decide +kernel
theorem dX10_holds_79 : decode cX10_holds 79 = .ok (.iaload, 1) := by decide +kernel
theorem dX10_holds_80 : decode cX10_holds 80 = .ok (.ifCond .ne 7, 3) := by decide +kernel
theorem dX10_holds_83 : decode cX10_holds 83 = .ok (.iconst 1, 1) := by decide +kernel
theorem dX10_holds_84 : decode cX10_holds 84 = .ok (.goto 4, 3) := by decide +kernel
theorem dX10_holds_87 : decode cX10_holds 87 = .ok (.iconst 0, 1) := by decide +kernel
theorem dX10_holds_88 : decode cX10_holds 88 = .ok (.ireturn, 1) := by decide +kernel
theorem dX10_holds_89 : decode cX10_holds 89 = .ok (.aload_n 0, 1) := by decide +kernel
theorem dX10_holds_90 : decode cX10_holds 90 = .ok (.getfield 41, 3) := by decide +kernel
theorem dX10_holds_93 : decode cX10_holds 93 = .ok (.iload_n 1, 1) := by decide +kernel
theorem dX10_holds_94 : decode cX10_holds 94 = .ok (.iaload, 1) := by decide +kernel
theorem dX10_holds_95 : decode cX10_holds 95 = .ok (.iconst 1, 1) := by decide +kernel
theorem dX10_holds_96 : decode cX10_holds 96 = .ok (.if_icmp .le 7, 3) := by decide +kernel
theorem dX10_holds_99 : decode cX10_holds 99 = .ok (.iconst 1, 1) := by decide +kernel
theorem dX10_holds_100 : decode cX10_holds 100 = .ok (.goto 4, 3) := by decide +kernel
theorem dX10_holds_103 : decode cX10_holds 103 = .ok (.iconst 0, 1) := by decide +kernel
theorem dX10_holds_104 : decode cX10_holds 104 = .ok (.ireturn, 1) := by decide +kernel
theorem dX10_holds_105 : decode cX10_holds 105 = .ok (.aload_n 0, 1) := by decide +kernel
theorem dX10_holds_106 : decode cX10_holds 106 = .ok (.iload_n 1, 1) := by decide +kernel
theorem dX10_holds_107 : decode cX10_holds 107 = .ok (.iconst 1, 1) := by decide +kernel
theorem dX10_holds_108 : decode cX10_holds 108 = .ok (.invokevirtual 279, 3) := by decide +kernel
theorem dX10_holds_111 : decode cX10_holds 111 = .ok (.aload_n 0, 1) := by decide +kernel
theorem dX10_holds_112 : decode cX10_holds 112 = .ok (.getfield 60, 3) := by decide +kernel
theorem dX10_holds_115 : decode cX10_holds 115 = .ok (.iload_n 2, 1) := by decide +kernel
theorem dX10_holds_116 : decode cX10_holds 116 = .ok (.iaload, 1) := by decide +kernel
theorem dX10_holds_117 : decode cX10_holds 117 = .ok (.if_icmp .le 7, 3) := by decide +kernel
theorem dX10_holds_120 : decode cX10_holds 120 = .ok (.iconst 1, 1) := by decide +kernel
theorem dX10_holds_121 : decode cX10_holds 121 = .ok (.goto 4, 3) := by decide +kernel
theorem dX10_holds_124 : decode cX10_holds 124 = .ok (.iconst 0, 1) := by decide +kernel
theorem dX10_holds_125 : decode cX10_holds 125 = .ok (.ireturn, 1) := by decide +kernel
theorem dX10_holds_126 : decode cX10_holds 126 = .ok (.aload_n 0, 1) := by decide +kernel
theorem dX10_holds_127 : decode cX10_holds 127 = .ok (.iload_n 1, 1) := by decide +kernel
theorem dX10_holds_128 : decode cX10_holds 128 = .ok (.iconst 1, 1) := by decide +kernel
theorem dX10_holds_129 : decode cX10_holds 129 = .ok (.invokevirtual 279, 3) := by decide +kernel
theorem dX10_holds_132 : decode cX10_holds 132 = .ok (.aload_n 0, 1) := by decide +kernel
theorem dX10_holds_133 : decode cX10_holds 133 = .ok (.getfield 60, 3) := by decide +kernel
theorem dX10_holds_136 : decode cX10_holds 136 = .ok (.iload_n 2, 1) := by decide +kernel
theorem dX10_holds_137 : decode cX10_holds 137 = .ok (.iaload, 1) := by decide +kernel
theorem dX10_holds_138 : decode cX10_holds 138 = .ok (.if_icmp .ge 7, 3) := by decide +kernel
theorem dX10_holds_141 : decode cX10_holds 141 = .ok (.iconst 1, 1) := by decide +kernel
theorem dX10_holds_142 : decode cX10_holds 142 = .ok (.goto 4, 3) := by decide +kernel
theorem dX10_holds_145 : decode cX10_holds 145 = .ok (.iconst 0, 1) := by decide +kernel
theorem dX10_holds_146 : decode cX10_holds 146 = .ok (.ireturn, 1) := by decide +kernel
theorem dX10_holds_147 : decode cX10_holds 147 = .ok (.aload_n 0, 1) := by decide +kernel
theorem dX10_holds_148 : decode cX10_holds 148 = .ok (.iload_n 1, 1) := by decide +kernel
theorem dX10_holds_149 : decode cX10_holds 149 = .ok (.iload_n 2, 1) := by decide +kernel
theorem dX10_holds_150 : decode cX10_holds 150 = .ok (.invokevirtual 294, 3) := by decide +kernel
theorem dX10_holds_153 : decode cX10_holds 153 = .ok (.ireturn, 1) := by decide +kernel
theorem dX10_fits_0 : decode cX10_fits 0 = .ok (.iconst 1, 1) := by decide +kernel
theorem dX10_fits_1 : decode cX10_fits 1 = .ok (.istore_n 2, 1) := by decide +kernel
theorem dX10_fits_2 : decode cX10_fits 2 = .ok (.iconst 0, 1) := by decide +kernel
theorem dX10_fits_3 : decode cX10_fits 3 = .ok (.istore_n 3, 1) := by decide +kernel
theorem dX10_fits_4 : decode cX10_fits 4 = .ok (.iload_n 3, 1) := by decide +kernel
theorem dX10_fits_5 : decode cX10_fits 5 = .ok (.aload_n 0, 1) := by decide +kernel
theorem dX10_fits_6 : decode cX10_fits 6 = .ok (.getfield 193, 3) := by decide +kernel
theorem dX10_fits_9 : decode cX10_fits 9 = .ok (.if_icmp .ge 34, 3) := by decide +kernel
theorem dX10_fits_12 : decode cX10_fits 12 = .ok (.iload_n 2, 1) := by decide +kernel
theorem dX10_fits_13 : decode cX10_fits 13 = .ok (.ifCond .eq 22, 3) := by decide +kernel
theorem dX10_fits_16 : decode cX10_fits 16 = .ok (.aload_n 0, 1) := by decide +kernel
theorem dX10_fits_17 : decode cX10_fits 17 = .ok (.iload_n 1, 1) := by decide +kernel
theorem dX10_fits_18 : decode cX10_fits 18 = .ok (.iload_n 3, 1) := by decide +kernel
theorem dX10_fits_19 : decode cX10_fits 19 = .ok (.invokevirtual 297, 3) := by decide +kernel
theorem dX10_fits_22 : decode cX10_fits 22 = .ok (.aload_n 0, 1) := by decide +kernel
theorem dX10_fits_23 : decode cX10_fits 23 = .ok (.getfield 69, 3) := by decide +kernel
theorem dX10_fits_26 : decode cX10_fits 26 = .ok (.iload_n 3, 1) := by decide +kernel
theorem dX10_fits_27 : decode cX10_fits 27 = .ok (.baload, 1) := by decide +kernel
theorem dX10_fits_28 : decode cX10_fits 28 = .ok (.if_icmp .eq 7, 3) := by decide +kernel
theorem dX10_fits_31 : decode cX10_fits 31 = .ok (.iconst 1, 1) := by decide +kernel
theorem dX10_fits_32 : decode cX10_fits 32 = .ok (.goto 4, 3) := by decide +kernel
theorem dX10_fits_35 : decode cX10_fits 35 = .ok (.iconst 0, 1) := by decide +kernel
theorem dX10_fits_36 : decode cX10_fits 36 = .ok (.istore_n 2, 1) := by decide +kernel
theorem dX10_fits_37 : decode cX10_fits 37 = .ok (.iinc 3 1, 3) := by decide +kernel
theorem dX10_fits_40 : decode cX10_fits 40 = .ok (.goto (-36), 3) := by decide +kernel
theorem dX10_fits_43 : decode cX10_fits 43 = .ok (.iload_n 2, 1) := by decide +kernel
theorem dX10_fits_44 : decode cX10_fits 44 = .ok (.ireturn, 1) := by decide +kernel
theorem dX10_wordOf_0 : decode cX10_wordOf 0 = .ok (.iload_n 0, 1) := by decide +kernel
theorem dX10_wordOf_1 : decode cX10_wordOf 1 = .ok (.ifCond .ne 9, 3) := by decide +kernel
theorem dX10_wordOf_4 : decode cX10_wordOf 4 = .ok (.ldc_w 300, 3) := by decide +kernel
theorem dX10_wordOf_7 : decode cX10_wordOf 7 = .ok (.goto 28, 3) := by decide +kernel
theorem dX10_wordOf_10 : decode cX10_wordOf 10 = .ok (.iload_n 0, 1) := by decide +kernel
theorem dX10_wordOf_11 : decode cX10_wordOf 11 = .ok (.iconst 1, 1) := by decide +kernel
theorem dX10_wordOf_12 : decode cX10_wordOf 12 = .ok (.if_icmp .ne 9, 3) := by decide +kernel
theorem dX10_wordOf_15 : decode cX10_wordOf 15 = .ok (.ldc_w 302, 3) := by decide +kernel
theorem dX10_wordOf_18 : decode cX10_wordOf 18 = .ok (.goto 17, 3) := by decide +kernel
theorem dX10_wordOf_21 : decode cX10_wordOf 21 = .ok (.iload_n 0, 1) := by decide +kernel
theorem dX10_wordOf_22 : decode cX10_wordOf 22 = .ok (.iconst 2, 1) := by decide +kernel
theorem dX10_wordOf_23 : decode cX10_wordOf 23 = .ok (.if_icmp .ne 9, 3) := by decide +kernel
theorem dX10_wordOf_26 : decode cX10_wordOf 26 = .ok (.ldc_w 304, 3) := by decide +kernel
theorem dX10_wordOf_29 : decode cX10_wordOf 29 = .ok (.goto 6, 3) := by decide +kernel
theorem dX10_wordOf_32 : decode cX10_wordOf 32 = .ok (.ldc_w 306, 3) := by decide +kernel
theorem dX10_wordOf_35 : decode cX10_wordOf 35 = .ok (.areturn, 1) := by decide +kernel
theorem dX10_stands_0 : decode cX10_stands 0 = .ok (.iconst 0, 1) := by decide +kernel
theorem dX10_stands_1 : decode cX10_stands 1 = .ok (.istore_n 2, 1) := by decide +kernel
theorem dX10_stands_2 : decode cX10_stands 2 = .ok (.iload_n 2, 1) := by decide +kernel
theorem dX10_stands_3 : decode cX10_stands 3 = .ok (.aload_n 1, 1) := by decide +kernel
theorem dX10_stands_4 : decode cX10_stands 4 = .ok (.invokevirtual 308, 3) := by decide +kernel
theorem dX10_stands_7 : decode cX10_stands 7 = .ok (.if_icmp .ge 41, 3) := by decide +kernel
theorem dX10_stands_10 : decode cX10_stands 10 = .ok (.aload_n 0, 1) := by decide +kernel
theorem dX10_stands_11 : decode cX10_stands 11 = .ok (.getfield 199, 3) := by decide +kernel
theorem dX10_stands_14 : decode cX10_stands 14 = .ok (.iload_n 2, 1) := by decide +kernel
theorem dX10_stands_15 : decode cX10_stands 15 = .ok (.iadd, 1) := by decide +kernel
theorem dX10_stands_16 : decode cX10_stands 16 = .ok (.aload_n 0, 1) := by decide +kernel
theorem dX10_stands_17 : decode cX10_stands 17 = .ok (.getfield 202, 3) := by decide +kernel
theorem dX10_stands_20 : decode cX10_stands 20 = .ok (.if_icmp .ge 28, 3) := by decide +kernel
theorem dX10_stands_23 : decode cX10_stands 23 = .ok (.aload_n 0, 1) := by decide +kernel
theorem dX10_stands_24 : decode cX10_stands 24 = .ok (.getfield 25, 3) := by decide +kernel
theorem dX10_stands_27 : decode cX10_stands 27 = .ok (.aload_n 0, 1) := by decide +kernel
theorem dX10_stands_28 : decode cX10_stands 28 = .ok (.getfield 199, 3) := by decide +kernel
theorem dX10_stands_31 : decode cX10_stands 31 = .ok (.iload_n 2, 1) := by decide +kernel
theorem dX10_stands_32 : decode cX10_stands 32 = .ok (.iadd, 1) := by decide +kernel
theorem dX10_stands_33 : decode cX10_stands 33 = .ok (.iaload, 1) := by decide +kernel
theorem dX10_stands_34 : decode cX10_stands 34 = .ok (.aload_n 1, 1) := by decide +kernel
theorem dX10_stands_35 : decode cX10_stands 35 = .ok (.iload_n 2, 1) := by decide +kernel
theorem dX10_stands_36 : decode cX10_stands 36 = .ok (.invokevirtual 312, 3) := by decide +kernel
theorem dX10_stands_39 : decode cX10_stands 39 = .ok (.if_icmp .ne 9, 3) := by decide +kernel
theorem dX10_stands_42 : decode cX10_stands 42 = .ok (.iinc 2 1, 3) := by decide +kernel
theorem dX10_stands_45 : decode cX10_stands 45 = .ok (.goto (-43), 3) := by decide +kernel
theorem dX10_stands_48 : decode cX10_stands 48 = .ok (.iload_n 2, 1) := by decide +kernel
theorem dX10_stands_49 : decode cX10_stands 49 = .ok (.ireturn, 1) := by decide +kernel
theorem dX10_number_0 : decode cX10_number 0 = .ok (.iconst 0, 1) := by decide +kernel
theorem dX10_number_1 : decode cX10_number 1 = .ok (.istore_n 2, 1) := by decide +kernel
theorem dX10_number_2 : decode cX10_number 2 = .ok (.aload_n 0, 1) := by decide +kernel
theorem dX10_number_3 : decode cX10_number 3 = .ok (.aload_n 0, 1) := by decide +kernel
theorem dX10_number_4 : decode cX10_number 4 = .ok (.getfield 205, 3) := by decide +kernel
theorem dX10_number_7 : decode cX10_number 7 = .ok (.ifCond .eq 21, 3) := by decide +kernel
theorem dX10_number_10 : decode cX10_number 10 = .ok (.aload_n 0, 1) := by decide +kernel
theorem dX10_number_11 : decode cX10_number 11 = .ok (.invokevirtual 209, 3) := by decide +kernel
theorem dX10_number_14 : decode cX10_number 14 = .ok (.bipush 48, 2) := by decide +kernel
theorem dX10_number_16 : decode cX10_number 16 = .ok (.bipush 57, 2) := by decide +kernel
theorem dX10_number_18 : decode cX10_number 18 = .ok (.invokestatic 142, 3) := by decide +kernel
theorem dX10_number_21 : decode cX10_number 21 = .ok (.ifCond .eq 7, 3) := by decide +kernel
theorem dX10_number_24 : decode cX10_number 24 = .ok (.iconst 1, 1) := by decide +kernel
theorem dX10_number_25 : decode cX10_number 25 = .ok (.goto 4, 3) := by decide +kernel
theorem dX10_number_28 : decode cX10_number 28 = .ok (.iconst 0, 1) := by decide +kernel
theorem dX10_number_29 : decode cX10_number 29 = .ok (.putfield 205, 3) := by decide +kernel
theorem dX10_number_32 : decode cX10_number 32 = .ok (.iconst 0, 1) := by decide +kernel
theorem dX10_number_33 : decode cX10_number 33 = .ok (.istore_n 3, 1) := by decide +kernel
theorem dX10_number_34 : decode cX10_number 34 = .ok (.iload_n 3, 1) := by decide +kernel
theorem dX10_number_35 : decode cX10_number 35 = .ok (.iload_n 1, 1) := by decide +kernel
theorem dX10_number_36 : decode cX10_number 36 = .ok (.if_icmp .ge 61, 3) := by decide +kernel
theorem dX10_number_39 : decode cX10_number 39 = .ok (.aload_n 0, 1) := by decide +kernel
theorem dX10_number_40 : decode cX10_number 40 = .ok (.getfield 205, 3) := by decide +kernel
theorem dX10_number_43 : decode cX10_number 43 = .ok (.ifCond .eq 54, 3) := by decide +kernel
theorem dX10_number_46 : decode cX10_number 46 = .ok (.aload_n 0, 1) := by decide +kernel
theorem dX10_number_47 : decode cX10_number 47 = .ok (.invokevirtual 209, 3) := by decide +kernel
theorem dX10_number_50 : decode cX10_number 50 = .ok (.bipush 48, 2) := by decide +kernel
theorem dX10_number_52 : decode cX10_number 52 = .ok (.bipush 57, 2) := by decide +kernel
theorem dX10_number_54 : decode cX10_number 54 = .ok (.invokestatic 142, 3) := by decide +kernel
theorem dX10_number_57 : decode cX10_number 57 = .ok (.ifCond .eq 40, 3) := by decide +kernel
theorem dX10_number_60 : decode cX10_number 60 = .ok (.iload_n 3, 1) := by decide +kernel
theorem dX10_number_61 : decode cX10_number 61 = .ok (.ifCond .eq 7, 3) := by decide +kernel
theorem dX10_number_64 : decode cX10_number 64 = .ok (.iload_n 2, 1) := by decide +kernel
theorem dX10_number_65 : decode cX10_number 65 = .ok (.ifCond .le 32, 3) := by decide +kernel
theorem dX10_number_68 : decode cX10_number 68 = .ok (.bipush 10, 2) := by decide +kernel
theorem dX10_number_70 : decode cX10_number 70 = .ok (.iload_n 2, 1) := by decide +kernel
theorem dX10_number_71 : decode cX10_number 71 = .ok (.imul, 1) := by decide +kernel
theorem dX10_number_72 : decode cX10_number 72 = .ok (.aload_n 0, 1) := by decide +kernel
theorem dX10_number_73 : decode cX10_number 73 = .ok (.invokevirtual 209, 3) := by decide +kernel
theorem dX10_number_76 : decode cX10_number 76 = .ok (.iadd, 1) := by decide +kernel
theorem dX10_number_77 : decode cX10_number 77 = .ok (.bipush 48, 2) := by decide +kernel
theorem dX10_number_79 : decode cX10_number 79 = .ok (.isub, 1) := by decide +kernel
theorem dX10_number_80 : decode cX10_number 80 = .ok (.istore_n 2, 1) := by decide +kernel
theorem dX10_number_81 : decode cX10_number 81 = .ok (.aload_n 0, 1) := by decide +kernel
theorem dX10_number_82 : decode cX10_number 82 = .ok (.dup, 1) := by decide +kernel
theorem dX10_number_83 : decode cX10_number 83 = .ok (.getfield 199, 3) := by decide +kernel
theorem dX10_number_86 : decode cX10_number 86 = .ok (.iconst 1, 1) := by decide +kernel
theorem dX10_number_87 : decode cX10_number 87 = .ok (.iadd, 1) := by decide +kernel
theorem dX10_number_88 : decode cX10_number 88 = .ok (.putfield 199, 3) := by decide +kernel
theorem dX10_number_91 : decode cX10_number 91 = .ok (.iinc 3 1, 3) := by decide +kernel
theorem dX10_number_94 : decode cX10_number 94 = .ok (.goto (-60), 3) := by decide +kernel
theorem dX10_number_97 : decode cX10_number 97 = .ok (.iload_n 2, 1) := by decide +kernel
theorem dX10_number_98 : decode cX10_number 98 = .ok (.ireturn, 1) := by decide +kernel
theorem dX10_value_0 : decode cX10_value 0 = .ok (.aload_n 0, 1) := by decide +kernel
theorem dX10_value_1 : decode cX10_value 1 = .ok (.bipush 45, 2) := by decide +kernel
theorem dX10_value_3 : decode cX10_value 3 = .ok (.invokevirtual 316, 3) := by decide +kernel
theorem dX10_value_6 : decode cX10_value 6 = .ok (.istore_n 1, 1) := by decide +kernel
theorem dX10_value_7 : decode cX10_value 7 = .ok (.aload_n 0, 1) := by decide +kernel
theorem dX10_value_8 : decode cX10_value 8 = .ok (.iconst 3, 1) := by decide +kernel
theorem dX10_value_9 : decode cX10_value 9 = .ok (.invokevirtual 319, 3) := by decide +kernel
theorem dX10_value_12 : decode cX10_value 12 = .ok (.istore_n 2, 1) := by decide +kernel
theorem dX10_value_13 : decode cX10_value 13 = .ok (.iload_n 1, 1) := by decide +kernel
theorem dX10_value_14 : decode cX10_value 14 = .ok (.ifCond .eq 8, 3) := by decide +kernel
theorem dX10_value_17 : decode cX10_value 17 = .ok (.iload_n 2, 1) := by decide +kernel
theorem dX10_value_18 : decode cX10_value 18 = .ok (.ineg, 1) := by decide +kernel
theorem dX10_value_19 : decode cX10_value 19 = .ok (.goto 4, 3) := by decide +kernel
theorem dX10_value_22 : decode cX10_value 22 = .ok (.iload_n 2, 1) := by decide +kernel
theorem dX10_value_23 : decode cX10_value 23 = .ok (.ireturn, 1) := by decide +kernel
theorem dX10_readsWord_0 : decode cX10_readsWord 0 = .ok (.iconst 0, 1) := by decide +kernel
theorem dX10_readsWord_1 : decode cX10_readsWord 1 = .ok (.istore_n 1, 1) := by decide +kernel
theorem dX10_readsWord_2 : decode cX10_readsWord 2 = .ok (.iconst (-1), 1) := by decide +kernel
theorem dX10_readsWord_3 : decode cX10_readsWord 3 = .ok (.istore_n 2, 1) := by decide +kernel
theorem dX10_readsWord_4 : decode cX10_readsWord 4 = .ok (.iconst 0, 1) := by decide +kernel
theorem dX10_readsWord_5 : decode cX10_readsWord 5 = .ok (.istore_n 3, 1) := by decide +kernel
theorem dX10_readsWord_6 : decode cX10_readsWord 6 = .ok (.iload_n 3, 1) := by decide +kernel
theorem dX10_readsWord_7 : decode cX10_readsWord 7 = .ok (.iconst 4, 1) := by decide +kernel
theorem dX10_readsWord_8 : decode cX10_readsWord 8 = .ok (.if_icmp .ge 50, 3) := by decide +kernel
theorem dX10_readsWord_11 : decode cX10_readsWord 11 = .ok (.aload_n 0, 1) := by decide +kernel
theorem dX10_readsWord_12 : decode cX10_readsWord 12 = .ok (.iload_n 3, 1) := by decide +kernel
theorem dX10_readsWord_13 : decode cX10_readsWord 13 = .ok (.invokestatic 322, 3) := by decide +kernel
theorem dX10_readsWord_16 : decode cX10_readsWord 16 = .ok (.invokevirtual 326, 3) := by decide +kernel
theorem dX10_readsWord_19 : decode cX10_readsWord 19 = .ok (.istore 4, 2) := by decide +kernel
theorem dX10_readsWord_21 : decode cX10_readsWord 21 = .ok (.iload 4, 2) := by decide +kernel
theorem dX10_readsWord_23 : decode cX10_readsWord 23 = .ok (.iload_n 1, 1) := by decide +kernel
theorem dX10_readsWord_24 : decode cX10_readsWord 24 = .ok (.if_icmp .le 8, 3) := by decide +kernel
theorem dX10_readsWord_27 : decode cX10_readsWord 27 = .ok (.iload 4, 2) := by decide +kernel
theorem dX10_readsWord_29 : decode cX10_readsWord 29 = .ok (.goto 4, 3) := by decide +kernel
theorem dX10_readsWord_32 : decode cX10_readsWord 32 = .ok (.iload_n 1, 1) := by decide +kernel
theorem dX10_readsWord_33 : decode cX10_readsWord 33 = .ok (.istore_n 1, 1) := by decide +kernel
theorem dX10_readsWord_34 : decode cX10_readsWord 34 = .ok (.iload 4, 2) := by decide +kernel
theorem dX10_readsWord_36 : decode cX10_readsWord 36 = .ok (.iload_n 3, 1) := by decide +kernel
theorem dX10_readsWord_37 : decode cX10_readsWord 37 = .ok (.invokestatic 322, 3) := by decide +kernel
theorem dX10_readsWord_40 : decode cX10_readsWord 40 = .ok (.invokevirtual 308, 3) := by decide +kernel
theorem dX10_readsWord_43 : decode cX10_readsWord 43 = .ok (.if_icmp .ne 7, 3) := by decide +kernel
theorem dX10_readsWord_46 : decode cX10_readsWord 46 = .ok (.iload_n 3, 1) := by decide +kernel
theorem dX10_readsWord_47 : decode cX10_readsWord 47 = .ok (.goto 4, 3) := by decide +kernel
theorem dX10_readsWord_50 : decode cX10_readsWord 50 = .ok (.iload_n 2, 1) := by decide +kernel
theorem dX10_readsWord_51 : decode cX10_readsWord 51 = .ok (.istore_n 2, 1) := by decide +kernel
theorem dX10_readsWord_52 : decode cX10_readsWord 52 = .ok (.iinc 3 1, 3) := by decide +kernel
theorem dX10_readsWord_55 : decode cX10_readsWord 55 = .ok (.goto (-49), 3) := by decide +kernel
theorem dX10_readsWord_58 : decode cX10_readsWord 58 = .ok (.aload_n 0, 1) := by decide +kernel
theorem dX10_readsWord_59 : decode cX10_readsWord 59 = .ok (.dup, 1) := by decide +kernel
theorem dX10_readsWord_60 : decode cX10_readsWord 60 = .ok (.getfield 199, 3) := by decide +kernel
theorem dX10_readsWord_63 : decode cX10_readsWord 63 = .ok (.iload_n 1, 1) := by decide +kernel
theorem dX10_readsWord_64 : decode cX10_readsWord 64 = .ok (.iadd, 1) := by decide +kernel
theorem dX10_readsWord_65 : decode cX10_readsWord 65 = .ok (.putfield 199, 3) := by decide +kernel
theorem dX10_readsWord_68 : decode cX10_readsWord 68 = .ok (.aload_n 0, 1) := by decide +kernel
theorem dX10_readsWord_69 : decode cX10_readsWord 69 = .ok (.iload_n 2, 1) := by decide +kernel
theorem dX10_readsWord_70 : decode cX10_readsWord 70 = .ok (.iconst (-1), 1) := by decide +kernel
theorem dX10_readsWord_71 : decode cX10_readsWord 71 = .ok (.if_icmp .eq 7, 3) := by decide +kernel
theorem dX10_readsWord_74 : decode cX10_readsWord 74 = .ok (.iconst 1, 1) := by decide +kernel
theorem dX10_readsWord_75 : decode cX10_readsWord 75 = .ok (.goto 4, 3) := by decide +kernel
theorem dX10_readsWord_78 : decode cX10_readsWord 78 = .ok (.iconst 0, 1) := by decide +kernel
theorem dX10_readsWord_79 : decode cX10_readsWord 79 = .ok (.putfield 205, 3) := by decide +kernel
theorem dX10_readsWord_82 : decode cX10_readsWord 82 = .ok (.aload_n 0, 1) := by decide +kernel
theorem dX10_readsWord_83 : decode cX10_readsWord 83 = .ok (.getfield 73, 3) := by decide +kernel
theorem dX10_readsWord_86 : decode cX10_readsWord 86 = .ok (.aload_n 0, 1) := by decide +kernel
theorem dX10_readsWord_87 : decode cX10_readsWord 87 = .ok (.getfield 330, 3) := by decide +kernel
theorem dX10_readsWord_90 : decode cX10_readsWord 90 = .ok (.iload_n 2, 1) := by decide +kernel
theorem dX10_readsWord_91 : decode cX10_readsWord 91 = .ok (.iastore, 1) := by decide +kernel
theorem dX10_readsWord_92 : decode cX10_readsWord 92 = .ok (.return_, 1) := by decide +kernel
theorem dX10_readsCondition_0 : decode cX10_readsCondition 0 = .ok (.aload_n 0, 1) := by decide +kernel
theorem dX10_readsCondition_1 : decode cX10_readsCondition 1 = .ok (.getfield 85, 3) := by decide +kernel
theorem dX10_readsCondition_4 : decode cX10_readsCondition 4 = .ok (.aload_n 0, 1) := by decide +kernel
theorem dX10_readsCondition_5 : decode cX10_readsCondition 5 = .ok (.getfield 330, 3) := by decide +kernel
theorem dX10_readsCondition_8 : decode cX10_readsCondition 8 = .ok (.aload_n 0, 1) := by decide +kernel
theorem dX10_readsCondition_9 : decode cX10_readsCondition 9 = .ok (.bipush 33, 2) := by decide +kernel
theorem dX10_readsCondition_11 : decode cX10_readsCondition 11 = .ok (.invokevirtual 316, 3) := by decide +kernel
theorem dX10_readsCondition_14 : decode cX10_readsCondition 14 = .ok (.bastore, 1) := by decide +kernel
theorem dX10_readsCondition_15 : decode cX10_readsCondition 15 = .ok (.aload_n 0, 1) := by decide +kernel
theorem dX10_readsCondition_16 : decode cX10_readsCondition 16 = .ok (.getfield 76, 3) := by decide +kernel
theorem dX10_readsCondition_19 : decode cX10_readsCondition 19 = .ok (.aload_n 0, 1) := by decide +kernel
theorem dX10_readsCondition_20 : decode cX10_readsCondition 20 = .ok (.getfield 330, 3) := by decide +kernel
theorem dX10_readsCondition_23 : decode cX10_readsCondition 23 = .ok (.iconst 0, 1) := by decide +kernel
theorem dX10_readsCondition_24 : decode cX10_readsCondition 24 = .ok (.iastore, 1) := by decide +kernel
theorem dX10_readsCondition_25 : decode cX10_readsCondition 25 = .ok (.aload_n 0, 1) := by decide +kernel
theorem dX10_readsCondition_26 : decode cX10_readsCondition 26 = .ok (.getfield 79, 3) := by decide +kernel
theorem dX10_readsCondition_29 : decode cX10_readsCondition 29 = .ok (.aload_n 0, 1) := by decide +kernel
theorem dX10_readsCondition_30 : decode cX10_readsCondition 30 = .ok (.getfield 330, 3) := by decide +kernel
theorem dX10_readsCondition_33 : decode cX10_readsCondition 33 = .ok (.iconst 0, 1) := by decide +kernel
theorem dX10_readsCondition_34 : decode cX10_readsCondition 34 = .ok (.iastore, 1) := by decide +kernel
theorem dX10_readsCondition_35 : decode cX10_readsCondition 35 = .ok (.aload_n 0, 1) := by decide +kernel
theorem dX10_readsCondition_36 : decode cX10_readsCondition 36 = .ok (.bipush 62, 2) := by decide +kernel
theorem dX10_readsCondition_38 : decode cX10_readsCondition 38 = .ok (.invokevirtual 316, 3) := by decide +kernel
theorem dX10_readsCondition_41 : decode cX10_readsCondition 41 = .ok (.ifCond .eq 29, 3) := by decide +kernel
theorem dX10_readsCondition_44 : decode cX10_readsCondition 44 = .ok (.aload_n 0, 1) := by decide +kernel
theorem dX10_readsCondition_45 : decode cX10_readsCondition 45 = .ok (.getfield 73, 3) := by decide +kernel
theorem dX10_readsCondition_48 : decode cX10_readsCondition 48 = .ok (.aload_n 0, 1) := by decide +kernel
theorem dX10_readsCondition_49 : decode cX10_readsCondition 49 = .ok (.getfield 330, 3) := by decide +kernel
theorem dX10_readsCondition_52 : decode cX10_readsCondition 52 = .ok (.iconst 4, 1) := by decide +kernel
theorem dX10_readsCondition_53 : decode cX10_readsCondition 53 = .ok (.iastore, 1) := by decide +kernel
theorem dX10_readsCondition_54 : decode cX10_readsCondition 54 = .ok (.aload_n 0, 1) := by decide +kernel
theorem dX10_readsCondition_55 : decode cX10_readsCondition 55 = .ok (.getfield 76, 3) := by decide +kernel
theorem dX10_readsCondition_58 : decode cX10_readsCondition 58 = .ok (.aload_n 0, 1) := by decide +kernel
theorem dX10_readsCondition_59 : decode cX10_readsCondition 59 = .ok (.getfield 330, 3) := by decide +kernel
theorem dX10_readsCondition_62 : decode cX10_readsCondition 62 = .ok (.aload_n 0, 1) := by decide +kernel
theorem dX10_readsCondition_63 : decode cX10_readsCondition 63 = .ok (.invokevirtual 333, 3) := by decide +kernel
theorem dX10_readsCondition_66 : decode cX10_readsCondition 66 = .ok (.iastore, 1) := by decide +kernel
theorem dX10_readsCondition_67 : decode cX10_readsCondition 67 = .ok (.goto 139, 3) := by decide +kernel
theorem dX10_readsCondition_70 : decode cX10_readsCondition 70 = .ok (.aload_n 0, 1) := by decide +kernel
theorem dX10_readsCondition_71 : decode cX10_readsCondition 71 = .ok (.bipush 60, 2) := by decide +kernel
theorem dX10_readsCondition_73 : decode cX10_readsCondition 73 = .ok (.invokevirtual 316, 3) := by decide +kernel
theorem dX10_readsCondition_76 : decode cX10_readsCondition 76 = .ok (.ifCond .eq 29, 3) := by decide +kernel
theorem dX10_readsCondition_79 : decode cX10_readsCondition 79 = .ok (.aload_n 0, 1) := by decide +kernel
theorem dX10_readsCondition_80 : decode cX10_readsCondition 80 = .ok (.getfield 73, 3) := by decide +kernel
theorem dX10_readsCondition_83 : decode cX10_readsCondition 83 = .ok (.aload_n 0, 1) := by decide +kernel
theorem dX10_readsCondition_84 : decode cX10_readsCondition 84 = .ok (.getfield 330, 3) := by decide +kernel
theorem dX10_readsCondition_87 : decode cX10_readsCondition 87 = .ok (.iconst 5, 1) := by decide +kernel
theorem dX10_readsCondition_88 : decode cX10_readsCondition 88 = .ok (.iastore, 1) := by decide +kernel
theorem dX10_readsCondition_89 : decode cX10_readsCondition 89 = .ok (.aload_n 0, 1) := by decide +kernel
theorem dX10_readsCondition_90 : decode cX10_readsCondition 90 = .ok (.getfield 76, 3) := by decide +kernel
theorem dX10_readsCondition_93 : decode cX10_readsCondition 93 = .ok (.aload_n 0, 1) := by decide +kernel
theorem dX10_readsCondition_94 : decode cX10_readsCondition 94 = .ok (.getfield 330, 3) := by decide +kernel
theorem dX10_readsCondition_97 : decode cX10_readsCondition 97 = .ok (.aload_n 0, 1) := by decide +kernel
theorem dX10_readsCondition_98 : decode cX10_readsCondition 98 = .ok (.invokevirtual 333, 3) := by decide +kernel
theorem dX10_readsCondition_101 : decode cX10_readsCondition 101 = .ok (.iastore, 1) := by decide +kernel
theorem dX10_readsCondition_102 : decode cX10_readsCondition 102 = .ok (.goto 104, 3) := by decide +kernel
theorem dX10_readsCondition_105 : decode cX10_readsCondition 105 = .ok (.aload_n 0, 1) := by decide +kernel
theorem dX10_readsCondition_106 : decode cX10_readsCondition 106 = .ok (.bipush 126, 2) := by decide +kernel
theorem dX10_readsCondition_108 : decode cX10_readsCondition 108 = .ok (.invokevirtual 316, 3) := by decide +kernel
theorem dX10_readsCondition_111 : decode cX10_readsCondition 111 = .ok (.ifCond .eq 91, 3) := by decide +kernel
theorem dX10_readsCondition_114 : decode cX10_readsCondition 114 = .ok (.aload_n 0, 1) := by decide +kernel
theorem dX10_readsCondition_115 : decode cX10_readsCondition 115 = .ok (.getfield 73, 3) := by decide +kernel
theorem dX10_readsCondition_118 : decode cX10_readsCondition 118 = .ok (.aload_n 0, 1) := by decide +kernel
theorem dX10_readsCondition_119 : decode cX10_readsCondition 119 = .ok (.getfield 330, 3) := by decide +kernel
theorem dX10_readsCondition_122 : decode cX10_readsCondition 122 = .ok (.bipush 6, 2) := by decide +kernel
theorem dX10_readsCondition_124 : decode cX10_readsCondition 124 = .ok (.iastore, 1) := by decide +kernel
theorem dX10_readsCondition_125 : decode cX10_readsCondition 125 = .ok (.aload_n 0, 1) := by decide +kernel
theorem dX10_readsCondition_126 : decode cX10_readsCondition 126 = .ok (.invokevirtual 215, 3) := by decide +kernel
theorem dX10_readsCondition_129 : decode cX10_readsCondition 129 = .ok (.istore_n 1, 1) := by decide +kernel
theorem dX10_readsCondition_130 : decode cX10_readsCondition 130 = .ok (.aload_n 0, 1) := by decide +kernel
theorem dX10_readsCondition_131 : decode cX10_readsCondition 131 = .ok (.getfield 79, 3) := by decide +kernel
theorem dX10_readsCondition_134 : decode cX10_readsCondition 134 = .ok (.aload_n 0, 1) := by decide +kernel
theorem dX10_readsCondition_135 : decode cX10_readsCondition 135 = .ok (.getfield 330, 3) := by decide +kernel
theorem dX10_readsCondition_138 : decode cX10_readsCondition 138 = .ok (.aload_n 0, 1) := by decide +kernel
theorem dX10_readsCondition_139 : decode cX10_readsCondition 139 = .ok (.getfield 205, 3) := by decide +kernel
theorem dX10_readsCondition_142 : decode cX10_readsCondition 142 = .ok (.ifCond .eq 12, 3) := by decide +kernel
theorem dX10_readsCondition_145 : decode cX10_readsCondition 145 = .ok (.aload_n 0, 1) := by decide +kernel
theorem dX10_readsCondition_146 : decode cX10_readsCondition 146 = .ok (.getfield 199, 3) := by decide +kernel
theorem dX10_readsCondition_149 : decode cX10_readsCondition 149 = .ok (.iload_n 1, 1) := by decide +kernel
theorem dX10_readsCondition_150 : decode cX10_readsCondition 150 = .ok (.isub, 1) := by decide +kernel
theorem dX10_readsCondition_151 : decode cX10_readsCondition 151 = .ok (.goto 4, 3) := by decide +kernel
theorem dX10_readsCondition_154 : decode cX10_readsCondition 154 = .ok (.iconst 0, 1) := by decide +kernel
theorem dX10_readsCondition_155 : decode cX10_readsCondition 155 = .ok (.iastore, 1) := by decide +kernel
theorem dX10_readsCondition_156 : decode cX10_readsCondition 156 = .ok (.iconst 0, 1) := by decide +kernel
theorem dX10_readsCondition_157 : decode cX10_readsCondition 157 = .ok (.istore_n 2, 1) := by decide +kernel
theorem dX10_readsCondition_158 : decode cX10_readsCondition 158 = .ok (.iload_n 2, 1) := by decide +kernel
theorem dX10_readsCondition_159 : decode cX10_readsCondition 159 = .ok (.aload_n 0, 1) := by decide +kernel
theorem dX10_readsCondition_160 : decode cX10_readsCondition 160 = .ok (.getfield 79, 3) := by decide +kernel
theorem dX10_readsCondition_163 : decode cX10_readsCondition 163 = .ok (.aload_n 0, 1) := by decide +kernel
theorem dX10_readsCondition_164 : decode cX10_readsCondition 164 = .ok (.getfield 330, 3) := by decide +kernel
theorem dX10_readsCondition_167 : decode cX10_readsCondition 167 = .ok (.iaload, 1) := by decide +kernel
theorem dX10_readsCondition_168 : decode cX10_readsCondition 168 = .ok (.if_icmp .ge 31, 3) := by decide +kernel
theorem dX10_readsCondition_171 : decode cX10_readsCondition 171 = .ok (.aload_n 0, 1) := by decide +kernel
theorem dX10_readsCondition_172 : decode cX10_readsCondition 172 = .ok (.getfield 82, 3) := by decide +kernel
theorem dX10_readsCondition_175 : decode cX10_readsCondition 175 = .ok (.bipush 10, 2) := by decide +kernel
theorem dX10_readsCondition_177 : decode cX10_readsCondition 177 = .ok (.aload_n 0, 1) := by decide +kernel
theorem dX10_readsCondition_178 : decode cX10_readsCondition 178 = .ok (.getfield 330, 3) := by decide +kernel
theorem dX10_readsCondition_181 : decode cX10_readsCondition 181 = .ok (.imul, 1) := by decide +kernel
theorem dX10_readsCondition_182 : decode cX10_readsCondition 182 = .ok (.iload_n 2, 1) := by decide +kernel
theorem dX10_readsCondition_183 : decode cX10_readsCondition 183 = .ok (.iadd, 1) := by decide +kernel
theorem dX10_readsCondition_184 : decode cX10_readsCondition 184 = .ok (.aload_n 0, 1) := by decide +kernel
theorem dX10_readsCondition_185 : decode cX10_readsCondition 185 = .ok (.getfield 25, 3) := by decide +kernel
theorem dX10_readsCondition_188 : decode cX10_readsCondition 188 = .ok (.iload_n 1, 1) := by decide +kernel
theorem dX10_readsCondition_189 : decode cX10_readsCondition 189 = .ok (.iload_n 2, 1) := by decide +kernel
theorem dX10_readsCondition_190 : decode cX10_readsCondition 190 = .ok (.iadd, 1) := by decide +kernel
theorem dX10_readsCondition_191 : decode cX10_readsCondition 191 = .ok (.iaload, 1) := by decide +kernel
theorem dX10_readsCondition_192 : decode cX10_readsCondition 192 = .ok (.iastore, 1) := by decide +kernel
theorem dX10_readsCondition_193 : decode cX10_readsCondition 193 = .ok (.iinc 2 1, 3) := by decide +kernel
theorem dX10_readsCondition_196 : decode cX10_readsCondition 196 = .ok (.goto (-38), 3) := by decide +kernel
theorem dX10_readsCondition_199 : decode cX10_readsCondition 199 = .ok (.goto 7, 3) := by decide +kernel
theorem dX10_readsCondition_202 : decode cX10_readsCondition 202 = .ok (.aload_n 0, 1) := by decide +kernel
theorem dX10_readsCondition_203 : decode cX10_readsCondition 203 = .ok (.invokevirtual 336, 3) := by decide +kernel
theorem dX10_readsCondition_206 : decode cX10_readsCondition 206 = .ok (.aload_n 0, 1) := by decide +kernel
theorem dX10_readsCondition_207 : decode cX10_readsCondition 207 = .ok (.dup, 1) := by decide +kernel
theorem dX10_readsCondition_208 : decode cX10_readsCondition 208 = .ok (.getfield 330, 3) := by decide +kernel
theorem dX10_readsCondition_211 : decode cX10_readsCondition 211 = .ok (.iconst 1, 1) := by decide +kernel
theorem dX10_readsCondition_212 : decode cX10_readsCondition 212 = .ok (.iadd, 1) := by decide +kernel
theorem dX10_readsCondition_213 : decode cX10_readsCondition 213 = .ok (.putfield 330, 3) := by decide +kernel
theorem dX10_readsCondition_216 : decode cX10_readsCondition 216 = .ok (.return_, 1) := by decide +kernel
theorem dX10_readsFilter_0 : decode cX10_readsFilter 0 = .ok (.aload_n 0, 1) := by decide +kernel
theorem dX10_readsFilter_1 : decode cX10_readsFilter 1 = .ok (.iconst 0, 1) := by decide +kernel
theorem dX10_readsFilter_2 : decode cX10_readsFilter 2 = .ok (.putfield 330, 3) := by decide +kernel
theorem dX10_readsFilter_5 : decode cX10_readsFilter 5 = .ok (.aload_n 0, 1) := by decide +kernel
theorem dX10_readsFilter_6 : decode cX10_readsFilter 6 = .ok (.invokevirtual 339, 3) := by decide +kernel
theorem dX10_readsFilter_9 : decode cX10_readsFilter 9 = .ok (.aload_n 0, 1) := by decide +kernel
theorem dX10_readsFilter_10 : decode cX10_readsFilter 10 = .ok (.getfield 205, 3) := by decide +kernel
theorem dX10_readsFilter_13 : decode cX10_readsFilter 13 = .ok (.ifCond .eq 64, 3) := by decide +kernel
theorem dX10_readsFilter_16 : decode cX10_readsFilter 16 = .ok (.aload_n 0, 1) := by decide +kernel
theorem dX10_readsFilter_17 : decode cX10_readsFilter 17 = .ok (.getfield 199, 3) := by decide +kernel
theorem dX10_readsFilter_20 : decode cX10_readsFilter 20 = .ok (.aload_n 0, 1) := by decide +kernel
theorem dX10_readsFilter_21 : decode cX10_readsFilter 21 = .ok (.getfield 202, 3) := by decide +kernel
theorem dX10_readsFilter_24 : decode cX10_readsFilter 24 = .ok (.if_icmp .ge 53, 3) := by decide +kernel
theorem dX10_readsFilter_27 : decode cX10_readsFilter 27 = .ok (.aload_n 0, 1) := by decide +kernel
theorem dX10_readsFilter_28 : decode cX10_readsFilter 28 = .ok (.aload_n 0, 1) := by decide +kernel
theorem dX10_readsFilter_29 : decode cX10_readsFilter 29 = .ok (.getfield 330, 3) := by decide +kernel
theorem dX10_readsFilter_32 : decode cX10_readsFilter 32 = .ok (.iconst 5, 1) := by decide +kernel
theorem dX10_readsFilter_33 : decode cX10_readsFilter 33 = .ok (.if_icmp .ge 16, 3) := by decide +kernel
theorem dX10_readsFilter_36 : decode cX10_readsFilter 36 = .ok (.aload_n 0, 1) := by decide +kernel
theorem dX10_readsFilter_37 : decode cX10_readsFilter 37 = .ok (.invokevirtual 209, 3) := by decide +kernel
theorem dX10_readsFilter_40 : decode cX10_readsFilter 40 = .ok (.bipush 38, 2) := by decide +kernel
theorem dX10_readsFilter_42 : decode cX10_readsFilter 42 = .ok (.if_icmp .ne 7, 3) := by decide +kernel
theorem dX10_readsFilter_45 : decode cX10_readsFilter 45 = .ok (.iconst 1, 1) := by decide +kernel
theorem dX10_readsFilter_46 : decode cX10_readsFilter 46 = .ok (.goto 4, 3) := by decide +kernel
theorem dX10_readsFilter_49 : decode cX10_readsFilter 49 = .ok (.iconst 0, 1) := by decide +kernel
theorem dX10_readsFilter_50 : decode cX10_readsFilter 50 = .ok (.putfield 205, 3) := by decide +kernel
theorem dX10_readsFilter_53 : decode cX10_readsFilter 53 = .ok (.aload_n 0, 1) := by decide +kernel
theorem dX10_readsFilter_54 : decode cX10_readsFilter 54 = .ok (.getfield 205, 3) := by decide +kernel
theorem dX10_readsFilter_57 : decode cX10_readsFilter 57 = .ok (.ifCond .eq (-48), 3) := by decide +kernel
theorem dX10_readsFilter_60 : decode cX10_readsFilter 60 = .ok (.aload_n 0, 1) := by decide +kernel
theorem dX10_readsFilter_61 : decode cX10_readsFilter 61 = .ok (.dup, 1) := by decide +kernel
theorem dX10_readsFilter_62 : decode cX10_readsFilter 62 = .ok (.getfield 199, 3) := by decide +kernel
theorem dX10_readsFilter_65 : decode cX10_readsFilter 65 = .ok (.iconst 1, 1) := by decide +kernel
theorem dX10_readsFilter_66 : decode cX10_readsFilter 66 = .ok (.iadd, 1) := by decide +kernel
theorem dX10_readsFilter_67 : decode cX10_readsFilter 67 = .ok (.putfield 199, 3) := by decide +kernel
theorem dX10_readsFilter_70 : decode cX10_readsFilter 70 = .ok (.aload_n 0, 1) := by decide +kernel
theorem dX10_readsFilter_71 : decode cX10_readsFilter 71 = .ok (.invokevirtual 339, 3) := by decide +kernel
theorem dX10_readsFilter_74 : decode cX10_readsFilter 74 = .ok (.goto (-65), 3) := by decide +kernel
theorem dX10_readsFilter_77 : decode cX10_readsFilter 77 = .ok (.aload_n 0, 1) := by decide +kernel
theorem dX10_readsFilter_78 : decode cX10_readsFilter 78 = .ok (.getfield 205, 3) := by decide +kernel
theorem dX10_readsFilter_81 : decode cX10_readsFilter 81 = .ok (.ireturn, 1) := by decide +kernel
theorem dX10_filter_0 : decode cX10_filter 0 = .ok (.aload_n 0, 1) := by decide +kernel
theorem dX10_filter_1 : decode cX10_filter 1 = .ok (.iconst 0, 1) := by decide +kernel
theorem dX10_filter_2 : decode cX10_filter 2 = .ok (.putfield 139, 3) := by decide +kernel
theorem dX10_filter_5 : decode cX10_filter 5 = .ok (.aload_n 0, 1) := by decide +kernel
theorem dX10_filter_6 : decode cX10_filter 6 = .ok (.invokevirtual 212, 3) := by decide +kernel
theorem dX10_filter_9 : decode cX10_filter 9 = .ok (.aload_n 0, 1) := by decide +kernel
theorem dX10_filter_10 : decode cX10_filter 10 = .ok (.getfield 202, 3) := by decide +kernel
theorem dX10_filter_13 : decode cX10_filter 13 = .ok (.ifCond .le 24, 3) := by decide +kernel
theorem dX10_filter_16 : decode cX10_filter 16 = .ok (.aload_n 0, 1) := by decide +kernel
theorem dX10_filter_17 : decode cX10_filter 17 = .ok (.invokevirtual 342, 3) := by decide +kernel
theorem dX10_filter_20 : decode cX10_filter 20 = .ok (.ifCond .ne 17, 3) := by decide +kernel
theorem dX10_filter_23 : decode cX10_filter 23 = .ok (.aload_n 0, 1) := by decide +kernel
theorem dX10_filter_24 : decode cX10_filter 24 = .ok (.aload_n 0, 1) := by decide +kernel
theorem dX10_filter_25 : decode cX10_filter 25 = .ok (.getfield 199, 3) := by decide +kernel
theorem dX10_filter_28 : decode cX10_filter 28 = .ok (.putfield 28, 3) := by decide +kernel
theorem dX10_filter_31 : decode cX10_filter 31 = .ok (.aload_n 0, 1) := by decide +kernel
theorem dX10_filter_32 : decode cX10_filter 32 = .ok (.iconst 1, 1) := by decide +kernel
theorem dX10_filter_33 : decode cX10_filter 33 = .ok (.invokevirtual 186, 3) := by decide +kernel
theorem dX10_filter_36 : decode cX10_filter 36 = .ok (.ireturn, 1) := by decide +kernel
theorem dX10_filter_37 : decode cX10_filter 37 = .ok (.aload_n 0, 1) := by decide +kernel
theorem dX10_filter_38 : decode cX10_filter 38 = .ok (.aload_n 0, 1) := by decide +kernel
theorem dX10_filter_39 : decode cX10_filter 39 = .ok (.getfield 202, 3) := by decide +kernel
theorem dX10_filter_42 : decode cX10_filter 42 = .ok (.ifCond .ne 7, 3) := by decide +kernel
theorem dX10_filter_45 : decode cX10_filter 45 = .ok (.iconst 0, 1) := by decide +kernel
theorem dX10_filter_46 : decode cX10_filter 46 = .ok (.goto 7, 3) := by decide +kernel
theorem dX10_filter_49 : decode cX10_filter 49 = .ok (.aload_n 0, 1) := by decide +kernel
theorem dX10_filter_50 : decode cX10_filter 50 = .ok (.getfield 330, 3) := by decide +kernel
theorem dX10_filter_53 : decode cX10_filter 53 = .ok (.putfield 193, 3) := by decide +kernel
theorem dX10_filter_56 : decode cX10_filter 56 = .ok (.iconst 0, 1) := by decide +kernel
theorem dX10_filter_57 : decode cX10_filter 57 = .ok (.istore_n 1, 1) := by decide +kernel
theorem dX10_filter_58 : decode cX10_filter 58 = .ok (.iload_n 1, 1) := by decide +kernel
theorem dX10_filter_59 : decode cX10_filter 59 = .ok (.aload_n 0, 1) := by decide +kernel
theorem dX10_filter_60 : decode cX10_filter 60 = .ok (.getfield 193, 3) := by decide +kernel
theorem dX10_filter_63 : decode cX10_filter 63 = .ok (.if_icmp .ge 93, 3) := by decide +kernel
theorem dX10_filter_66 : decode cX10_filter 66 = .ok (.aload_n 0, 1) := by decide +kernel
theorem dX10_filter_67 : decode cX10_filter 67 = .ok (.getfield 57, 3) := by decide +kernel
theorem dX10_filter_70 : decode cX10_filter 70 = .ok (.iload_n 1, 1) := by decide +kernel
theorem dX10_filter_71 : decode cX10_filter 71 = .ok (.aload_n 0, 1) := by decide +kernel
theorem dX10_filter_72 : decode cX10_filter 72 = .ok (.getfield 73, 3) := by decide +kernel
theorem dX10_filter_75 : decode cX10_filter 75 = .ok (.iload_n 1, 1) := by decide +kernel
theorem dX10_filter_76 : decode cX10_filter 76 = .ok (.iaload, 1) := by decide +kernel
theorem dX10_filter_77 : decode cX10_filter 77 = .ok (.iastore, 1) := by decide +kernel
theorem dX10_filter_78 : decode cX10_filter 78 = .ok (.aload_n 0, 1) := by decide +kernel
theorem dX10_filter_79 : decode cX10_filter 79 = .ok (.getfield 60, 3) := by decide +kernel
theorem dX10_filter_82 : decode cX10_filter 82 = .ok (.iload_n 1, 1) := by decide +kernel
theorem dX10_filter_83 : decode cX10_filter 83 = .ok (.aload_n 0, 1) := by decide +kernel
theorem dX10_filter_84 : decode cX10_filter 84 = .ok (.getfield 76, 3) := by decide +kernel
theorem dX10_filter_87 : decode cX10_filter 87 = .ok (.iload_n 1, 1) := by decide +kernel
theorem dX10_filter_88 : decode cX10_filter 88 = .ok (.iaload, 1) := by decide +kernel
theorem dX10_filter_89 : decode cX10_filter 89 = .ok (.iastore, 1) := by decide +kernel
theorem dX10_filter_90 : decode cX10_filter 90 = .ok (.aload_n 0, 1) := by decide +kernel
theorem dX10_filter_91 : decode cX10_filter 91 = .ok (.getfield 63, 3) := by decide +kernel
theorem dX10_filter_94 : decode cX10_filter 94 = .ok (.iload_n 1, 1) := by decide +kernel
theorem dX10_filter_95 : decode cX10_filter 95 = .ok (.aload_n 0, 1) := by decide +kernel
theorem dX10_filter_96 : decode cX10_filter 96 = .ok (.getfield 79, 3) := by decide +kernel
theorem dX10_filter_99 : decode cX10_filter 99 = .ok (.iload_n 1, 1) := by decide +kernel
theorem dX10_filter_100 : decode cX10_filter 100 = .ok (.iaload, 1) := by decide +kernel
theorem dX10_filter_101 : decode cX10_filter 101 = .ok (.iastore, 1) := by decide +kernel
theorem dX10_filter_102 : decode cX10_filter 102 = .ok (.aload_n 0, 1) := by decide +kernel
theorem dX10_filter_103 : decode cX10_filter 103 = .ok (.getfield 69, 3) := by decide +kernel
theorem dX10_filter_106 : decode cX10_filter 106 = .ok (.iload_n 1, 1) := by decide +kernel
theorem dX10_filter_107 : decode cX10_filter 107 = .ok (.aload_n 0, 1) := by decide +kernel
theorem dX10_filter_108 : decode cX10_filter 108 = .ok (.getfield 85, 3) := by decide +kernel
theorem dX10_filter_111 : decode cX10_filter 111 = .ok (.iload_n 1, 1) := by decide +kernel
theorem dX10_filter_112 : decode cX10_filter 112 = .ok (.baload, 1) := by decide +kernel
theorem dX10_filter_113 : decode cX10_filter 113 = .ok (.bastore, 1) := by decide +kernel
theorem dX10_filter_114 : decode cX10_filter 114 = .ok (.iconst 0, 1) := by decide +kernel
theorem dX10_filter_115 : decode cX10_filter 115 = .ok (.istore_n 2, 1) := by decide +kernel
theorem dX10_filter_116 : decode cX10_filter 116 = .ok (.iload_n 2, 1) := by decide +kernel
theorem dX10_filter_117 : decode cX10_filter 117 = .ok (.bipush 10, 2) := by decide +kernel
theorem dX10_filter_119 : decode cX10_filter 119 = .ok (.if_icmp .ge 31, 3) := by decide +kernel
theorem dX10_filter_122 : decode cX10_filter 122 = .ok (.aload_n 0, 1) := by decide +kernel
theorem dX10_filter_123 : decode cX10_filter 123 = .ok (.getfield 66, 3) := by decide +kernel
theorem dX10_filter_126 : decode cX10_filter 126 = .ok (.bipush 10, 2) := by decide +kernel
theorem dX10_filter_128 : decode cX10_filter 128 = .ok (.iload_n 1, 1) := by decide +kernel
theorem dX10_filter_129 : decode cX10_filter 129 = .ok (.imul, 1) := by decide +kernel
theorem dX10_filter_130 : decode cX10_filter 130 = .ok (.iload_n 2, 1) := by decide +kernel
theorem dX10_filter_131 : decode cX10_filter 131 = .ok (.iadd, 1) := by decide +kernel
theorem dX10_filter_132 : decode cX10_filter 132 = .ok (.aload_n 0, 1) := by decide +kernel
theorem dX10_filter_133 : decode cX10_filter 133 = .ok (.getfield 82, 3) := by decide +kernel
theorem dX10_filter_136 : decode cX10_filter 136 = .ok (.bipush 10, 2) := by decide +kernel
theorem dX10_filter_138 : decode cX10_filter 138 = .ok (.iload_n 1, 1) := by decide +kernel
theorem dX10_filter_139 : decode cX10_filter 139 = .ok (.imul, 1) := by decide +kernel
theorem dX10_filter_140 : decode cX10_filter 140 = .ok (.iload_n 2, 1) := by decide +kernel
theorem dX10_filter_141 : decode cX10_filter 141 = .ok (.iadd, 1) := by decide +kernel
theorem dX10_filter_142 : decode cX10_filter 142 = .ok (.iaload, 1) := by decide +kernel
theorem dX10_filter_143 : decode cX10_filter 143 = .ok (.iastore, 1) := by decide +kernel
theorem dX10_filter_144 : decode cX10_filter 144 = .ok (.iinc 2 1, 3) := by decide +kernel
theorem dX10_filter_147 : decode cX10_filter 147 = .ok (.goto (-31), 3) := by decide +kernel
theorem dX10_filter_150 : decode cX10_filter 150 = .ok (.iinc 1 1, 3) := by decide +kernel
theorem dX10_filter_153 : decode cX10_filter 153 = .ok (.goto (-95), 3) := by decide +kernel
theorem dX10_filter_156 : decode cX10_filter 156 = .ok (.aload_n 0, 1) := by decide +kernel
theorem dX10_filter_157 : decode cX10_filter 157 = .ok (.invokevirtual 257, 3) := by decide +kernel
theorem dX10_filter_160 : decode cX10_filter 160 = .ok (.aload_n 0, 1) := by decide +kernel
theorem dX10_filter_161 : decode cX10_filter 161 = .ok (.getfield 260, 3) := by decide +kernel
theorem dX10_filter_164 : decode cX10_filter 164 = .ok (.ireturn, 1) := by decide +kernel
theorem dX10_lines_0 : decode cX10_lines 0 = .ok (.aload_n 0, 1) := by decide +kernel
theorem dX10_lines_1 : decode cX10_lines 1 = .ok (.invokevirtual 169, 3) := by decide +kernel
theorem dX10_lines_4 : decode cX10_lines 4 = .ok (.lconst 0, 1) := by decide +kernel
theorem dX10_lines_5 : decode cX10_lines 5 = .ok (.lstore_n 1, 1) := by decide +kernel
theorem dX10_lines_6 : decode cX10_lines 6 = .ok (.iconst 1, 1) := by decide +kernel
theorem dX10_lines_7 : decode cX10_lines 7 = .ok (.istore_n 3, 1) := by decide +kernel
theorem dX10_lines_8 : decode cX10_lines 8 = .ok (.iload_n 3, 1) := by decide +kernel
theorem dX10_lines_9 : decode cX10_lines 9 = .ok (.bipush 61, 2) := by decide +kernel
theorem dX10_lines_11 : decode cX10_lines 11 = .ok (.if_icmp .ge 35, 3) := by decide +kernel
theorem dX10_lines_14 : decode cX10_lines 14 = .ok (.lload_n 1, 1) := by decide +kernel
theorem dX10_lines_15 : decode cX10_lines 15 = .ok (.aload_n 0, 1) := by decide +kernel
theorem dX10_lines_16 : decode cX10_lines 16 = .ok (.iload_n 3, 1) := by decide +kernel
theorem dX10_lines_17 : decode cX10_lines 17 = .ok (.invokevirtual 146, 3) := by decide +kernel
theorem dX10_lines_20 : decode cX10_lines 20 = .ok (.ifCond .eq 17, 3) := by decide +kernel
theorem dX10_lines_23 : decode cX10_lines 23 = .ok (.aload_n 0, 1) := by decide +kernel
theorem dX10_lines_24 : decode cX10_lines 24 = .ok (.iload_n 3, 1) := by decide +kernel
theorem dX10_lines_25 : decode cX10_lines 25 = .ok (.invokevirtual 282, 3) := by decide +kernel
theorem dX10_lines_28 : decode cX10_lines 28 = .ok (.ifCond .eq 9, 3) := by decide +kernel
theorem dX10_lines_31 : decode cX10_lines 31 = .ok (.lconst 1, 1) := by decide +kernel
theorem dX10_lines_32 : decode cX10_lines 32 = .ok (.iload_n 3, 1) := by decide +kernel
theorem dX10_lines_33 : decode cX10_lines 33 = .ok (.lshl, 1) := by decide +kernel
theorem dX10_lines_34 : decode cX10_lines 34 = .ok (.goto 4, 3) := by decide +kernel
theorem dX10_lines_37 : decode cX10_lines 37 = .ok (.lconst 0, 1) := by decide +kernel
theorem dX10_lines_38 : decode cX10_lines 38 = .ok (.lor, 1) := by decide +kernel
theorem dX10_lines_39 : decode cX10_lines 39 = .ok (.lstore_n 1, 1) := by decide +kernel
theorem dX10_lines_40 : decode cX10_lines 40 = .ok (.iinc 3 1, 3) := by decide +kernel
theorem dX10_lines_43 : decode cX10_lines 43 = .ok (.goto (-35), 3) := by decide +kernel
theorem dX10_lines_46 : decode cX10_lines 46 = .ok (.aload_n 0, 1) := by decide +kernel
theorem dX10_lines_47 : decode cX10_lines 47 = .ok (.iconst 0, 1) := by decide +kernel
theorem dX10_lines_48 : decode cX10_lines 48 = .ok (.putfield 260, 3) := by decide +kernel
theorem dX10_lines_51 : decode cX10_lines 51 = .ok (.iconst 0, 1) := by decide +kernel
theorem dX10_lines_52 : decode cX10_lines 52 = .ok (.istore_n 3, 1) := by decide +kernel
theorem dX10_lines_53 : decode cX10_lines 53 = .ok (.aload_n 0, 1) := by decide +kernel
theorem dX10_lines_54 : decode cX10_lines 54 = .ok (.getfield 100, 3) := by decide +kernel
theorem dX10_lines_57 : decode cX10_lines 57 = .ok (.iconst 0, 1) := by decide +kernel
theorem dX10_lines_58 : decode cX10_lines 58 = .ok (.aload_n 0, 1) := by decide +kernel
theorem dX10_lines_59 : decode cX10_lines 59 = .ok (.invokevirtual 285, 3) := by decide +kernel
theorem dX10_lines_62 : decode cX10_lines 62 = .ok (.iastore, 1) := by decide +kernel
theorem dX10_lines_63 : decode cX10_lines 63 = .ok (.aload_n 0, 1) := by decide +kernel
theorem dX10_lines_64 : decode cX10_lines 64 = .ok (.getfield 103, 3) := by decide +kernel
theorem dX10_lines_67 : decode cX10_lines 67 = .ok (.iconst 0, 1) := by decide +kernel
theorem dX10_lines_68 : decode cX10_lines 68 = .ok (.iconst 0, 1) := by decide +kernel
theorem dX10_lines_69 : decode cX10_lines 69 = .ok (.iastore, 1) := by decide +kernel
theorem dX10_lines_70 : decode cX10_lines 70 = .ok (.iload_n 3, 1) := by decide +kernel
theorem dX10_lines_71 : decode cX10_lines 71 = .ok (.ifCond .lt 181, 3) := by decide +kernel
theorem dX10_lines_74 : decode cX10_lines 74 = .ok (.aload_n 0, 1) := by decide +kernel
theorem dX10_lines_75 : decode cX10_lines 75 = .ok (.getfield 100, 3) := by decide +kernel
theorem dX10_lines_78 : decode cX10_lines 78 = .ok (.iload_n 3, 1) := by decide +kernel
theorem dX10_lines_79 : decode cX10_lines 79 = .ok (.iaload, 1) := by decide +kernel
theorem dX10_lines_80 : decode cX10_lines 80 = .ok (.istore 4, 2) := by decide +kernel
theorem dX10_lines_82 : decode cX10_lines 82 = .ok (.aload_n 0, 1) := by decide +kernel
theorem dX10_lines_83 : decode cX10_lines 83 = .ok (.getfield 103, 3) := by decide +kernel
theorem dX10_lines_86 : decode cX10_lines 86 = .ok (.iload_n 3, 1) := by decide +kernel
theorem dX10_lines_87 : decode cX10_lines 87 = .ok (.iaload, 1) := by decide +kernel
theorem dX10_lines_88 : decode cX10_lines 88 = .ok (.istore 5, 2) := by decide +kernel
theorem dX10_lines_90 : decode cX10_lines 90 = .ok (.iload 5, 2) := by decide +kernel
theorem dX10_lines_92 : decode cX10_lines 92 = .ok (.aload_n 0, 1) := by decide +kernel
theorem dX10_lines_93 : decode cX10_lines 93 = .ok (.getfield 7, 3) := by decide +kernel
theorem dX10_lines_96 : decode cX10_lines 96 = .ok (.sipush 916, 3) := by decide +kernel
theorem dX10_lines_99 : decode cX10_lines 99 = .ok (.iload 4, 2) := by decide +kernel
theorem dX10_lines_101 : decode cX10_lines 101 = .ok (.iadd, 1) := by decide +kernel
theorem dX10_lines_102 : decode cX10_lines 102 = .ok (.iaload, 1) := by decide +kernel
theorem dX10_lines_103 : decode cX10_lines 103 = .ok (.if_icmp .ne 9, 3) := by decide +kernel
theorem dX10_lines_106 : decode cX10_lines 106 = .ok (.iinc 3 (-1), 3) := by decide +kernel
theorem dX10_lines_109 : decode cX10_lines 109 = .ok (.goto (-39), 3) := by decide +kernel
theorem dX10_lines_112 : decode cX10_lines 112 = .ok (.aload_n 0, 1) := by decide +kernel
theorem dX10_lines_113 : decode cX10_lines 113 = .ok (.getfield 103, 3) := by decide +kernel
theorem dX10_lines_116 : decode cX10_lines 116 = .ok (.iload_n 3, 1) := by decide +kernel
theorem dX10_lines_117 : decode cX10_lines 117 = .ok (.dup2, 1) := by decide +kernel
theorem dX10_lines_118 : decode cX10_lines 118 = .ok (.iaload, 1) := by decide +kernel
theorem dX10_lines_119 : decode cX10_lines 119 = .ok (.iconst 1, 1) := by decide +kernel
theorem dX10_lines_120 : decode cX10_lines 120 = .ok (.iadd, 1) := by decide +kernel
theorem dX10_lines_121 : decode cX10_lines 121 = .ok (.iastore, 1) := by decide +kernel
theorem dX10_lines_122 : decode cX10_lines 122 = .ok (.aload_n 0, 1) := by decide +kernel
theorem dX10_lines_123 : decode cX10_lines 123 = .ok (.iload 4, 2) := by decide +kernel
theorem dX10_lines_125 : decode cX10_lines 125 = .ok (.iload 5, 2) := by decide +kernel
theorem dX10_lines_127 : decode cX10_lines 127 = .ok (.invokevirtual 150, 3) := by decide +kernel
theorem dX10_lines_130 : decode cX10_lines 130 = .ok (.istore 6, 2) := by decide +kernel
theorem dX10_lines_132 : decode cX10_lines 132 = .ok (.aload_n 0, 1) := by decide +kernel
theorem dX10_lines_133 : decode cX10_lines 133 = .ok (.getfield 193, 3) := by decide +kernel
theorem dX10_lines_136 : decode cX10_lines 136 = .ok (.ifCond .le 25, 3) := by decide +kernel
theorem dX10_lines_139 : decode cX10_lines 139 = .ok (.aload_n 0, 1) := by decide +kernel
theorem dX10_lines_140 : decode cX10_lines 140 = .ok (.getfield 50, 3) := by decide +kernel
theorem dX10_lines_143 : decode cX10_lines 143 = .ok (.iload 6, 2) := by decide +kernel
theorem dX10_lines_145 : decode cX10_lines 145 = .ok (.laload, 1) := by decide +kernel
theorem dX10_lines_146 : decode cX10_lines 146 = .ok (.lconst 1, 1) := by decide +kernel
theorem dX10_lines_147 : decode cX10_lines 147 = .ok (.iload 6, 2) := by decide +kernel
theorem dX10_lines_149 : decode cX10_lines 149 = .ok (.lshl, 1) := by decide +kernel
theorem dX10_lines_150 : decode cX10_lines 150 = .ok (.lor, 1) := by decide +kernel
theorem dX10_lines_151 : decode cX10_lines 151 = .ok (.lload_n 1, 1) := by decide +kernel
theorem dX10_lines_152 : decode cX10_lines 152 = .ok (.land, 1) := by decide +kernel
theorem dX10_lines_153 : decode cX10_lines 153 = .ok (.lconst 0, 1) := by decide +kernel
theorem dX10_lines_154 : decode cX10_lines 154 = .ok (.lcmp, 1) := by decide +kernel
theorem dX10_lines_155 : decode cX10_lines 155 = .ok (.ifCond .ne 6, 3) := by decide +kernel
theorem dX10_lines_158 : decode cX10_lines 158 = .ok (.goto (-88), 3) := by decide +kernel
theorem dX10_lines_161 : decode cX10_lines 161 = .ok (.aload_n 0, 1) := by decide +kernel
theorem dX10_lines_162 : decode cX10_lines 162 = .ok (.getfield 88, 3) := by decide +kernel
theorem dX10_lines_165 : decode cX10_lines 165 = .ok (.aload_n 0, 1) := by decide +kernel
theorem dX10_lines_166 : decode cX10_lines 166 = .ok (.getfield 260, 3) := by decide +kernel
theorem dX10_lines_169 : decode cX10_lines 169 = .ok (.iload 6, 2) := by decide +kernel
theorem dX10_lines_171 : decode cX10_lines 171 = .ok (.iastore, 1) := by decide +kernel
theorem dX10_lines_172 : decode cX10_lines 172 = .ok (.aload_n 0, 1) := by decide +kernel
theorem dX10_lines_173 : decode cX10_lines 173 = .ok (.getfield 91, 3) := by decide +kernel
theorem dX10_lines_176 : decode cX10_lines 176 = .ok (.aload_n 0, 1) := by decide +kernel
theorem dX10_lines_177 : decode cX10_lines 177 = .ok (.getfield 260, 3) := by decide +kernel
theorem dX10_lines_180 : decode cX10_lines 180 = .ok (.iload_n 3, 1) := by decide +kernel
theorem dX10_lines_181 : decode cX10_lines 181 = .ok (.iastore, 1) := by decide +kernel
theorem dX10_lines_182 : decode cX10_lines 182 = .ok (.aload_n 0, 1) := by decide +kernel
theorem dX10_lines_183 : decode cX10_lines 183 = .ok (.getfield 94, 3) := by decide +kernel
theorem dX10_lines_186 : decode cX10_lines 186 = .ok (.aload_n 0, 1) := by decide +kernel
theorem dX10_lines_187 : decode cX10_lines 187 = .ok (.getfield 260, 3) := by decide +kernel
theorem dX10_lines_190 : decode cX10_lines 190 = .ok (.iload 4, 2) := by decide +kernel
theorem dX10_lines_192 : decode cX10_lines 192 = .ok (.iastore, 1) := by decide +kernel
theorem dX10_lines_193 : decode cX10_lines 193 = .ok (.aload_n 0, 1) := by decide +kernel
theorem dX10_lines_194 : decode cX10_lines 194 = .ok (.getfield 97, 3) := by decide +kernel
theorem dX10_lines_197 : decode cX10_lines 197 = .ok (.aload_n 0, 1) := by decide +kernel
theorem dX10_lines_198 : decode cX10_lines 198 = .ok (.getfield 260, 3) := by decide +kernel
theorem dX10_lines_201 : decode cX10_lines 201 = .ok (.iload 5, 2) := by decide +kernel
theorem dX10_lines_203 : decode cX10_lines 203 = .ok (.iastore, 1) := by decide +kernel
theorem dX10_lines_204 : decode cX10_lines 204 = .ok (.aload_n 0, 1) := by decide +kernel
theorem dX10_lines_205 : decode cX10_lines 205 = .ok (.dup, 1) := by decide +kernel
theorem dX10_lines_206 : decode cX10_lines 206 = .ok (.getfield 260, 3) := by decide +kernel
theorem dX10_lines_209 : decode cX10_lines 209 = .ok (.iconst 1, 1) := by decide +kernel
