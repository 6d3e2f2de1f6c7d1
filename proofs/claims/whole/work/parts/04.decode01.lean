theorem dX0_init_0 : decode cX0_init 0 = .ok (.aload_n 0, 1) := by decide +kernel
theorem dX0_init_1 : decode cX0_init 1 = .ok (.invokespecial 3, 3) := by decide +kernel
theorem dX0_init_4 : decode cX0_init 4 = .ok (.aload_n 0, 1) := by decide +kernel
theorem dX0_init_5 : decode cX0_init 5 = .ok (.iconst 3, 1) := by decide +kernel
theorem dX0_init_6 : decode cX0_init 6 = .ok (.newarray .int, 2) := by decide +kernel
theorem dX0_init_8 : decode cX0_init 8 = .ok (.putfield 9, 3) := by decide +kernel
theorem dX0_init_11 : decode cX0_init 11 = .ok (.aload_n 0, 1) := by decide +kernel
theorem dX0_init_12 : decode cX0_init 12 = .ok (.iconst 0, 1) := by decide +kernel
theorem dX0_init_13 : decode cX0_init 13 = .ok (.putfield 15, 3) := by decide +kernel
theorem dX0_init_16 : decode cX0_init 16 = .ok (.return_, 1) := by decide +kernel
theorem dX0_size_0 : decode cX0_size 0 = .ok (.aload_n 0, 1) := by decide +kernel
theorem dX0_size_1 : decode cX0_size 1 = .ok (.getfield 15, 3) := by decide +kernel
theorem dX0_size_4 : decode cX0_size 4 = .ok (.ireturn, 1) := by decide +kernel
theorem dX0_numberAt_0 : decode cX0_numberAt 0 = .ok (.aload_n 0, 1) := by decide +kernel
theorem dX0_numberAt_1 : decode cX0_numberAt 1 = .ok (.getfield 9, 3) := by decide +kernel
theorem dX0_numberAt_4 : decode cX0_numberAt 4 = .ok (.iload_n 1, 1) := by decide +kernel
theorem dX0_numberAt_5 : decode cX0_numberAt 5 = .ok (.iaload, 1) := by decide +kernel
theorem dX0_numberAt_6 : decode cX0_numberAt 6 = .ok (.ireturn, 1) := by decide +kernel
theorem dX0_keep_0 : decode cX0_keep 0 = .ok (.aload_n 0, 1) := by decide +kernel
theorem dX0_keep_1 : decode cX0_keep 1 = .ok (.getfield 9, 3) := by decide +kernel
theorem dX0_keep_4 : decode cX0_keep 4 = .ok (.iconst 0, 1) := by decide +kernel
theorem dX0_keep_5 : decode cX0_keep 5 = .ok (.iload_n 1, 1) := by decide +kernel
theorem dX0_keep_6 : decode cX0_keep 6 = .ok (.iastore, 1) := by decide +kernel
theorem dX0_keep_7 : decode cX0_keep 7 = .ok (.aload_n 0, 1) := by decide +kernel
theorem dX0_keep_8 : decode cX0_keep 8 = .ok (.iconst 1, 1) := by decide +kernel
theorem dX0_keep_9 : decode cX0_keep 9 = .ok (.putfield 15, 3) := by decide +kernel
theorem dX0_keep_12 : decode cX0_keep 12 = .ok (.iload_n 1, 1) := by decide +kernel
theorem dX0_keep_13 : decode cX0_keep 13 = .ok (.bipush 30, 2) := by decide +kernel
theorem dX0_keep_15 : decode cX0_keep 15 = .ok (.if_icmp .eq 9, 3) := by decide +kernel
theorem dX0_keep_18 : decode cX0_keep 18 = .ok (.iload_n 1, 1) := by decide +kernel
theorem dX0_keep_19 : decode cX0_keep 19 = .ok (.bipush 60, 2) := by decide +kernel
theorem dX0_keep_21 : decode cX0_keep 21 = .ok (.if_icmp .ne 26, 3) := by decide +kernel
theorem dX0_keep_24 : decode cX0_keep 24 = .ok (.aload_n 0, 1) := by decide +kernel
theorem dX0_keep_25 : decode cX0_keep 25 = .ok (.getfield 9, 3) := by decide +kernel
theorem dX0_keep_28 : decode cX0_keep 28 = .ok (.aload_n 0, 1) := by decide +kernel
theorem dX0_keep_29 : decode cX0_keep 29 = .ok (.getfield 15, 3) := by decide +kernel
theorem dX0_keep_32 : decode cX0_keep 32 = .ok (.bipush 100, 2) := by decide +kernel
theorem dX0_keep_34 : decode cX0_keep 34 = .ok (.iload_n 2, 1) := by decide +kernel
theorem dX0_keep_35 : decode cX0_keep 35 = .ok (.iadd, 1) := by decide +kernel
theorem dX0_keep_36 : decode cX0_keep 36 = .ok (.iastore, 1) := by decide +kernel
theorem dX0_keep_37 : decode cX0_keep 37 = .ok (.aload_n 0, 1) := by decide +kernel
theorem dX0_keep_38 : decode cX0_keep 38 = .ok (.dup, 1) := by decide +kernel
theorem dX0_keep_39 : decode cX0_keep 39 = .ok (.getfield 15, 3) := by decide +kernel
theorem dX0_keep_42 : decode cX0_keep 42 = .ok (.iconst 1, 1) := by decide +kernel
theorem dX0_keep_43 : decode cX0_keep 43 = .ok (.iadd, 1) := by decide +kernel
theorem dX0_keep_44 : decode cX0_keep 44 = .ok (.putfield 15, 3) := by decide +kernel
theorem dX0_keep_47 : decode cX0_keep 47 = .ok (.aload_n 0, 1) := by decide +kernel
theorem dX0_keep_48 : decode cX0_keep 48 = .ok (.getfield 9, 3) := by decide +kernel
theorem dX0_keep_51 : decode cX0_keep 51 = .ok (.aload_n 0, 1) := by decide +kernel
theorem dX0_keep_52 : decode cX0_keep 52 = .ok (.getfield 15, 3) := by decide +kernel
theorem dX0_keep_55 : decode cX0_keep 55 = .ok (.iload_n 3, 1) := by decide +kernel
theorem dX0_keep_56 : decode cX0_keep 56 = .ok (.iastore, 1) := by decide +kernel
theorem dX0_keep_57 : decode cX0_keep 57 = .ok (.aload_n 0, 1) := by decide +kernel
theorem dX0_keep_58 : decode cX0_keep 58 = .ok (.dup, 1) := by decide +kernel
theorem dX0_keep_59 : decode cX0_keep 59 = .ok (.getfield 15, 3) := by decide +kernel
theorem dX0_keep_62 : decode cX0_keep 62 = .ok (.iconst 1, 1) := by decide +kernel
theorem dX0_keep_63 : decode cX0_keep 63 = .ok (.iadd, 1) := by decide +kernel
theorem dX0_keep_64 : decode cX0_keep 64 = .ok (.putfield 15, 3) := by decide +kernel
theorem dX0_keep_67 : decode cX0_keep 67 = .ok (.return_, 1) := by decide +kernel
theorem dX1_init_0 : decode cX1_init 0 = .ok (.aload_n 0, 1) := by decide +kernel
theorem dX1_init_1 : decode cX1_init 1 = .ok (.invokespecial 3, 3) := by decide +kernel
theorem dX1_init_4 : decode cX1_init 4 = .ok (.aload_n 0, 1) := by decide +kernel
theorem dX1_init_5 : decode cX1_init 5 = .ok (.iconst 5, 1) := by decide +kernel
theorem dX1_init_6 : decode cX1_init 6 = .ok (.newarray .int, 2) := by decide +kernel
theorem dX1_init_8 : decode cX1_init 8 = .ok (.putfield 9, 3) := by decide +kernel
theorem dX1_init_11 : decode cX1_init 11 = .ok (.aload_n 0, 1) := by decide +kernel
theorem dX1_init_12 : decode cX1_init 12 = .ok (.iconst 5, 1) := by decide +kernel
theorem dX1_init_13 : decode cX1_init 13 = .ok (.newarray .boolean, 2) := by decide +kernel
theorem dX1_init_15 : decode cX1_init 15 = .ok (.putfield 15, 3) := by decide +kernel
theorem dX1_init_18 : decode cX1_init 18 = .ok (.aload_n 0, 1) := by decide +kernel
theorem dX1_init_19 : decode cX1_init 19 = .ok (.iconst 5, 1) := by decide +kernel
theorem dX1_init_20 : decode cX1_init 20 = .ok (.newarray .int, 2) := by decide +kernel
theorem dX1_init_22 : decode cX1_init 22 = .ok (.putfield 19, 3) := by decide +kernel
theorem dX1_init_25 : decode cX1_init 25 = .ok (.aload_n 0, 1) := by decide +kernel
theorem dX1_init_26 : decode cX1_init 26 = .ok (.bipush 50, 2) := by decide +kernel
theorem dX1_init_28 : decode cX1_init 28 = .ok (.newarray .char, 2) := by decide +kernel
theorem dX1_init_30 : decode cX1_init 30 = .ok (.putfield 22, 3) := by decide +kernel
theorem dX1_init_33 : decode cX1_init 33 = .ok (.aload_n 0, 1) := by decide +kernel
theorem dX1_init_34 : decode cX1_init 34 = .ok (.iconst 5, 1) := by decide +kernel
theorem dX1_init_35 : decode cX1_init 35 = .ok (.newarray .int, 2) := by decide +kernel
theorem dX1_init_37 : decode cX1_init 37 = .ok (.putfield 26, 3) := by decide +kernel
theorem dX1_init_40 : decode cX1_init 40 = .ok (.aload_n 0, 1) := by decide +kernel
theorem dX1_init_41 : decode cX1_init 41 = .ok (.iconst 0, 1) := by decide +kernel
theorem dX1_init_42 : decode cX1_init 42 = .ok (.putfield 29, 3) := by decide +kernel
theorem dX1_init_45 : decode cX1_init 45 = .ok (.return_, 1) := by decide +kernel
theorem dX1_size_0 : decode cX1_size 0 = .ok (.aload_n 0, 1) := by decide +kernel
theorem dX1_size_1 : decode cX1_size 1 = .ok (.getfield 29, 3) := by decide +kernel
theorem dX1_size_4 : decode cX1_size 4 = .ok (.ireturn, 1) := by decide +kernel
theorem dX1_forget_0 : decode cX1_forget 0 = .ok (.aload_n 0, 1) := by decide +kernel
theorem dX1_forget_1 : decode cX1_forget 1 = .ok (.iconst 0, 1) := by decide +kernel
theorem dX1_forget_2 : decode cX1_forget 2 = .ok (.putfield 29, 3) := by decide +kernel
theorem dX1_forget_5 : decode cX1_forget 5 = .ok (.return_, 1) := by decide +kernel
theorem dX1_read_0 : decode cX1_read 0 = .ok (.aload_n 1, 1) := by decide +kernel
theorem dX1_read_1 : decode cX1_read 1 = .ok (.invokevirtual 33, 3) := by decide +kernel
theorem dX1_read_4 : decode cX1_read 4 = .ok (.aload_n 0, 1) := by decide +kernel
theorem dX1_read_5 : decode cX1_read 5 = .ok (.iconst 0, 1) := by decide +kernel
theorem dX1_read_6 : decode cX1_read 6 = .ok (.putfield 29, 3) := by decide +kernel
theorem dX1_read_9 : decode cX1_read 9 = .ok (.iconst 1, 1) := by decide +kernel
theorem dX1_read_10 : decode cX1_read 10 = .ok (.istore_n 2, 1) := by decide +kernel
theorem dX1_read_11 : decode cX1_read 11 = .ok (.iconst 0, 1) := by decide +kernel
theorem dX1_read_12 : decode cX1_read 12 = .ok (.istore_n 3, 1) := by decide +kernel
theorem dX1_read_13 : decode cX1_read 13 = .ok (.iload_n 2, 1) := by decide +kernel
theorem dX1_read_14 : decode cX1_read 14 = .ok (.ifCond .eq 55, 3) := by decide +kernel
theorem dX1_read_17 : decode cX1_read 17 = .ok (.iload_n 3, 1) := by decide +kernel
theorem dX1_read_18 : decode cX1_read 18 = .ok (.iconst 5, 1) := by decide +kernel
theorem dX1_read_19 : decode cX1_read 19 = .ok (.if_icmp .ge 50, 3) := by decide +kernel
theorem dX1_read_22 : decode cX1_read 22 = .ok (.aload_n 0, 1) := by decide +kernel
theorem dX1_read_23 : decode cX1_read 23 = .ok (.aload_n 1, 1) := by decide +kernel
theorem dX1_read_24 : decode cX1_read 24 = .ok (.iload_n 3, 1) := by decide +kernel
theorem dX1_read_25 : decode cX1_read 25 = .ok (.invokevirtual 38, 3) := by decide +kernel
theorem dX1_read_28 : decode cX1_read 28 = .ok (.ifCond .ne 5, 3) := by decide +kernel
theorem dX1_read_31 : decode cX1_read 31 = .ok (.iconst 0, 1) := by decide +kernel
theorem dX1_read_32 : decode cX1_read 32 = .ok (.ireturn, 1) := by decide +kernel
theorem dX1_read_33 : decode cX1_read 33 = .ok (.aload_n 0, 1) := by decide +kernel
theorem dX1_read_34 : decode cX1_read 34 = .ok (.iload_n 3, 1) := by decide +kernel
theorem dX1_read_35 : decode cX1_read 35 = .ok (.iconst 1, 1) := by decide +kernel
theorem dX1_read_36 : decode cX1_read 36 = .ok (.iadd, 1) := by decide +kernel
theorem dX1_read_37 : decode cX1_read 37 = .ok (.putfield 29, 3) := by decide +kernel
theorem dX1_read_40 : decode cX1_read 40 = .ok (.aload_n 0, 1) := by decide +kernel
theorem dX1_read_41 : decode cX1_read 41 = .ok (.getfield 29, 3) := by decide +kernel
theorem dX1_read_44 : decode cX1_read 44 = .ok (.iconst 5, 1) := by decide +kernel
theorem dX1_read_45 : decode cX1_read 45 = .ok (.if_icmp .ge 16, 3) := by decide +kernel
theorem dX1_read_48 : decode cX1_read 48 = .ok (.aload_n 1, 1) := by decide +kernel
theorem dX1_read_49 : decode cX1_read 49 = .ok (.bipush 38, 2) := by decide +kernel
theorem dX1_read_51 : decode cX1_read 51 = .ok (.invokevirtual 42, 3) := by decide +kernel
theorem dX1_read_54 : decode cX1_read 54 = .ok (.ifCond .eq 7, 3) := by decide +kernel
theorem dX1_read_57 : decode cX1_read 57 = .ok (.iconst 1, 1) := by decide +kernel
theorem dX1_read_58 : decode cX1_read 58 = .ok (.goto 4, 3) := by decide +kernel
theorem dX1_read_61 : decode cX1_read 61 = .ok (.iconst 0, 1) := by decide +kernel
theorem dX1_read_62 : decode cX1_read 62 = .ok (.istore_n 2, 1) := by decide +kernel
theorem dX1_read_63 : decode cX1_read 63 = .ok (.iinc 3 1, 3) := by decide +kernel
theorem dX1_read_66 : decode cX1_read 66 = .ok (.goto (-53), 3) := by decide +kernel
theorem dX1_read_69 : decode cX1_read 69 = .ok (.aload_n 1, 1) := by decide +kernel
theorem dX1_read_70 : decode cX1_read 70 = .ok (.invokevirtual 46, 3) := by decide +kernel
theorem dX1_read_73 : decode cX1_read 73 = .ok (.ireturn, 1) := by decide +kernel
theorem dX1_readCondition_0 : decode cX1_readCondition 0 = .ok (.aload_n 0, 1) := by decide +kernel
theorem dX1_readCondition_1 : decode cX1_readCondition 1 = .ok (.getfield 15, 3) := by decide +kernel
theorem dX1_readCondition_4 : decode cX1_readCondition 4 = .ok (.iload_n 2, 1) := by decide +kernel
theorem dX1_readCondition_5 : decode cX1_readCondition 5 = .ok (.aload_n 1, 1) := by decide +kernel
theorem dX1_readCondition_6 : decode cX1_readCondition 6 = .ok (.bipush 33, 2) := by decide +kernel
theorem dX1_readCondition_8 : decode cX1_readCondition 8 = .ok (.invokevirtual 42, 3) := by decide +kernel
theorem dX1_readCondition_11 : decode cX1_readCondition 11 = .ok (.bastore, 1) := by decide +kernel
theorem dX1_readCondition_12 : decode cX1_readCondition 12 = .ok (.aload_n 1, 1) := by decide +kernel
theorem dX1_readCondition_13 : decode cX1_readCondition 13 = .ok (.bipush 100, 2) := by decide +kernel
theorem dX1_readCondition_15 : decode cX1_readCondition 15 = .ok (.invokevirtual 42, 3) := by decide +kernel
theorem dX1_readCondition_18 : decode cX1_readCondition 18 = .ok (.ifCond .eq 10, 3) := by decide +kernel
theorem dX1_readCondition_21 : decode cX1_readCondition 21 = .ok (.aload_n 0, 1) := by decide +kernel
theorem dX1_readCondition_22 : decode cX1_readCondition 22 = .ok (.aload_n 1, 1) := by decide +kernel
theorem dX1_readCondition_23 : decode cX1_readCondition 23 = .ok (.iload_n 2, 1) := by decide +kernel
theorem dX1_readCondition_24 : decode cX1_readCondition 24 = .ok (.invokevirtual 50, 3) := by decide +kernel
theorem dX1_readCondition_27 : decode cX1_readCondition 27 = .ok (.ireturn, 1) := by decide +kernel
theorem dX1_readCondition_28 : decode cX1_readCondition 28 = .ok (.aload_n 1, 1) := by decide +kernel
theorem dX1_readCondition_29 : decode cX1_readCondition 29 = .ok (.bipush 108, 2) := by decide +kernel
theorem dX1_readCondition_31 : decode cX1_readCondition 31 = .ok (.invokevirtual 42, 3) := by decide +kernel
theorem dX1_readCondition_34 : decode cX1_readCondition 34 = .ok (.ifCond .eq 17, 3) := by decide +kernel
theorem dX1_readCondition_37 : decode cX1_readCondition 37 = .ok (.aload_n 0, 1) := by decide +kernel
theorem dX1_readCondition_38 : decode cX1_readCondition 38 = .ok (.getfield 9, 3) := by decide +kernel
theorem dX1_readCondition_41 : decode cX1_readCondition 41 = .ok (.iload_n 2, 1) := by decide +kernel
theorem dX1_readCondition_42 : decode cX1_readCondition 42 = .ok (.iconst 2, 1) := by decide +kernel
theorem dX1_readCondition_43 : decode cX1_readCondition 43 = .ok (.iastore, 1) := by decide +kernel
theorem dX1_readCondition_44 : decode cX1_readCondition 44 = .ok (.aload_n 1, 1) := by decide +kernel
theorem dX1_readCondition_45 : decode cX1_readCondition 45 = .ok (.ldc 53, 2) := by decide +kernel
theorem dX1_readCondition_47 : decode cX1_readCondition 47 = .ok (.invokevirtual 55, 3) := by decide +kernel
theorem dX1_readCondition_50 : decode cX1_readCondition 50 = .ok (.ireturn, 1) := by decide +kernel
theorem dX1_readCondition_51 : decode cX1_readCondition 51 = .ok (.aload_n 1, 1) := by decide +kernel
theorem dX1_readCondition_52 : decode cX1_readCondition 52 = .ok (.bipush 109, 2) := by decide +kernel
theorem dX1_readCondition_54 : decode cX1_readCondition 54 = .ok (.invokevirtual 42, 3) := by decide +kernel
theorem dX1_readCondition_57 : decode cX1_readCondition 57 = .ok (.ifCond .eq 17, 3) := by decide +kernel
theorem dX1_readCondition_60 : decode cX1_readCondition 60 = .ok (.aload_n 0, 1) := by decide +kernel
theorem dX1_readCondition_61 : decode cX1_readCondition 61 = .ok (.getfield 9, 3) := by decide +kernel
theorem dX1_readCondition_64 : decode cX1_readCondition 64 = .ok (.iload_n 2, 1) := by decide +kernel
theorem dX1_readCondition_65 : decode cX1_readCondition 65 = .ok (.iconst 3, 1) := by decide +kernel
theorem dX1_readCondition_66 : decode cX1_readCondition 66 = .ok (.iastore, 1) := by decide +kernel
theorem dX1_readCondition_67 : decode cX1_readCondition 67 = .ok (.aload_n 1, 1) := by decide +kernel
theorem dX1_readCondition_68 : decode cX1_readCondition 68 = .ok (.ldc 59, 2) := by decide +kernel
theorem dX1_readCondition_70 : decode cX1_readCondition 70 = .ok (.invokevirtual 55, 3) := by decide +kernel
theorem dX1_readCondition_73 : decode cX1_readCondition 73 = .ok (.ireturn, 1) := by decide +kernel
theorem dX1_readCondition_74 : decode cX1_readCondition 74 = .ok (.aload_n 1, 1) := by decide +kernel
theorem dX1_readCondition_75 : decode cX1_readCondition 75 = .ok (.bipush 62, 2) := by decide +kernel
theorem dX1_readCondition_77 : decode cX1_readCondition 77 = .ok (.invokevirtual 42, 3) := by decide +kernel
theorem dX1_readCondition_80 : decode cX1_readCondition 80 = .ok (.ifCond .eq 11, 3) := by decide +kernel
theorem dX1_readCondition_83 : decode cX1_readCondition 83 = .ok (.aload_n 0, 1) := by decide +kernel
theorem dX1_readCondition_84 : decode cX1_readCondition 84 = .ok (.aload_n 1, 1) := by decide +kernel
theorem dX1_readCondition_85 : decode cX1_readCondition 85 = .ok (.iload_n 2, 1) := by decide +kernel
theorem dX1_readCondition_86 : decode cX1_readCondition 86 = .ok (.iconst 4, 1) := by decide +kernel
theorem dX1_readCondition_87 : decode cX1_readCondition 87 = .ok (.invokevirtual 61, 3) := by decide +kernel
theorem dX1_readCondition_90 : decode cX1_readCondition 90 = .ok (.ireturn, 1) := by decide +kernel
theorem dX1_readCondition_91 : decode cX1_readCondition 91 = .ok (.aload_n 1, 1) := by decide +kernel
theorem dX1_readCondition_92 : decode cX1_readCondition 92 = .ok (.bipush 60, 2) := by decide +kernel
theorem dX1_readCondition_94 : decode cX1_readCondition 94 = .ok (.invokevirtual 42, 3) := by decide +kernel
theorem dX1_readCondition_97 : decode cX1_readCondition 97 = .ok (.ifCond .eq 11, 3) := by decide +kernel
theorem dX1_readCondition_100 : decode cX1_readCondition 100 = .ok (.aload_n 0, 1) := by decide +kernel
theorem dX1_readCondition_101 : decode cX1_readCondition 101 = .ok (.aload_n 1, 1) := by decide +kernel
theorem dX1_readCondition_102 : decode cX1_readCondition 102 = .ok (.iload_n 2, 1) := by decide +kernel
theorem dX1_readCondition_103 : decode cX1_readCondition 103 = .ok (.iconst 5, 1) := by decide +kernel
theorem dX1_readCondition_104 : decode cX1_readCondition 104 = .ok (.invokevirtual 61, 3) := by decide +kernel
theorem dX1_readCondition_107 : decode cX1_readCondition 107 = .ok (.ireturn, 1) := by decide +kernel
theorem dX1_readCondition_108 : decode cX1_readCondition 108 = .ok (.aload_n 1, 1) := by decide +kernel
theorem dX1_readCondition_109 : decode cX1_readCondition 109 = .ok (.bipush 126, 2) := by decide +kernel
theorem dX1_readCondition_111 : decode cX1_readCondition 111 = .ok (.invokevirtual 42, 3) := by decide +kernel
theorem dX1_readCondition_114 : decode cX1_readCondition 114 = .ok (.ifCond .eq 16, 3) := by decide +kernel
theorem dX1_readCondition_117 : decode cX1_readCondition 117 = .ok (.aload_n 0, 1) := by decide +kernel
theorem dX1_readCondition_118 : decode cX1_readCondition 118 = .ok (.aload_n 1, 1) := by decide +kernel
theorem dX1_readCondition_119 : decode cX1_readCondition 119 = .ok (.iload_n 2, 1) := by decide +kernel
theorem dX1_readCondition_120 : decode cX1_readCondition 120 = .ok (.invokevirtual 65, 3) := by decide +kernel
theorem dX1_readCondition_123 : decode cX1_readCondition 123 = .ok (.ifCond .eq 7, 3) := by decide +kernel
theorem dX1_readCondition_126 : decode cX1_readCondition 126 = .ok (.iconst 1, 1) := by decide +kernel
theorem dX1_readCondition_127 : decode cX1_readCondition 127 = .ok (.goto 4, 3) := by decide +kernel
theorem dX1_readCondition_130 : decode cX1_readCondition 130 = .ok (.iconst 0, 1) := by decide +kernel
theorem dX1_readCondition_131 : decode cX1_readCondition 131 = .ok (.ireturn, 1) := by decide +kernel
theorem dX1_readDoneOrDated_0 : decode cX1_readDoneOrDated 0 = .ok (.aload_n 1, 1) := by decide +kernel
theorem dX1_readDoneOrDated_1 : decode cX1_readDoneOrDated 1 = .ok (.invokevirtual 68, 3) := by decide +kernel
theorem dX1_readDoneOrDated_4 : decode cX1_readDoneOrDated 4 = .ok (.bipush 111, 2) := by decide +kernel
theorem dX1_readDoneOrDated_6 : decode cX1_readDoneOrDated 6 = .ok (.if_icmp .ne 7, 3) := by decide +kernel
theorem dX1_readDoneOrDated_9 : decode cX1_readDoneOrDated 9 = .ok (.iconst 1, 1) := by decide +kernel
theorem dX1_readDoneOrDated_10 : decode cX1_readDoneOrDated 10 = .ok (.goto 4, 3) := by decide +kernel
theorem dX1_readDoneOrDated_13 : decode cX1_readDoneOrDated 13 = .ok (.iconst 0, 1) := by decide +kernel
theorem dX1_readDoneOrDated_14 : decode cX1_readDoneOrDated 14 = .ok (.istore_n 3, 1) := by decide +kernel
theorem dX1_readDoneOrDated_15 : decode cX1_readDoneOrDated 15 = .ok (.aload_n 0, 1) := by decide +kernel
theorem dX1_readDoneOrDated_16 : decode cX1_readDoneOrDated 16 = .ok (.getfield 9, 3) := by decide +kernel
theorem dX1_readDoneOrDated_19 : decode cX1_readDoneOrDated 19 = .ok (.iload_n 2, 1) := by decide +kernel
theorem dX1_readDoneOrDated_20 : decode cX1_readDoneOrDated 20 = .ok (.iload_n 3, 1) := by decide +kernel
theorem dX1_readDoneOrDated_21 : decode cX1_readDoneOrDated 21 = .ok (.ifCond .eq 7, 3) := by decide +kernel
theorem dX1_readDoneOrDated_24 : decode cX1_readDoneOrDated 24 = .ok (.iconst 0, 1) := by decide +kernel
theorem dX1_readDoneOrDated_25 : decode cX1_readDoneOrDated 25 = .ok (.goto 4, 3) := by decide +kernel
theorem dX1_readDoneOrDated_28 : decode cX1_readDoneOrDated 28 = .ok (.iconst 1, 1) := by decide +kernel
theorem dX1_readDoneOrDated_29 : decode cX1_readDoneOrDated 29 = .ok (.iastore, 1) := by decide +kernel
theorem dX1_readDoneOrDated_30 : decode cX1_readDoneOrDated 30 = .ok (.aload_n 1, 1) := by decide +kernel
theorem dX1_readDoneOrDated_31 : decode cX1_readDoneOrDated 31 = .ok (.iload_n 3, 1) := by decide +kernel
theorem dX1_readDoneOrDated_32 : decode cX1_readDoneOrDated 32 = .ok (.ifCond .eq 8, 3) := by decide +kernel
theorem dX1_readDoneOrDated_35 : decode cX1_readDoneOrDated 35 = .ok (.ldc 72, 2) := by decide +kernel
theorem dX1_readDoneOrDated_37 : decode cX1_readDoneOrDated 37 = .ok (.goto 5, 3) := by decide +kernel
theorem dX1_readDoneOrDated_40 : decode cX1_readDoneOrDated 40 = .ok (.ldc 74, 2) := by decide +kernel
theorem dX1_readDoneOrDated_42 : decode cX1_readDoneOrDated 42 = .ok (.invokevirtual 55, 3) := by decide +kernel
theorem dX1_readDoneOrDated_45 : decode cX1_readDoneOrDated 45 = .ok (.ireturn, 1) := by decide +kernel
theorem dX1_readBound_0 : decode cX1_readBound 0 = .ok (.aload_n 0, 1) := by decide +kernel
theorem dX1_readBound_1 : decode cX1_readBound 1 = .ok (.getfield 9, 3) := by decide +kernel
theorem dX1_readBound_4 : decode cX1_readBound 4 = .ok (.iload_n 2, 1) := by decide +kernel
theorem dX1_readBound_5 : decode cX1_readBound 5 = .ok (.iload_n 3, 1) := by decide +kernel
theorem dX1_readBound_6 : decode cX1_readBound 6 = .ok (.iastore, 1) := by decide +kernel
theorem dX1_readBound_7 : decode cX1_readBound 7 = .ok (.aload_n 0, 1) := by decide +kernel
theorem dX1_readBound_8 : decode cX1_readBound 8 = .ok (.getfield 19, 3) := by decide +kernel
theorem dX1_readBound_11 : decode cX1_readBound 11 = .ok (.iload_n 2, 1) := by decide +kernel
theorem dX1_readBound_12 : decode cX1_readBound 12 = .ok (.aload_n 1, 1) := by decide +kernel
theorem dX1_readBound_13 : decode cX1_readBound 13 = .ok (.invokevirtual 76, 3) := by decide +kernel
theorem dX1_readBound_16 : decode cX1_readBound 16 = .ok (.iastore, 1) := by decide +kernel
theorem dX1_readBound_17 : decode cX1_readBound 17 = .ok (.aload_n 0, 1) := by decide +kernel
theorem dX1_readBound_18 : decode cX1_readBound 18 = .ok (.getfield 19, 3) := by decide +kernel
theorem dX1_readBound_21 : decode cX1_readBound 21 = .ok (.iload_n 2, 1) := by decide +kernel
theorem dX1_readBound_22 : decode cX1_readBound 22 = .ok (.iaload, 1) := by decide +kernel
theorem dX1_readBound_23 : decode cX1_readBound 23 = .ok (.ldc 80, 2) := by decide +kernel
theorem dX1_readBound_25 : decode cX1_readBound 25 = .ok (.if_icmp .eq 7, 3) := by decide +kernel
theorem dX1_readBound_28 : decode cX1_readBound 28 = .ok (.iconst 1, 1) := by decide +kernel
theorem dX1_readBound_29 : decode cX1_readBound 29 = .ok (.goto 4, 3) := by decide +kernel
theorem dX1_readBound_32 : decode cX1_readBound 32 = .ok (.iconst 0, 1) := by decide +kernel
theorem dX1_readBound_33 : decode cX1_readBound 33 = .ok (.ireturn, 1) := by decide +kernel
theorem dX1_readLetters_0 : decode cX1_readLetters 0 = .ok (.aload_n 0, 1) := by decide +kernel
theorem dX1_readLetters_1 : decode cX1_readLetters 1 = .ok (.getfield 9, 3) := by decide +kernel
theorem dX1_readLetters_4 : decode cX1_readLetters 4 = .ok (.iload_n 2, 1) := by decide +kernel
theorem dX1_readLetters_5 : decode cX1_readLetters 5 = .ok (.bipush 6, 2) := by decide +kernel
theorem dX1_readLetters_7 : decode cX1_readLetters 7 = .ok (.iastore, 1) := by decide +kernel
theorem dX1_readLetters_8 : decode cX1_readLetters 8 = .ok (.aload_n 0, 1) := by decide +kernel
theorem dX1_readLetters_9 : decode cX1_readLetters 9 = .ok (.getfield 26, 3) := by decide +kernel
theorem dX1_readLetters_12 : decode cX1_readLetters 12 = .ok (.iload_n 2, 1) := by decide +kernel
theorem dX1_readLetters_13 : decode cX1_readLetters 13 = .ok (.aload_n 1, 1) := by decide +kernel
theorem dX1_readLetters_14 : decode cX1_readLetters 14 = .ok (.aload_n 0, 1) := by decide +kernel
theorem dX1_readLetters_15 : decode cX1_readLetters 15 = .ok (.getfield 22, 3) := by decide +kernel
theorem dX1_readLetters_18 : decode cX1_readLetters 18 = .ok (.iload_n 2, 1) := by decide +kernel
theorem dX1_readLetters_19 : decode cX1_readLetters 19 = .ok (.bipush 10, 2) := by decide +kernel
theorem dX1_readLetters_21 : decode cX1_readLetters 21 = .ok (.imul, 1) := by decide +kernel
theorem dX1_readLetters_22 : decode cX1_readLetters 22 = .ok (.invokevirtual 81, 3) := by decide +kernel
theorem dX1_readLetters_25 : decode cX1_readLetters 25 = .ok (.iastore, 1) := by decide +kernel
theorem dX1_readLetters_26 : decode cX1_readLetters 26 = .ok (.aload_n 0, 1) := by decide +kernel
theorem dX1_readLetters_27 : decode cX1_readLetters 27 = .ok (.getfield 26, 3) := by decide +kernel
theorem dX1_readLetters_30 : decode cX1_readLetters 30 = .ok (.iload_n 2, 1) := by decide +kernel
theorem dX1_readLetters_31 : decode cX1_readLetters 31 = .ok (.iaload, 1) := by decide +kernel
theorem dX1_readLetters_32 : decode cX1_readLetters 32 = .ok (.ifCond .le 7, 3) := by decide +kernel
theorem dX1_readLetters_35 : decode cX1_readLetters 35 = .ok (.iconst 1, 1) := by decide +kernel
theorem dX1_readLetters_36 : decode cX1_readLetters 36 = .ok (.goto 4, 3) := by decide +kernel
theorem dX1_readLetters_39 : decode cX1_readLetters 39 = .ok (.iconst 0, 1) := by decide +kernel
theorem dX1_readLetters_40 : decode cX1_readLetters 40 = .ok (.ireturn, 1) := by decide +kernel
theorem dX1_fittingItems_0 : decode cX1_fittingItems 0 = .ok (.aload_n 1, 1) := by decide +kernel
theorem dX1_fittingItems_1 : decode cX1_fittingItems 1 = .ok (.invokevirtual 85, 3) := by decide +kernel
theorem dX1_fittingItems_4 : decode cX1_fittingItems 4 = .ok (.ldc2_w 91, 3) := by decide +kernel
theorem dX1_fittingItems_7 : decode cX1_fittingItems 7 = .ok (.land, 1) := by decide +kernel
theorem dX1_fittingItems_8 : decode cX1_fittingItems 8 = .ok (.lstore_n 3, 1) := by decide +kernel
theorem dX1_fittingItems_9 : decode cX1_fittingItems 9 = .ok (.iconst 0, 1) := by decide +kernel
theorem dX1_fittingItems_10 : decode cX1_fittingItems 10 = .ok (.istore 5, 2) := by decide +kernel
theorem dX1_fittingItems_12 : decode cX1_fittingItems 12 = .ok (.iload 5, 2) := by decide +kernel
theorem dX1_fittingItems_14 : decode cX1_fittingItems 14 = .ok (.aload_n 0, 1) := by decide +kernel
theorem dX1_fittingItems_15 : decode cX1_fittingItems 15 = .ok (.getfield 29, 3) := by decide +kernel
theorem dX1_fittingItems_18 : decode cX1_fittingItems 18 = .ok (.if_icmp .ge 43, 3) := by decide +kernel
theorem dX1_fittingItems_21 : decode cX1_fittingItems 21 = .ok (.aload_n 0, 1) := by decide +kernel
theorem dX1_fittingItems_22 : decode cX1_fittingItems 22 = .ok (.aload_n 1, 1) := by decide +kernel
theorem dX1_fittingItems_23 : decode cX1_fittingItems 23 = .ok (.aload_n 2, 1) := by decide +kernel
theorem dX1_fittingItems_24 : decode cX1_fittingItems 24 = .ok (.iload 5, 2) := by decide +kernel
theorem dX1_fittingItems_26 : decode cX1_fittingItems 26 = .ok (.invokevirtual 93, 3) := by decide +kernel
theorem dX1_fittingItems_29 : decode cX1_fittingItems 29 = .ok (.lstore 6, 2) := by decide +kernel
theorem dX1_fittingItems_31 : decode cX1_fittingItems 31 = .ok (.lload_n 3, 1) := by decide +kernel
theorem dX1_fittingItems_32 : decode cX1_fittingItems 32 = .ok (.aload_n 0, 1) := by decide +kernel
theorem dX1_fittingItems_33 : decode cX1_fittingItems 33 = .ok (.getfield 15, 3) := by decide +kernel
theorem dX1_fittingItems_36 : decode cX1_fittingItems 36 = .ok (.iload 5, 2) := by decide +kernel
theorem dX1_fittingItems_38 : decode cX1_fittingItems 38 = .ok (.baload, 1) := by decide +kernel
theorem dX1_fittingItems_39 : decode cX1_fittingItems 39 = .ok (.ifCond .eq 12, 3) := by decide +kernel
theorem dX1_fittingItems_42 : decode cX1_fittingItems 42 = .ok (.lload 6, 2) := by decide +kernel
theorem dX1_fittingItems_44 : decode cX1_fittingItems 44 = .ok (.ldc2_w 97, 3) := by decide +kernel
theorem dX1_fittingItems_47 : decode cX1_fittingItems 47 = .ok (.lxor, 1) := by decide +kernel
theorem dX1_fittingItems_48 : decode cX1_fittingItems 48 = .ok (.goto 5, 3) := by decide +kernel
theorem dX1_fittingItems_51 : decode cX1_fittingItems 51 = .ok (.lload 6, 2) := by decide +kernel
theorem dX1_fittingItems_53 : decode cX1_fittingItems 53 = .ok (.land, 1) := by decide +kernel
theorem dX1_fittingItems_54 : decode cX1_fittingItems 54 = .ok (.lstore_n 3, 1) := by decide +kernel
theorem dX1_fittingItems_55 : decode cX1_fittingItems 55 = .ok (.iinc 5 1, 3) := by decide +kernel
theorem dX1_fittingItems_58 : decode cX1_fittingItems 58 = .ok (.goto (-46), 3) := by decide +kernel
theorem dX1_fittingItems_61 : decode cX1_fittingItems 61 = .ok (.lload_n 3, 1) := by decide +kernel
theorem dX1_fittingItems_62 : decode cX1_fittingItems 62 = .ok (.lreturn, 1) := by decide +kernel
theorem dX1_fulfillingItems_0 : decode cX1_fulfillingItems 0 = .ok (.aload_n 0, 1) := by decide +kernel
theorem dX1_fulfillingItems_1 : decode cX1_fulfillingItems 1 = .ok (.getfield 9, 3) := by decide +kernel
theorem dX1_fulfillingItems_4 : decode cX1_fulfillingItems 4 = .ok (.iload_n 3, 1) := by decide +kernel
theorem dX1_fulfillingItems_5 : decode cX1_fulfillingItems 5 = .ok (.iaload, 1) := by decide +kernel
theorem dX1_fulfillingItems_6 : decode cX1_fulfillingItems 6 = .ok (.tableswitch 69 0 6 #[42, 47, 52, 57, 69, 69, 62], 42) := by decide +kernel
theorem dX1_fulfillingItems_48 : decode cX1_fulfillingItems 48 = .ok (.aload_n 1, 1) := by decide +kernel
theorem dX1_fulfillingItems_49 : decode cX1_fulfillingItems 49 = .ok (.invokevirtual 99, 3) := by decide +kernel
theorem dX1_fulfillingItems_52 : decode cX1_fulfillingItems 52 = .ok (.lreturn, 1) := by decide +kernel
theorem dX1_fulfillingItems_53 : decode cX1_fulfillingItems 53 = .ok (.aload_n 1, 1) := by decide +kernel
theorem dX1_fulfillingItems_54 : decode cX1_fulfillingItems 54 = .ok (.invokevirtual 102, 3) := by decide +kernel
theorem dX1_fulfillingItems_57 : decode cX1_fulfillingItems 57 = .ok (.lreturn, 1) := by decide +kernel
theorem dX1_fulfillingItems_58 : decode cX1_fulfillingItems 58 = .ok (.aload_n 1, 1) := by decide +kernel
theorem dX1_fulfillingItems_59 : decode cX1_fulfillingItems 59 = .ok (.invokevirtual 105, 3) := by decide +kernel
theorem dX1_fulfillingItems_62 : decode cX1_fulfillingItems 62 = .ok (.lreturn, 1) := by decide +kernel
theorem dX1_fulfillingItems_63 : decode cX1_fulfillingItems 63 = .ok (.aload_n 2, 1) := by decide +kernel
theorem dX1_fulfillingItems_64 : decode cX1_fulfillingItems 64 = .ok (.invokevirtual 108, 3) := by decide +kernel
theorem dX1_fulfillingItems_67 : decode cX1_fulfillingItems 67 = .ok (.lreturn, 1) := by decide +kernel
theorem dX1_fulfillingItems_68 : decode cX1_fulfillingItems 68 = .ok (.aload_n 0, 1) := by decide +kernel
theorem dX1_fulfillingItems_69 : decode cX1_fulfillingItems 69 = .ok (.aload_n 1, 1) := by decide +kernel
theorem dX1_fulfillingItems_70 : decode cX1_fulfillingItems 70 = .ok (.iload_n 3, 1) := by decide +kernel
theorem dX1_fulfillingItems_71 : decode cX1_fulfillingItems 71 = .ok (.invokevirtual 113, 3) := by decide +kernel
theorem dX1_fulfillingItems_74 : decode cX1_fulfillingItems 74 = .ok (.lreturn, 1) := by decide +kernel
theorem dX1_fulfillingItems_75 : decode cX1_fulfillingItems 75 = .ok (.aload_n 0, 1) := by decide +kernel
theorem dX1_fulfillingItems_76 : decode cX1_fulfillingItems 76 = .ok (.aload_n 1, 1) := by decide +kernel
theorem dX1_fulfillingItems_77 : decode cX1_fulfillingItems 77 = .ok (.aload_n 2, 1) := by decide +kernel
theorem dX1_fulfillingItems_78 : decode cX1_fulfillingItems 78 = .ok (.iload_n 3, 1) := by decide +kernel
theorem dX1_fulfillingItems_79 : decode cX1_fulfillingItems 79 = .ok (.invokevirtual 117, 3) := by decide +kernel
theorem dX1_fulfillingItems_82 : decode cX1_fulfillingItems 82 = .ok (.lreturn, 1) := by decide +kernel
theorem dX1_itemsWithLetters_0 : decode cX1_itemsWithLetters 0 = .ok (.lconst 0, 1) := by decide +kernel
theorem dX1_itemsWithLetters_1 : decode cX1_itemsWithLetters 1 = .ok (.lstore_n 3, 1) := by decide +kernel
theorem dX1_itemsWithLetters_2 : decode cX1_itemsWithLetters 2 = .ok (.iconst 1, 1) := by decide +kernel
theorem dX1_itemsWithLetters_3 : decode cX1_itemsWithLetters 3 = .ok (.istore 5, 2) := by decide +kernel
theorem dX1_itemsWithLetters_5 : decode cX1_itemsWithLetters 5 = .ok (.iload 5, 2) := by decide +kernel
theorem dX1_itemsWithLetters_7 : decode cX1_itemsWithLetters 7 = .ok (.bipush 61, 2) := by decide +kernel
theorem dX1_itemsWithLetters_9 : decode cX1_itemsWithLetters 9 = .ok (.if_icmp .ge 53, 3) := by decide +kernel
theorem dX1_itemsWithLetters_12 : decode cX1_itemsWithLetters 12 = .ok (.lload_n 3, 1) := by decide +kernel
theorem dX1_itemsWithLetters_13 : decode cX1_itemsWithLetters 13 = .ok (.iload 5, 2) := by decide +kernel
theorem dX1_itemsWithLetters_15 : decode cX1_itemsWithLetters 15 = .ok (.aload_n 1, 1) := by decide +kernel
theorem dX1_itemsWithLetters_16 : decode cX1_itemsWithLetters 16 = .ok (.iload 5, 2) := by decide +kernel
theorem dX1_itemsWithLetters_18 : decode cX1_itemsWithLetters 18 = .ok (.invokevirtual 120, 3) := by decide +kernel
theorem dX1_itemsWithLetters_21 : decode cX1_itemsWithLetters 21 = .ok (.ifCond .eq 30, 3) := by decide +kernel
theorem dX1_itemsWithLetters_24 : decode cX1_itemsWithLetters 24 = .ok (.aload_n 1, 1) := by decide +kernel
theorem dX1_itemsWithLetters_25 : decode cX1_itemsWithLetters 25 = .ok (.iload 5, 2) := by decide +kernel
theorem dX1_itemsWithLetters_27 : decode cX1_itemsWithLetters 27 = .ok (.aload_n 0, 1) := by decide +kernel
theorem dX1_itemsWithLetters_28 : decode cX1_itemsWithLetters 28 = .ok (.getfield 22, 3) := by decide +kernel
theorem dX1_itemsWithLetters_31 : decode cX1_itemsWithLetters 31 = .ok (.iload_n 2, 1) := by decide +kernel
theorem dX1_itemsWithLetters_32 : decode cX1_itemsWithLetters 32 = .ok (.bipush 10, 2) := by decide +kernel
theorem dX1_itemsWithLetters_34 : decode cX1_itemsWithLetters 34 = .ok (.imul, 1) := by decide +kernel
theorem dX1_itemsWithLetters_35 : decode cX1_itemsWithLetters 35 = .ok (.aload_n 0, 1) := by decide +kernel
theorem dX1_itemsWithLetters_36 : decode cX1_itemsWithLetters 36 = .ok (.getfield 26, 3) := by decide +kernel
theorem dX1_itemsWithLetters_39 : decode cX1_itemsWithLetters 39 = .ok (.iload_n 2, 1) := by decide +kernel
theorem dX1_itemsWithLetters_40 : decode cX1_itemsWithLetters 40 = .ok (.iaload, 1) := by decide +kernel
theorem dX1_itemsWithLetters_41 : decode cX1_itemsWithLetters 41 = .ok (.invokevirtual 124, 3) := by decide +kernel
theorem dX1_itemsWithLetters_44 : decode cX1_itemsWithLetters 44 = .ok (.ifCond .eq 7, 3) := by decide +kernel
theorem dX1_itemsWithLetters_47 : decode cX1_itemsWithLetters 47 = .ok (.iconst 1, 1) := by decide +kernel
theorem dX1_itemsWithLetters_48 : decode cX1_itemsWithLetters 48 = .ok (.goto 4, 3) := by decide +kernel
theorem dX1_itemsWithLetters_51 : decode cX1_itemsWithLetters 51 = .ok (.iconst 0, 1) := by decide +kernel
theorem dX1_itemsWithLetters_52 : decode cX1_itemsWithLetters 52 = .ok (.invokestatic 128, 3) := by decide +kernel
theorem dX1_itemsWithLetters_55 : decode cX1_itemsWithLetters 55 = .ok (.lstore_n 3, 1) := by decide +kernel
theorem dX1_itemsWithLetters_56 : decode cX1_itemsWithLetters 56 = .ok (.iinc 5 1, 3) := by decide +kernel
theorem dX1_itemsWithLetters_59 : decode cX1_itemsWithLetters 59 = .ok (.goto (-54), 3) := by decide +kernel
theorem dX1_itemsWithLetters_62 : decode cX1_itemsWithLetters 62 = .ok (.lload_n 3, 1) := by decide +kernel
theorem dX1_itemsWithLetters_63 : decode cX1_itemsWithLetters 63 = .ok (.lreturn, 1) := by decide +kernel
theorem dX1_itemsWithinBound_0 : decode cX1_itemsWithinBound 0 = .ok (.lconst 0, 1) := by decide +kernel
theorem dX1_itemsWithinBound_1 : decode cX1_itemsWithinBound 1 = .ok (.lstore 4, 2) := by decide +kernel
theorem dX1_itemsWithinBound_3 : decode cX1_itemsWithinBound 3 = .ok (.iconst 1, 1) := by decide +kernel
theorem dX1_itemsWithinBound_4 : decode cX1_itemsWithinBound 4 = .ok (.istore 6, 2) := by decide +kernel
theorem dX1_itemsWithinBound_6 : decode cX1_itemsWithinBound 6 = .ok (.iload 6, 2) := by decide +kernel
theorem dX1_itemsWithinBound_8 : decode cX1_itemsWithinBound 8 = .ok (.bipush 61, 2) := by decide +kernel
theorem dX1_itemsWithinBound_10 : decode cX1_itemsWithinBound 10 = .ok (.if_icmp .ge 88, 3) := by decide +kernel
theorem dX1_itemsWithinBound_13 : decode cX1_itemsWithinBound 13 = .ok (.aload_n 1, 1) := by decide +kernel
theorem dX1_itemsWithinBound_14 : decode cX1_itemsWithinBound 14 = .ok (.iload 6, 2) := by decide +kernel
theorem dX1_itemsWithinBound_16 : decode cX1_itemsWithinBound 16 = .ok (.invokevirtual 120, 3) := by decide +kernel
theorem dX1_itemsWithinBound_19 : decode cX1_itemsWithinBound 19 = .ok (.ifCond .eq 16, 3) := by decide +kernel
theorem dX1_itemsWithinBound_22 : decode cX1_itemsWithinBound 22 = .ok (.aload_n 1, 1) := by decide +kernel
theorem dX1_itemsWithinBound_23 : decode cX1_itemsWithinBound 23 = .ok (.aload_n 2, 1) := by decide +kernel
theorem dX1_itemsWithinBound_24 : decode cX1_itemsWithinBound 24 = .ok (.iload 6, 2) := by decide +kernel
theorem dX1_itemsWithinBound_26 : decode cX1_itemsWithinBound 26 = .ok (.invokevirtual 132, 3) := by decide +kernel
theorem dX1_itemsWithinBound_29 : decode cX1_itemsWithinBound 29 = .ok (.invokevirtual 136, 3) := by decide +kernel
theorem dX1_itemsWithinBound_32 : decode cX1_itemsWithinBound 32 = .ok (.goto 4, 3) := by decide +kernel
theorem dX1_itemsWithinBound_35 : decode cX1_itemsWithinBound 35 = .ok (.iconst 0, 1) := by decide +kernel
theorem dX1_itemsWithinBound_36 : decode cX1_itemsWithinBound 36 = .ok (.istore 7, 2) := by decide +kernel
theorem dX1_itemsWithinBound_38 : decode cX1_itemsWithinBound 38 = .ok (.lload 4, 2) := by decide +kernel
theorem dX1_itemsWithinBound_40 : decode cX1_itemsWithinBound 40 = .ok (.iload 6, 2) := by decide +kernel
theorem dX1_itemsWithinBound_42 : decode cX1_itemsWithinBound 42 = .ok (.aload_n 0, 1) := by decide +kernel
theorem dX1_itemsWithinBound_43 : decode cX1_itemsWithinBound 43 = .ok (.getfield 9, 3) := by decide +kernel
theorem dX1_itemsWithinBound_46 : decode cX1_itemsWithinBound 46 = .ok (.iload_n 3, 1) := by decide +kernel
theorem dX1_itemsWithinBound_47 : decode cX1_itemsWithinBound 47 = .ok (.iaload, 1) := by decide +kernel
theorem dX1_itemsWithinBound_48 : decode cX1_itemsWithinBound 48 = .ok (.iconst 4, 1) := by decide +kernel
theorem dX1_itemsWithinBound_49 : decode cX1_itemsWithinBound 49 = .ok (.if_icmp .ne 22, 3) := by decide +kernel
theorem dX1_itemsWithinBound_52 : decode cX1_itemsWithinBound 52 = .ok (.iload 7, 2) := by decide +kernel
theorem dX1_itemsWithinBound_54 : decode cX1_itemsWithinBound 54 = .ok (.aload_n 0, 1) := by decide +kernel
theorem dX1_itemsWithinBound_55 : decode cX1_itemsWithinBound 55 = .ok (.getfield 19, 3) := by decide +kernel
theorem dX1_itemsWithinBound_58 : decode cX1_itemsWithinBound 58 = .ok (.iload_n 3, 1) := by decide +kernel
theorem dX1_itemsWithinBound_59 : decode cX1_itemsWithinBound 59 = .ok (.iaload, 1) := by decide +kernel
theorem dX1_itemsWithinBound_60 : decode cX1_itemsWithinBound 60 = .ok (.if_icmp .le 7, 3) := by decide +kernel
theorem dX1_itemsWithinBound_63 : decode cX1_itemsWithinBound 63 = .ok (.iconst 1, 1) := by decide +kernel
theorem dX1_itemsWithinBound_64 : decode cX1_itemsWithinBound 64 = .ok (.goto 23, 3) := by decide +kernel
theorem dX1_itemsWithinBound_67 : decode cX1_itemsWithinBound 67 = .ok (.iconst 0, 1) := by decide +kernel
theorem dX1_itemsWithinBound_68 : decode cX1_itemsWithinBound 68 = .ok (.goto 19, 3) := by decide +kernel
theorem dX1_itemsWithinBound_71 : decode cX1_itemsWithinBound 71 = .ok (.iload 7, 2) := by decide +kernel
theorem dX1_itemsWithinBound_73 : decode cX1_itemsWithinBound 73 = .ok (.aload_n 0, 1) := by decide +kernel
theorem dX1_itemsWithinBound_74 : decode cX1_itemsWithinBound 74 = .ok (.getfield 19, 3) := by decide +kernel
theorem dX1_itemsWithinBound_77 : decode cX1_itemsWithinBound 77 = .ok (.iload_n 3, 1) := by decide +kernel
theorem dX1_itemsWithinBound_78 : decode cX1_itemsWithinBound 78 = .ok (.iaload, 1) := by decide +kernel
theorem dX1_itemsWithinBound_79 : decode cX1_itemsWithinBound 79 = .ok (.if_icmp .ge 7, 3) := by decide +kernel
theorem dX1_itemsWithinBound_82 : decode cX1_itemsWithinBound 82 = .ok (.iconst 1, 1) := by decide +kernel
theorem dX1_itemsWithinBound_83 : decode cX1_itemsWithinBound 83 = .ok (.goto 4, 3) := by decide +kernel
theorem dX1_itemsWithinBound_86 : decode cX1_itemsWithinBound 86 = .ok (.iconst 0, 1) := by decide +kernel
theorem dX1_itemsWithinBound_87 : decode cX1_itemsWithinBound 87 = .ok (.invokestatic 128, 3) := by decide +kernel
theorem dX1_itemsWithinBound_90 : decode cX1_itemsWithinBound 90 = .ok (.lstore 4, 2) := by decide +kernel
theorem dX1_itemsWithinBound_92 : decode cX1_itemsWithinBound 92 = .ok (.iinc 6 1, 3) := by decide +kernel
theorem dX1_itemsWithinBound_95 : decode cX1_itemsWithinBound 95 = .ok (.goto (-89), 3) := by decide +kernel
theorem dX1_itemsWithinBound_98 : decode cX1_itemsWithinBound 98 = .ok (.lload 4, 2) := by decide +kernel
theorem dX1_itemsWithinBound_100 : decode cX1_itemsWithinBound 100 = .ok (.lreturn, 1) := by decide +kernel
theorem dX2_init_0 : decode cX2_init 0 = .ok (.aload_n 0, 1) := by decide +kernel
theorem dX2_init_1 : decode cX2_init 1 = .ok (.invokespecial 3, 3) := by decide +kernel
theorem dX2_init_4 : decode cX2_init 4 = .ok (.aload_n 0, 1) := by decide +kernel
theorem dX2_init_5 : decode cX2_init 5 = .ok (.bipush 40, 2) := by decide +kernel
theorem dX2_init_7 : decode cX2_init 7 = .ok (.newarray .int, 2) := by decide +kernel
theorem dX2_init_9 : decode cX2_init 9 = .ok (.putfield 9, 3) := by decide +kernel
theorem dX2_init_12 : decode cX2_init 12 = .ok (.aload_n 0, 1) := by decide +kernel
theorem dX2_init_13 : decode cX2_init 13 = .ok (.bipush 40, 2) := by decide +kernel
theorem dX2_init_15 : decode cX2_init 15 = .ok (.newarray .int, 2) := by decide +kernel
theorem dX2_init_17 : decode cX2_init 17 = .ok (.putfield 15, 3) := by decide +kernel
theorem dX2_init_20 : decode cX2_init 20 = .ok (.aload_n 0, 1) := by decide +kernel
theorem dX2_init_21 : decode cX2_init 21 = .ok (.sipush 400, 3) := by decide +kernel
theorem dX2_init_24 : decode cX2_init 24 = .ok (.newarray .char, 2) := by decide +kernel
theorem dX2_init_26 : decode cX2_init 26 = .ok (.putfield 18, 3) := by decide +kernel
theorem dX2_init_29 : decode cX2_init 29 = .ok (.aload_n 0, 1) := by decide +kernel
theorem dX2_init_30 : decode cX2_init 30 = .ok (.bipush 40, 2) := by decide +kernel
theorem dX2_init_32 : decode cX2_init 32 = .ok (.newarray .int, 2) := by decide +kernel
theorem dX2_init_34 : decode cX2_init 34 = .ok (.putfield 22, 3) := by decide +kernel
theorem dX2_init_37 : decode cX2_init 37 = .ok (.aload_n 0, 1) := by decide +kernel
theorem dX2_init_38 : decode cX2_init 38 = .ok (.bipush 40, 2) := by decide +kernel
theorem dX2_init_40 : decode cX2_init 40 = .ok (.newarray .int, 2) := by decide +kernel
theorem dX2_init_42 : decode cX2_init 42 = .ok (.putfield 25, 3) := by decide +kernel
theorem dX2_init_45 : decode cX2_init 45 = .ok (.aload_n 0, 1) := by decide +kernel
theorem dX2_init_46 : decode cX2_init 46 = .ok (.bipush 40, 2) := by decide +kernel
theorem dX2_init_48 : decode cX2_init 48 = .ok (.newarray .int, 2) := by decide +kernel
theorem dX2_init_50 : decode cX2_init 50 = .ok (.putfield 28, 3) := by decide +kernel
theorem dX2_init_53 : decode cX2_init 53 = .ok (.aload_n 0, 1) := by decide +kernel
theorem dX2_init_54 : decode cX2_init 54 = .ok (.bipush 40, 2) := by decide +kernel
theorem dX2_init_56 : decode cX2_init 56 = .ok (.newarray .boolean, 2) := by decide +kernel
theorem dX2_init_58 : decode cX2_init 58 = .ok (.putfield 31, 3) := by decide +kernel
theorem dX2_init_61 : decode cX2_init 61 = .ok (.aload_n 0, 1) := by decide +kernel
theorem dX2_init_62 : decode cX2_init 62 = .ok (.bipush 40, 2) := by decide +kernel
theorem dX2_init_64 : decode cX2_init 64 = .ok (.newarray .int, 2) := by decide +kernel
theorem dX2_init_66 : decode cX2_init 66 = .ok (.putfield 35, 3) := by decide +kernel
theorem dX2_init_69 : decode cX2_init 69 = .ok (.aload_n 0, 1) := by decide +kernel
theorem dX2_init_70 : decode cX2_init 70 = .ok (.iconst 0, 1) := by decide +kernel
theorem dX2_init_71 : decode cX2_init 71 = .ok (.putfield 38, 3) := by decide +kernel
theorem dX2_init_74 : decode cX2_init 74 = .ok (.return_, 1) := by decide +kernel
theorem dX2_size_0 : decode cX2_size 0 = .ok (.aload_n 0, 1) := by decide +kernel
theorem dX2_size_1 : decode cX2_size 1 = .ok (.getfield 38, 3) := by decide +kernel
theorem dX2_size_4 : decode cX2_size 4 = .ok (.ireturn, 1) := by decide +kernel
theorem dX2_isClone_0 : decode cX2_isClone 0 = .ok (.aload_n 0, 1) := by decide +kernel
theorem dX2_isClone_1 : decode cX2_isClone 1 = .ok (.getfield 15, 3) := by decide +kernel
theorem dX2_isClone_4 : decode cX2_isClone 4 = .ok (.iload_n 1, 1) := by decide +kernel
theorem dX2_isClone_5 : decode cX2_isClone 5 = .ok (.iaload, 1) := by decide +kernel
theorem dX2_isClone_6 : decode cX2_isClone 6 = .ok (.ldc 42, 2) := by decide +kernel
theorem dX2_isClone_8 : decode cX2_isClone 8 = .ok (.if_icmp .eq 7, 3) := by decide +kernel
theorem dX2_isClone_11 : decode cX2_isClone 11 = .ok (.iconst 1, 1) := by decide +kernel
theorem dX2_isClone_12 : decode cX2_isClone 12 = .ok (.goto 4, 3) := by decide +kernel
theorem dX2_isClone_15 : decode cX2_isClone 15 = .ok (.iconst 0, 1) := by decide +kernel
theorem dX2_isClone_16 : decode cX2_isClone 16 = .ok (.ireturn, 1) := by decide +kernel
theorem dX2_read_0 : decode cX2_read 0 = .ok (.aload_n 1, 1) := by decide +kernel
theorem dX2_read_1 : decode cX2_read 1 = .ok (.invokevirtual 43, 3) := by decide +kernel
theorem dX2_read_4 : decode cX2_read 4 = .ok (.aload_n 0, 1) := by decide +kernel
theorem dX2_read_5 : decode cX2_read 5 = .ok (.iconst 0, 1) := by decide +kernel
theorem dX2_read_6 : decode cX2_read 6 = .ok (.putfield 38, 3) := by decide +kernel
theorem dX2_read_9 : decode cX2_read 9 = .ok (.iconst 1, 1) := by decide +kernel
theorem dX2_read_10 : decode cX2_read 10 = .ok (.istore_n 2, 1) := by decide +kernel
theorem dX2_read_11 : decode cX2_read 11 = .ok (.iconst 0, 1) := by decide +kernel
theorem dX2_read_12 : decode cX2_read 12 = .ok (.istore_n 3, 1) := by decide +kernel
theorem dX2_read_13 : decode cX2_read 13 = .ok (.iload_n 2, 1) := by decide +kernel
theorem dX2_read_14 : decode cX2_read 14 = .ok (.ifCond .eq 40, 3) := by decide +kernel
theorem dX2_read_17 : decode cX2_read 17 = .ok (.iload_n 3, 1) := by decide +kernel
theorem dX2_read_18 : decode cX2_read 18 = .ok (.bipush 40, 2) := by decide +kernel
theorem dX2_read_20 : decode cX2_read 20 = .ok (.if_icmp .ge 34, 3) := by decide +kernel
theorem dX2_read_23 : decode cX2_read 23 = .ok (.aload_n 0, 1) := by decide +kernel
theorem dX2_read_24 : decode cX2_read 24 = .ok (.aload_n 1, 1) := by decide +kernel
theorem dX2_read_25 : decode cX2_read 25 = .ok (.iload_n 3, 1) := by decide +kernel
theorem dX2_read_26 : decode cX2_read 26 = .ok (.invokevirtual 48, 3) := by decide +kernel
theorem dX2_read_29 : decode cX2_read 29 = .ok (.ifCond .ne 5, 3) := by decide +kernel
theorem dX2_read_32 : decode cX2_read 32 = .ok (.iconst 0, 1) := by decide +kernel
theorem dX2_read_33 : decode cX2_read 33 = .ok (.ireturn, 1) := by decide +kernel
theorem dX2_read_34 : decode cX2_read 34 = .ok (.aload_n 0, 1) := by decide +kernel
theorem dX2_read_35 : decode cX2_read 35 = .ok (.iload_n 3, 1) := by decide +kernel
theorem dX2_read_36 : decode cX2_read 36 = .ok (.iconst 1, 1) := by decide +kernel
theorem dX2_read_37 : decode cX2_read 37 = .ok (.iadd, 1) := by decide +kernel
theorem dX2_read_38 : decode cX2_read 38 = .ok (.putfield 38, 3) := by decide +kernel
theorem dX2_read_41 : decode cX2_read 41 = .ok (.aload_n 1, 1) := by decide +kernel
theorem dX2_read_42 : decode cX2_read 42 = .ok (.bipush 59, 2) := by decide +kernel
theorem dX2_read_44 : decode cX2_read 44 = .ok (.invokevirtual 52, 3) := by decide +kernel
theorem dX2_read_47 : decode cX2_read 47 = .ok (.istore_n 2, 1) := by decide +kernel
theorem dX2_read_48 : decode cX2_read 48 = .ok (.iinc 3 1, 3) := by decide +kernel
theorem dX2_read_51 : decode cX2_read 51 = .ok (.goto (-38), 3) := by decide +kernel
theorem dX2_read_54 : decode cX2_read 54 = .ok (.aload_n 1, 1) := by decide +kernel
theorem dX2_read_55 : decode cX2_read 55 = .ok (.invokevirtual 56, 3) := by decide +kernel
theorem dX2_read_58 : decode cX2_read 58 = .ok (.ifCond .eq 11, 3) := by decide +kernel
theorem dX2_read_61 : decode cX2_read 61 = .ok (.iload_n 2, 1) := by decide +kernel
theorem dX2_read_62 : decode cX2_read 62 = .ok (.ifCond .ne 7, 3) := by decide +kernel
theorem dX2_read_65 : decode cX2_read 65 = .ok (.iconst 1, 1) := by decide +kernel
theorem dX2_read_66 : decode cX2_read 66 = .ok (.goto 4, 3) := by decide +kernel
theorem dX2_read_69 : decode cX2_read 69 = .ok (.iconst 0, 1) := by decide +kernel
theorem dX2_read_70 : decode cX2_read 70 = .ok (.ireturn, 1) := by decide +kernel
theorem dX2_readEntry_0 : decode cX2_readEntry 0 = .ok (.aload_n 0, 1) := by decide +kernel
theorem dX2_readEntry_1 : decode cX2_readEntry 1 = .ok (.iload_n 2, 1) := by decide +kernel
theorem dX2_readEntry_2 : decode cX2_readEntry 2 = .ok (.invokevirtual 60, 3) := by decide +kernel
theorem dX2_readEntry_5 : decode cX2_readEntry 5 = .ok (.istore_n 3, 1) := by decide +kernel
theorem dX2_readEntry_6 : decode cX2_readEntry 6 = .ok (.iconst 0, 1) := by decide +kernel
theorem dX2_readEntry_7 : decode cX2_readEntry 7 = .ok (.istore 4, 2) := by decide +kernel
theorem dX2_readEntry_9 : decode cX2_readEntry 9 = .ok (.iload 4, 2) := by decide +kernel
theorem dX2_readEntry_11 : decode cX2_readEntry 11 = .ok (.iload_n 3, 1) := by decide +kernel
theorem dX2_readEntry_12 : decode cX2_readEntry 12 = .ok (.if_icmp .ge 18, 3) := by decide +kernel
theorem dX2_readEntry_15 : decode cX2_readEntry 15 = .ok (.aload_n 1, 1) := by decide +kernel
theorem dX2_readEntry_16 : decode cX2_readEntry 16 = .ok (.bipush 46, 2) := by decide +kernel
theorem dX2_readEntry_18 : decode cX2_readEntry 18 = .ok (.invokevirtual 52, 3) := by decide +kernel
theorem dX2_readEntry_21 : decode cX2_readEntry 21 = .ok (.ifCond .eq 9, 3) := by decide +kernel
theorem dX2_readEntry_24 : decode cX2_readEntry 24 = .ok (.iinc 4 1, 3) := by decide +kernel
theorem dX2_readEntry_27 : decode cX2_readEntry 27 = .ok (.goto (-18), 3) := by decide +kernel
theorem dX2_readEntry_30 : decode cX2_readEntry 30 = .ok (.aload_n 0, 1) := by decide +kernel
theorem dX2_readEntry_31 : decode cX2_readEntry 31 = .ok (.getfield 9, 3) := by decide +kernel
theorem dX2_readEntry_34 : decode cX2_readEntry 34 = .ok (.iload_n 2, 1) := by decide +kernel
theorem dX2_readEntry_35 : decode cX2_readEntry 35 = .ok (.iload 4, 2) := by decide +kernel
theorem dX2_readEntry_37 : decode cX2_readEntry 37 = .ok (.iastore, 1) := by decide +kernel
theorem dX2_readEntry_38 : decode cX2_readEntry 38 = .ok (.iload_n 2, 1) := by decide +kernel
theorem dX2_readEntry_39 : decode cX2_readEntry 39 = .ok (.ifCond .le 19, 3) := by decide +kernel
theorem dX2_readEntry_42 : decode cX2_readEntry 42 = .ok (.aload_n 1, 1) := by decide +kernel
theorem dX2_readEntry_43 : decode cX2_readEntry 43 = .ok (.bipush 42, 2) := by decide +kernel
theorem dX2_readEntry_45 : decode cX2_readEntry 45 = .ok (.invokevirtual 52, 3) := by decide +kernel
theorem dX2_readEntry_48 : decode cX2_readEntry 48 = .ok (.ifCond .eq 10, 3) := by decide +kernel
theorem dX2_readEntry_51 : decode cX2_readEntry 51 = .ok (.aload_n 0, 1) := by decide +kernel
theorem dX2_readEntry_52 : decode cX2_readEntry 52 = .ok (.aload_n 1, 1) := by decide +kernel
theorem dX2_readEntry_53 : decode cX2_readEntry 53 = .ok (.iload_n 2, 1) := by decide +kernel
theorem dX2_readEntry_54 : decode cX2_readEntry 54 = .ok (.invokevirtual 64, 3) := by decide +kernel
theorem dX2_readEntry_57 : decode cX2_readEntry 57 = .ok (.ireturn, 1) := by decide +kernel
theorem dX2_readEntry_58 : decode cX2_readEntry 58 = .ok (.aload_n 0, 1) := by decide +kernel
theorem dX2_readEntry_59 : decode cX2_readEntry 59 = .ok (.getfield 15, 3) := by decide +kernel
theorem dX2_readEntry_62 : decode cX2_readEntry 62 = .ok (.iload_n 2, 1) := by decide +kernel
theorem dX2_readEntry_63 : decode cX2_readEntry 63 = .ok (.ldc 42, 2) := by decide +kernel
theorem dX2_readEntry_65 : decode cX2_readEntry 65 = .ok (.iastore, 1) := by decide +kernel
theorem dX2_readEntry_66 : decode cX2_readEntry 66 = .ok (.aload_n 0, 1) := by decide +kernel
theorem dX2_readEntry_67 : decode cX2_readEntry 67 = .ok (.aload_n 1, 1) := by decide +kernel
theorem dX2_readEntry_68 : decode cX2_readEntry 68 = .ok (.iload_n 2, 1) := by decide +kernel
theorem dX2_readEntry_69 : decode cX2_readEntry 69 = .ok (.invokevirtual 67, 3) := by decide +kernel
theorem dX2_readEntry_72 : decode cX2_readEntry 72 = .ok (.ireturn, 1) := by decide +kernel
theorem dX2_deepestLevel_0 : decode cX2_deepestLevel 0 = .ok (.iload_n 1, 1) := by decide +kernel
theorem dX2_deepestLevel_1 : decode cX2_deepestLevel 1 = .ok (.ifCond .ne 5, 3) := by decide +kernel
theorem dX2_deepestLevel_4 : decode cX2_deepestLevel 4 = .ok (.iconst 0, 1) := by decide +kernel
theorem dX2_deepestLevel_5 : decode cX2_deepestLevel 5 = .ok (.ireturn, 1) := by decide +kernel
theorem dX2_deepestLevel_6 : decode cX2_deepestLevel 6 = .ok (.aload_n 0, 1) := by decide +kernel
theorem dX2_deepestLevel_7 : decode cX2_deepestLevel 7 = .ok (.iload_n 1, 1) := by decide +kernel
theorem dX2_deepestLevel_8 : decode cX2_deepestLevel 8 = .ok (.iconst 1, 1) := by decide +kernel
theorem dX2_deepestLevel_9 : decode cX2_deepestLevel 9 = .ok (.isub, 1) := by decide +kernel
theorem dX2_deepestLevel_10 : decode cX2_deepestLevel 10 = .ok (.invokevirtual 70, 3) := by decide +kernel
theorem dX2_deepestLevel_13 : decode cX2_deepestLevel 13 = .ok (.ifCond .eq 14, 3) := by decide +kernel
theorem dX2_deepestLevel_16 : decode cX2_deepestLevel 16 = .ok (.aload_n 0, 1) := by decide +kernel
theorem dX2_deepestLevel_17 : decode cX2_deepestLevel 17 = .ok (.getfield 9, 3) := by decide +kernel
theorem dX2_deepestLevel_20 : decode cX2_deepestLevel 20 = .ok (.iload_n 1, 1) := by decide +kernel
theorem dX2_deepestLevel_21 : decode cX2_deepestLevel 21 = .ok (.iconst 1, 1) := by decide +kernel
theorem dX2_deepestLevel_22 : decode cX2_deepestLevel 22 = .ok (.isub, 1) := by decide +kernel
theorem dX2_deepestLevel_23 : decode cX2_deepestLevel 23 = .ok (.iaload, 1) := by decide +kernel
theorem dX2_deepestLevel_24 : decode cX2_deepestLevel 24 = .ok (.goto 13, 3) := by decide +kernel
theorem dX2_deepestLevel_27 : decode cX2_deepestLevel 27 = .ok (.aload_n 0, 1) := by decide +kernel
theorem dX2_deepestLevel_28 : decode cX2_deepestLevel 28 = .ok (.getfield 9, 3) := by decide +kernel
theorem dX2_deepestLevel_31 : decode cX2_deepestLevel 31 = .ok (.iload_n 1, 1) := by decide +kernel
theorem dX2_deepestLevel_32 : decode cX2_deepestLevel 32 = .ok (.iconst 1, 1) := by decide +kernel
theorem dX2_deepestLevel_33 : decode cX2_deepestLevel 33 = .ok (.isub, 1) := by decide +kernel
theorem dX2_deepestLevel_34 : decode cX2_deepestLevel 34 = .ok (.iaload, 1) := by decide +kernel
theorem dX2_deepestLevel_35 : decode cX2_deepestLevel 35 = .ok (.iconst 1, 1) := by decide +kernel
theorem dX2_deepestLevel_36 : decode cX2_deepestLevel 36 = .ok (.iadd, 1) := by decide +kernel
theorem dX2_deepestLevel_37 : decode cX2_deepestLevel 37 = .ok (.ireturn, 1) := by decide +kernel
theorem dX2_readSource_0 : decode cX2_readSource 0 = .ok (.aload_n 1, 1) := by decide +kernel
theorem dX2_readSource_1 : decode cX2_readSource 1 = .ok (.invokevirtual 74, 3) := by decide +kernel
theorem dX2_readSource_4 : decode cX2_readSource 4 = .ok (.istore_n 3, 1) := by decide +kernel
theorem dX2_readSource_5 : decode cX2_readSource 5 = .ok (.aload_n 1, 1) := by decide +kernel
theorem dX2_readSource_6 : decode cX2_readSource 6 = .ok (.iconst 3, 1) := by decide +kernel
theorem dX2_readSource_7 : decode cX2_readSource 7 = .ok (.invokevirtual 78, 3) := by decide +kernel
theorem dX2_readSource_10 : decode cX2_readSource 10 = .ok (.istore 4, 2) := by decide +kernel
theorem dX2_readSource_12 : decode cX2_readSource 12 = .ok (.iload 4, 2) := by decide +kernel
theorem dX2_readSource_14 : decode cX2_readSource 14 = .ok (.iload_n 2, 1) := by decide +kernel
theorem dX2_readSource_15 : decode cX2_readSource 15 = .ok (.if_icmp .lt 10, 3) := by decide +kernel
theorem dX2_readSource_18 : decode cX2_readSource 18 = .ok (.aload_n 1, 1) := by decide +kernel
theorem dX2_readSource_19 : decode cX2_readSource 19 = .ok (.iload_n 3, 1) := by decide +kernel
theorem dX2_readSource_20 : decode cX2_readSource 20 = .ok (.invokevirtual 81, 3) := by decide +kernel
theorem dX2_readSource_23 : decode cX2_readSource 23 = .ok (.iconst 0, 1) := by decide +kernel
theorem dX2_readSource_24 : decode cX2_readSource 24 = .ok (.ireturn, 1) := by decide +kernel
theorem dX2_readSource_25 : decode cX2_readSource 25 = .ok (.aload_n 0, 1) := by decide +kernel
theorem dX2_readSource_26 : decode cX2_readSource 26 = .ok (.getfield 15, 3) := by decide +kernel
theorem dX2_readSource_29 : decode cX2_readSource 29 = .ok (.iload_n 2, 1) := by decide +kernel
theorem dX2_readSource_30 : decode cX2_readSource 30 = .ok (.iload 4, 2) := by decide +kernel
theorem dX2_readSource_32 : decode cX2_readSource 32 = .ok (.iastore, 1) := by decide +kernel
theorem dX2_readSource_33 : decode cX2_readSource 33 = .ok (.iload 4, 2) := by decide +kernel
theorem dX2_readSource_35 : decode cX2_readSource 35 = .ok (.ldc 42, 2) := by decide +kernel
theorem dX2_readSource_37 : decode cX2_readSource 37 = .ok (.if_icmp .eq 7, 3) := by decide +kernel
theorem dX2_readSource_40 : decode cX2_readSource 40 = .ok (.iconst 1, 1) := by decide +kernel
theorem dX2_readSource_41 : decode cX2_readSource 41 = .ok (.goto 4, 3) := by decide +kernel
theorem dX2_readSource_44 : decode cX2_readSource 44 = .ok (.iconst 0, 1) := by decide +kernel
theorem dX2_readSource_45 : decode cX2_readSource 45 = .ok (.ireturn, 1) := by decide +kernel
theorem dX2_readNewItem_0 : decode cX2_readNewItem 0 = .ok (.aload_n 0, 1) := by decide +kernel
theorem dX2_readNewItem_1 : decode cX2_readNewItem 1 = .ok (.getfield 22, 3) := by decide +kernel
theorem dX2_readNewItem_4 : decode cX2_readNewItem 4 = .ok (.iload_n 2, 1) := by decide +kernel
theorem dX2_readNewItem_5 : decode cX2_readNewItem 5 = .ok (.aload_n 1, 1) := by decide +kernel
theorem dX2_readNewItem_6 : decode cX2_readNewItem 6 = .ok (.aload_n 0, 1) := by decide +kernel
theorem dX2_readNewItem_7 : decode cX2_readNewItem 7 = .ok (.getfield 18, 3) := by decide +kernel
theorem dX2_readNewItem_10 : decode cX2_readNewItem 10 = .ok (.iload_n 2, 1) := by decide +kernel
theorem dX2_readNewItem_11 : decode cX2_readNewItem 11 = .ok (.bipush 10, 2) := by decide +kernel
theorem dX2_readNewItem_13 : decode cX2_readNewItem 13 = .ok (.imul, 1) := by decide +kernel
theorem dX2_readNewItem_14 : decode cX2_readNewItem 14 = .ok (.invokevirtual 85, 3) := by decide +kernel
theorem dX2_readNewItem_17 : decode cX2_readNewItem 17 = .ok (.iastore, 1) := by decide +kernel
theorem dX2_readNewItem_18 : decode cX2_readNewItem 18 = .ok (.aload_n 0, 1) := by decide +kernel
theorem dX2_readNewItem_19 : decode cX2_readNewItem 19 = .ok (.getfield 22, 3) := by decide +kernel
theorem dX2_readNewItem_22 : decode cX2_readNewItem 22 = .ok (.iload_n 2, 1) := by decide +kernel
theorem dX2_readNewItem_23 : decode cX2_readNewItem 23 = .ok (.iaload, 1) := by decide +kernel
theorem dX2_readNewItem_24 : decode cX2_readNewItem 24 = .ok (.ifCond .ne 5, 3) := by decide +kernel
theorem dX2_readNewItem_27 : decode cX2_readNewItem 27 = .ok (.iconst 0, 1) := by decide +kernel
theorem dX2_readNewItem_28 : decode cX2_readNewItem 28 = .ok (.ireturn, 1) := by decide +kernel
theorem dX2_readNewItem_29 : decode cX2_readNewItem 29 = .ok (.aload_n 1, 1) := by decide +kernel
theorem dX2_readNewItem_30 : decode cX2_readNewItem 30 = .ok (.bipush 64, 2) := by decide +kernel
theorem dX2_readNewItem_32 : decode cX2_readNewItem 32 = .ok (.invokevirtual 52, 3) := by decide +kernel
theorem dX2_readNewItem_35 : decode cX2_readNewItem 35 = .ok (.istore_n 3, 1) := by decide +kernel
theorem dX2_readNewItem_36 : decode cX2_readNewItem 36 = .ok (.aload_n 0, 1) := by decide +kernel
theorem dX2_readNewItem_37 : decode cX2_readNewItem 37 = .ok (.getfield 25, 3) := by decide +kernel
theorem dX2_readNewItem_40 : decode cX2_readNewItem 40 = .ok (.iload_n 2, 1) := by decide +kernel
theorem dX2_readNewItem_41 : decode cX2_readNewItem 41 = .ok (.iload_n 3, 1) := by decide +kernel
theorem dX2_readNewItem_42 : decode cX2_readNewItem 42 = .ok (.ifCond .eq 11, 3) := by decide +kernel
theorem dX2_readNewItem_45 : decode cX2_readNewItem 45 = .ok (.aload_n 1, 1) := by decide +kernel
theorem dX2_readNewItem_46 : decode cX2_readNewItem 46 = .ok (.iconst 4, 1) := by decide +kernel
theorem dX2_readNewItem_47 : decode cX2_readNewItem 47 = .ok (.invokevirtual 78, 3) := by decide +kernel
theorem dX2_readNewItem_50 : decode cX2_readNewItem 50 = .ok (.goto 4, 3) := by decide +kernel
theorem dX2_readNewItem_53 : decode cX2_readNewItem 53 = .ok (.iconst (-1), 1) := by decide +kernel
theorem dX2_readNewItem_54 : decode cX2_readNewItem 54 = .ok (.iastore, 1) := by decide +kernel
theorem dX2_readNewItem_55 : decode cX2_readNewItem 55 = .ok (.aload_n 0, 1) := by decide +kernel
theorem dX2_readNewItem_56 : decode cX2_readNewItem 56 = .ok (.getfield 25, 3) := by decide +kernel
theorem dX2_readNewItem_59 : decode cX2_readNewItem 59 = .ok (.iload_n 2, 1) := by decide +kernel
theorem dX2_readNewItem_60 : decode cX2_readNewItem 60 = .ok (.iaload, 1) := by decide +kernel
theorem dX2_readNewItem_61 : decode cX2_readNewItem 61 = .ok (.ldc 42, 2) := by decide +kernel
theorem dX2_readNewItem_63 : decode cX2_readNewItem 63 = .ok (.if_icmp .ne 5, 3) := by decide +kernel
theorem dX2_readNewItem_66 : decode cX2_readNewItem 66 = .ok (.iconst 0, 1) := by decide +kernel
theorem dX2_readNewItem_67 : decode cX2_readNewItem 67 = .ok (.ireturn, 1) := by decide +kernel
theorem dX2_readNewItem_68 : decode cX2_readNewItem 68 = .ok (.aload_n 1, 1) := by decide +kernel
theorem dX2_readNewItem_69 : decode cX2_readNewItem 69 = .ok (.bipush 61, 2) := by decide +kernel
theorem dX2_readNewItem_71 : decode cX2_readNewItem 71 = .ok (.invokevirtual 52, 3) := by decide +kernel
theorem dX2_readNewItem_74 : decode cX2_readNewItem 74 = .ok (.istore 4, 2) := by decide +kernel
theorem dX2_readNewItem_76 : decode cX2_readNewItem 76 = .ok (.aload_n 0, 1) := by decide +kernel
theorem dX2_readNewItem_77 : decode cX2_readNewItem 77 = .ok (.getfield 28, 3) := by decide +kernel
theorem dX2_readNewItem_80 : decode cX2_readNewItem 80 = .ok (.iload_n 2, 1) := by decide +kernel
theorem dX2_readNewItem_81 : decode cX2_readNewItem 81 = .ok (.iload 4, 2) := by decide +kernel
theorem dX2_readNewItem_83 : decode cX2_readNewItem 83 = .ok (.ifCond .eq 10, 3) := by decide +kernel
theorem dX2_readNewItem_86 : decode cX2_readNewItem 86 = .ok (.aload_n 1, 1) := by decide +kernel
theorem dX2_readNewItem_87 : decode cX2_readNewItem 87 = .ok (.invokevirtual 89, 3) := by decide +kernel
theorem dX2_readNewItem_90 : decode cX2_readNewItem 90 = .ok (.goto 4, 3) := by decide +kernel
theorem dX2_readNewItem_93 : decode cX2_readNewItem 93 = .ok (.iconst 0, 1) := by decide +kernel
theorem dX2_readNewItem_94 : decode cX2_readNewItem 94 = .ok (.iastore, 1) := by decide +kernel
theorem dX2_readNewItem_95 : decode cX2_readNewItem 95 = .ok (.aload_n 0, 1) := by decide +kernel
theorem dX2_readNewItem_96 : decode cX2_readNewItem 96 = .ok (.getfield 28, 3) := by decide +kernel
theorem dX2_readNewItem_99 : decode cX2_readNewItem 99 = .ok (.iload_n 2, 1) := by decide +kernel
theorem dX2_readNewItem_100 : decode cX2_readNewItem 100 = .ok (.iaload, 1) := by decide +kernel
theorem dX2_readNewItem_101 : decode cX2_readNewItem 101 = .ok (.ldc 42, 2) := by decide +kernel
theorem dX2_readNewItem_103 : decode cX2_readNewItem 103 = .ok (.if_icmp .ne 5, 3) := by decide +kernel
theorem dX2_readNewItem_106 : decode cX2_readNewItem 106 = .ok (.iconst 0, 1) := by decide +kernel
theorem dX2_readNewItem_107 : decode cX2_readNewItem 107 = .ok (.ireturn, 1) := by decide +kernel
theorem dX2_readNewItem_108 : decode cX2_readNewItem 108 = .ok (.aload_n 0, 1) := by decide +kernel
theorem dX2_readNewItem_109 : decode cX2_readNewItem 109 = .ok (.getfield 31, 3) := by decide +kernel
theorem dX2_readNewItem_112 : decode cX2_readNewItem 112 = .ok (.iload_n 2, 1) := by decide +kernel
theorem dX2_readNewItem_113 : decode cX2_readNewItem 113 = .ok (.iload_n 3, 1) := by decide +kernel
theorem dX2_readNewItem_114 : decode cX2_readNewItem 114 = .ok (.ifCond .ne 8, 3) := by decide +kernel
theorem dX2_readNewItem_117 : decode cX2_readNewItem 117 = .ok (.iload 4, 2) := by decide +kernel
theorem dX2_readNewItem_119 : decode cX2_readNewItem 119 = .ok (.ifCond .eq 16, 3) := by decide +kernel
theorem dX2_readNewItem_122 : decode cX2_readNewItem 122 = .ok (.aload_n 1, 1) := by decide +kernel
theorem dX2_readNewItem_123 : decode cX2_readNewItem 123 = .ok (.bipush 120, 2) := by decide +kernel
theorem dX2_readNewItem_125 : decode cX2_readNewItem 125 = .ok (.invokevirtual 52, 3) := by decide +kernel
theorem dX2_readNewItem_128 : decode cX2_readNewItem 128 = .ok (.ifCond .eq 7, 3) := by decide +kernel
theorem dX2_readNewItem_131 : decode cX2_readNewItem 131 = .ok (.iconst 1, 1) := by decide +kernel
theorem dX2_readNewItem_132 : decode cX2_readNewItem 132 = .ok (.goto 4, 3) := by decide +kernel
theorem dX2_readNewItem_135 : decode cX2_readNewItem 135 = .ok (.iconst 0, 1) := by decide +kernel
theorem dX2_readNewItem_136 : decode cX2_readNewItem 136 = .ok (.bastore, 1) := by decide +kernel
theorem dX2_readNewItem_137 : decode cX2_readNewItem 137 = .ok (.iconst 1, 1) := by decide +kernel
theorem dX2_readNewItem_138 : decode cX2_readNewItem 138 = .ok (.ireturn, 1) := by decide +kernel
theorem dX2_parentFor_0 : decode cX2_parentFor 0 = .ok (.iload_n 1, 1) := by decide +kernel
theorem dX2_parentFor_1 : decode cX2_parentFor 1 = .ok (.iconst 1, 1) := by decide +kernel
theorem dX2_parentFor_2 : decode cX2_parentFor 2 = .ok (.isub, 1) := by decide +kernel
theorem dX2_parentFor_3 : decode cX2_parentFor 3 = .ok (.istore_n 3, 1) := by decide +kernel
theorem dX2_parentFor_4 : decode cX2_parentFor 4 = .ok (.iload_n 3, 1) := by decide +kernel
theorem dX2_parentFor_5 : decode cX2_parentFor 5 = .ok (.ifCond .lt 33, 3) := by decide +kernel
theorem dX2_parentFor_8 : decode cX2_parentFor 8 = .ok (.aload_n 0, 1) := by decide +kernel
theorem dX2_parentFor_9 : decode cX2_parentFor 9 = .ok (.getfield 9, 3) := by decide +kernel
theorem dX2_parentFor_12 : decode cX2_parentFor 12 = .ok (.iload_n 3, 1) := by decide +kernel
theorem dX2_parentFor_13 : decode cX2_parentFor 13 = .ok (.iaload, 1) := by decide +kernel
theorem dX2_parentFor_14 : decode cX2_parentFor 14 = .ok (.aload_n 0, 1) := by decide +kernel
theorem dX2_parentFor_15 : decode cX2_parentFor 15 = .ok (.getfield 9, 3) := by decide +kernel
theorem dX2_parentFor_18 : decode cX2_parentFor 18 = .ok (.iload_n 1, 1) := by decide +kernel
theorem dX2_parentFor_19 : decode cX2_parentFor 19 = .ok (.iaload, 1) := by decide +kernel
theorem dX2_parentFor_20 : decode cX2_parentFor 20 = .ok (.iconst 1, 1) := by decide +kernel
theorem dX2_parentFor_21 : decode cX2_parentFor 21 = .ok (.isub, 1) := by decide +kernel
theorem dX2_parentFor_22 : decode cX2_parentFor 22 = .ok (.if_icmp .ne 10, 3) := by decide +kernel
theorem dX2_parentFor_25 : decode cX2_parentFor 25 = .ok (.aload_n 0, 1) := by decide +kernel
theorem dX2_parentFor_26 : decode cX2_parentFor 26 = .ok (.getfield 35, 3) := by decide +kernel
theorem dX2_parentFor_29 : decode cX2_parentFor 29 = .ok (.iload_n 3, 1) := by decide +kernel
theorem dX2_parentFor_30 : decode cX2_parentFor 30 = .ok (.iaload, 1) := by decide +kernel
theorem dX2_parentFor_31 : decode cX2_parentFor 31 = .ok (.ireturn, 1) := by decide +kernel
theorem dX2_parentFor_32 : decode cX2_parentFor 32 = .ok (.iinc 3 (-1), 3) := by decide +kernel
theorem dX2_parentFor_35 : decode cX2_parentFor 35 = .ok (.goto (-31), 3) := by decide +kernel
theorem dX2_parentFor_38 : decode cX2_parentFor 38 = .ok (.iload_n 2, 1) := by decide +kernel
theorem dX2_parentFor_39 : decode cX2_parentFor 39 = .ok (.ireturn, 1) := by decide +kernel
theorem dX2_itemToClone_0 : decode cX2_itemToClone 0 = .ok (.aload_n 0, 1) := by decide +kernel
theorem dX2_itemToClone_1 : decode cX2_itemToClone 1 = .ok (.getfield 15, 3) := by decide +kernel
theorem dX2_itemToClone_4 : decode cX2_itemToClone 4 = .ok (.iload_n 1, 1) := by decide +kernel
theorem dX2_itemToClone_5 : decode cX2_itemToClone 5 = .ok (.iaload, 1) := by decide +kernel
theorem dX2_itemToClone_6 : decode cX2_itemToClone 6 = .ok (.istore_n 2, 1) := by decide +kernel
theorem dX2_itemToClone_7 : decode cX2_itemToClone 7 = .ok (.iload_n 2, 1) := by decide +kernel
theorem dX2_itemToClone_8 : decode cX2_itemToClone 8 = .ok (.ifCond .ge 7, 3) := by decide +kernel
theorem dX2_itemToClone_11 : decode cX2_itemToClone 11 = .ok (.iconst 0, 1) := by decide +kernel
theorem dX2_itemToClone_12 : decode cX2_itemToClone 12 = .ok (.goto 9, 3) := by decide +kernel
theorem dX2_itemToClone_15 : decode cX2_itemToClone 15 = .ok (.aload_n 0, 1) := by decide +kernel
theorem dX2_itemToClone_16 : decode cX2_itemToClone 16 = .ok (.getfield 35, 3) := by decide +kernel
theorem dX2_itemToClone_19 : decode cX2_itemToClone 19 = .ok (.iload_n 2, 1) := by decide +kernel
theorem dX2_itemToClone_20 : decode cX2_itemToClone 20 = .ok (.iaload, 1) := by decide +kernel
theorem dX2_itemToClone_21 : decode cX2_itemToClone 21 = .ok (.ireturn, 1) := by decide +kernel
theorem dX2_itemFor_0 : decode cX2_itemFor 0 = .ok (.aload_n 0, 1) := by decide +kernel
theorem dX2_itemFor_1 : decode cX2_itemFor 1 = .ok (.iload_n 2, 1) := by decide +kernel
theorem dX2_itemFor_2 : decode cX2_itemFor 2 = .ok (.invokevirtual 70, 3) := by decide +kernel
theorem dX2_itemFor_5 : decode cX2_itemFor 5 = .ok (.ifCond .eq 17, 3) := by decide +kernel
theorem dX2_itemFor_8 : decode cX2_itemFor 8 = .ok (.aload_n 0, 1) := by decide +kernel
theorem dX2_itemFor_9 : decode cX2_itemFor 9 = .ok (.getfield 35, 3) := by decide +kernel
theorem dX2_itemFor_12 : decode cX2_itemFor 12 = .ok (.iload_n 2, 1) := by decide +kernel
theorem dX2_itemFor_13 : decode cX2_itemFor 13 = .ok (.aload_n 0, 1) := by decide +kernel
theorem dX2_itemFor_14 : decode cX2_itemFor 14 = .ok (.iload_n 2, 1) := by decide +kernel
theorem dX2_itemFor_15 : decode cX2_itemFor 15 = .ok (.invokevirtual 92, 3) := by decide +kernel
theorem dX2_itemFor_18 : decode cX2_itemFor 18 = .ok (.iastore, 1) := by decide +kernel
theorem dX2_itemFor_19 : decode cX2_itemFor 19 = .ok (.goto 62, 3) := by decide +kernel
theorem dX2_itemFor_22 : decode cX2_itemFor 22 = .ok (.aload_n 1, 1) := by decide +kernel
theorem dX2_itemFor_23 : decode cX2_itemFor 23 = .ok (.aload_n 0, 1) := by decide +kernel
theorem dX2_itemFor_24 : decode cX2_itemFor 24 = .ok (.getfield 18, 3) := by decide +kernel
theorem dX2_itemFor_27 : decode cX2_itemFor 27 = .ok (.iload_n 2, 1) := by decide +kernel
theorem dX2_itemFor_28 : decode cX2_itemFor 28 = .ok (.bipush 10, 2) := by decide +kernel
theorem dX2_itemFor_30 : decode cX2_itemFor 30 = .ok (.imul, 1) := by decide +kernel
theorem dX2_itemFor_31 : decode cX2_itemFor 31 = .ok (.aload_n 0, 1) := by decide +kernel
theorem dX2_itemFor_32 : decode cX2_itemFor 32 = .ok (.getfield 22, 3) := by decide +kernel
theorem dX2_itemFor_35 : decode cX2_itemFor 35 = .ok (.iload_n 2, 1) := by decide +kernel
theorem dX2_itemFor_36 : decode cX2_itemFor 36 = .ok (.iaload, 1) := by decide +kernel
theorem dX2_itemFor_37 : decode cX2_itemFor 37 = .ok (.invokevirtual 95, 3) := by decide +kernel
theorem dX2_itemFor_40 : decode cX2_itemFor 40 = .ok (.istore_n 3, 1) := by decide +kernel
theorem dX2_itemFor_41 : decode cX2_itemFor 41 = .ok (.aload_n 1, 1) := by decide +kernel
theorem dX2_itemFor_42 : decode cX2_itemFor 42 = .ok (.iload_n 3, 1) := by decide +kernel
theorem dX2_itemFor_43 : decode cX2_itemFor 43 = .ok (.aload_n 0, 1) := by decide +kernel
theorem dX2_itemFor_44 : decode cX2_itemFor 44 = .ok (.getfield 25, 3) := by decide +kernel
theorem dX2_itemFor_47 : decode cX2_itemFor 47 = .ok (.iload_n 2, 1) := by decide +kernel
theorem dX2_itemFor_48 : decode cX2_itemFor 48 = .ok (.iaload, 1) := by decide +kernel
theorem dX2_itemFor_49 : decode cX2_itemFor 49 = .ok (.invokevirtual 101, 3) := by decide +kernel
theorem dX2_itemFor_52 : decode cX2_itemFor 52 = .ok (.aload_n 1, 1) := by decide +kernel
theorem dX2_itemFor_53 : decode cX2_itemFor 53 = .ok (.iload_n 3, 1) := by decide +kernel
theorem dX2_itemFor_54 : decode cX2_itemFor 54 = .ok (.aload_n 0, 1) := by decide +kernel
theorem dX2_itemFor_55 : decode cX2_itemFor 55 = .ok (.getfield 28, 3) := by decide +kernel
theorem dX2_itemFor_58 : decode cX2_itemFor 58 = .ok (.iload_n 2, 1) := by decide +kernel
theorem dX2_itemFor_59 : decode cX2_itemFor 59 = .ok (.iaload, 1) := by decide +kernel
theorem dX2_itemFor_60 : decode cX2_itemFor 60 = .ok (.invokevirtual 105, 3) := by decide +kernel
theorem dX2_itemFor_63 : decode cX2_itemFor 63 = .ok (.aload_n 1, 1) := by decide +kernel
theorem dX2_itemFor_64 : decode cX2_itemFor 64 = .ok (.iload_n 3, 1) := by decide +kernel
theorem dX2_itemFor_65 : decode cX2_itemFor 65 = .ok (.aload_n 0, 1) := by decide +kernel
theorem dX2_itemFor_66 : decode cX2_itemFor 66 = .ok (.getfield 31, 3) := by decide +kernel
theorem dX2_itemFor_69 : decode cX2_itemFor 69 = .ok (.iload_n 2, 1) := by decide +kernel
theorem dX2_itemFor_70 : decode cX2_itemFor 70 = .ok (.baload, 1) := by decide +kernel
theorem dX2_itemFor_71 : decode cX2_itemFor 71 = .ok (.invokevirtual 108, 3) := by decide +kernel
theorem dX2_itemFor_74 : decode cX2_itemFor 74 = .ok (.aload_n 0, 1) := by decide +kernel
theorem dX2_itemFor_75 : decode cX2_itemFor 75 = .ok (.getfield 35, 3) := by decide +kernel
theorem dX2_itemFor_78 : decode cX2_itemFor 78 = .ok (.iload_n 2, 1) := by decide +kernel
theorem dX2_itemFor_79 : decode cX2_itemFor 79 = .ok (.iload_n 3, 1) := by decide +kernel
theorem dX2_itemFor_80 : decode cX2_itemFor 80 = .ok (.iastore, 1) := by decide +kernel
theorem dX2_itemFor_81 : decode cX2_itemFor 81 = .ok (.aload_n 0, 1) := by decide +kernel
theorem dX2_itemFor_82 : decode cX2_itemFor 82 = .ok (.getfield 35, 3) := by decide +kernel
theorem dX2_itemFor_85 : decode cX2_itemFor 85 = .ok (.iload_n 2, 1) := by decide +kernel
theorem dX2_itemFor_86 : decode cX2_itemFor 86 = .ok (.iaload, 1) := by decide +kernel
theorem dX2_itemFor_87 : decode cX2_itemFor 87 = .ok (.ireturn, 1) := by decide +kernel
theorem dX3_init_0 : decode cX3_init 0 = .ok (.aload_n 0, 1) := by decide +kernel
theorem dX3_init_1 : decode cX3_init 1 = .ok (.invokespecial 3, 3) := by decide +kernel
theorem dX3_init_4 : decode cX3_init 4 = .ok (.aload_n 0, 1) := by decide +kernel
theorem dX3_init_5 : decode cX3_init 5 = .ok (.bipush 8, 2) := by decide +kernel
theorem dX3_init_7 : decode cX3_init 7 = .ok (.anewarray 9, 3) := by decide +kernel
theorem dX3_init_10 : decode cX3_init 10 = .ok (.putfield 11, 3) := by decide +kernel
theorem dX3_init_13 : decode cX3_init 13 = .ok (.aload_n 0, 1) := by decide +kernel
theorem dX3_init_14 : decode cX3_init 14 = .ok (.iconst 0, 1) := by decide +kernel
theorem dX3_init_15 : decode cX3_init 15 = .ok (.putfield 17, 3) := by decide +kernel
theorem dX3_init_18 : decode cX3_init 18 = .ok (.return_, 1) := by decide +kernel
theorem dX3_size_0 : decode cX3_size 0 = .ok (.aload_n 0, 1) := by decide +kernel
theorem dX3_size_1 : decode cX3_size 1 = .ok (.getfield 17, 3) := by decide +kernel
theorem dX3_size_4 : decode cX3_size 4 = .ok (.ireturn, 1) := by decide +kernel
theorem dX3_forget_0 : decode cX3_forget 0 = .ok (.aload_n 0, 1) := by decide +kernel
theorem dX3_forget_1 : decode cX3_forget 1 = .ok (.iconst 0, 1) := by decide +kernel
theorem dX3_forget_2 : decode cX3_forget 2 = .ok (.putfield 17, 3) := by decide +kernel
theorem dX3_forget_5 : decode cX3_forget 5 = .ok (.return_, 1) := by decide +kernel
theorem dX3_push_0 : decode cX3_push 0 = .ok (.aload_n 0, 1) := by decide +kernel
theorem dX3_push_1 : decode cX3_push 1 = .ok (.getfield 17, 3) := by decide +kernel
theorem dX3_push_4 : decode cX3_push 4 = .ok (.bipush 8, 2) := by decide +kernel
theorem dX3_push_6 : decode cX3_push 6 = .ok (.if_icmp .ge 36, 3) := by decide +kernel
theorem dX3_push_9 : decode cX3_push 9 = .ok (.aload_n 0, 1) := by decide +kernel
theorem dX3_push_10 : decode cX3_push 10 = .ok (.getfield 11, 3) := by decide +kernel
theorem dX3_push_13 : decode cX3_push 13 = .ok (.aload_n 0, 1) := by decide +kernel
theorem dX3_push_14 : decode cX3_push 14 = .ok (.getfield 17, 3) := by decide +kernel
theorem dX3_push_17 : decode cX3_push 17 = .ok (.aaload, 1) := by decide +kernel
theorem dX3_push_18 : decode cX3_push 18 = .ok (.astore_n 2, 1) := by decide +kernel
theorem dX3_push_19 : decode cX3_push 19 = .ok (.aload_n 0, 1) := by decide +kernel
theorem dX3_push_20 : decode cX3_push 20 = .ok (.getfield 11, 3) := by decide +kernel
theorem dX3_push_23 : decode cX3_push 23 = .ok (.aload_n 0, 1) := by decide +kernel
theorem dX3_push_24 : decode cX3_push 24 = .ok (.getfield 17, 3) := by decide +kernel
theorem dX3_push_27 : decode cX3_push 27 = .ok (.aload_n 1, 1) := by decide +kernel
theorem dX3_push_28 : decode cX3_push 28 = .ok (.aastore, 1) := by decide +kernel
theorem dX3_push_29 : decode cX3_push 29 = .ok (.aload_n 0, 1) := by decide +kernel
theorem dX3_push_30 : decode cX3_push 30 = .ok (.dup, 1) := by decide +kernel
theorem dX3_push_31 : decode cX3_push 31 = .ok (.getfield 17, 3) := by decide +kernel
theorem dX3_push_34 : decode cX3_push 34 = .ok (.iconst 1, 1) := by decide +kernel
theorem dX3_push_35 : decode cX3_push 35 = .ok (.iadd, 1) := by decide +kernel
theorem dX3_push_36 : decode cX3_push 36 = .ok (.putfield 17, 3) := by decide +kernel
theorem dX3_push_39 : decode cX3_push 39 = .ok (.goto 46, 3) := by decide +kernel
theorem dX3_push_42 : decode cX3_push 42 = .ok (.aload_n 0, 1) := by decide +kernel
theorem dX3_push_43 : decode cX3_push 43 = .ok (.getfield 11, 3) := by decide +kernel
theorem dX3_push_46 : decode cX3_push 46 = .ok (.iconst 0, 1) := by decide +kernel
theorem dX3_push_47 : decode cX3_push 47 = .ok (.aaload, 1) := by decide +kernel
theorem dX3_push_48 : decode cX3_push 48 = .ok (.astore_n 2, 1) := by decide +kernel
theorem dX3_push_49 : decode cX3_push 49 = .ok (.iconst 1, 1) := by decide +kernel
theorem dX3_push_50 : decode cX3_push 50 = .ok (.istore_n 3, 1) := by decide +kernel
theorem dX3_push_51 : decode cX3_push 51 = .ok (.iload_n 3, 1) := by decide +kernel
theorem dX3_push_52 : decode cX3_push 52 = .ok (.bipush 8, 2) := by decide +kernel
theorem dX3_push_54 : decode cX3_push 54 = .ok (.if_icmp .ge 23, 3) := by decide +kernel
theorem dX3_push_57 : decode cX3_push 57 = .ok (.aload_n 0, 1) := by decide +kernel
theorem dX3_push_58 : decode cX3_push 58 = .ok (.getfield 11, 3) := by decide +kernel
theorem dX3_push_61 : decode cX3_push 61 = .ok (.iload_n 3, 1) := by decide +kernel
theorem dX3_push_62 : decode cX3_push 62 = .ok (.iconst 1, 1) := by decide +kernel
theorem dX3_push_63 : decode cX3_push 63 = .ok (.isub, 1) := by decide +kernel
theorem dX3_push_64 : decode cX3_push 64 = .ok (.aload_n 0, 1) := by decide +kernel
theorem dX3_push_65 : decode cX3_push 65 = .ok (.getfield 11, 3) := by decide +kernel
theorem dX3_push_68 : decode cX3_push 68 = .ok (.iload_n 3, 1) := by decide +kernel
theorem dX3_push_69 : decode cX3_push 69 = .ok (.aaload, 1) := by decide +kernel
theorem dX3_push_70 : decode cX3_push 70 = .ok (.aastore, 1) := by decide +kernel
theorem dX3_push_71 : decode cX3_push 71 = .ok (.iinc 3 1, 3) := by decide +kernel
theorem dX3_push_74 : decode cX3_push 74 = .ok (.goto (-23), 3) := by decide +kernel
theorem dX3_push_77 : decode cX3_push 77 = .ok (.aload_n 0, 1) := by decide +kernel
theorem dX3_push_78 : decode cX3_push 78 = .ok (.getfield 11, 3) := by decide +kernel
theorem dX3_push_81 : decode cX3_push 81 = .ok (.bipush 7, 2) := by decide +kernel
theorem dX3_push_83 : decode cX3_push 83 = .ok (.aload_n 1, 1) := by decide +kernel
theorem dX3_push_84 : decode cX3_push 84 = .ok (.aastore, 1) := by decide +kernel
theorem dX3_push_85 : decode cX3_push 85 = .ok (.aload_n 2, 1) := by decide +kernel
theorem dX3_push_86 : decode cX3_push 86 = .ok (.ifnonnull 13, 3) := by decide +kernel
theorem dX3_push_89 : decode cX3_push 89 = .ok (.new 9, 3) := by decide +kernel
theorem dX3_push_92 : decode cX3_push 92 = .ok (.dup, 1) := by decide +kernel
theorem dX3_push_93 : decode cX3_push 93 = .ok (.invokespecial 21, 3) := by decide +kernel
theorem dX3_push_96 : decode cX3_push 96 = .ok (.goto 4, 3) := by decide +kernel
theorem dX3_push_99 : decode cX3_push 99 = .ok (.aload_n 2, 1) := by decide +kernel
theorem dX3_push_100 : decode cX3_push 100 = .ok (.areturn, 1) := by decide +kernel
theorem dX3_pop_0 : decode cX3_pop 0 = .ok (.aload_n 0, 1) := by decide +kernel
theorem dX3_pop_1 : decode cX3_pop 1 = .ok (.getfield 17, 3) := by decide +kernel
theorem dX3_pop_4 : decode cX3_pop 4 = .ok (.ifCond .le 17, 3) := by decide +kernel
theorem dX3_pop_7 : decode cX3_pop 7 = .ok (.aload_n 0, 1) := by decide +kernel
theorem dX3_pop_8 : decode cX3_pop 8 = .ok (.getfield 11, 3) := by decide +kernel
theorem dX3_pop_11 : decode cX3_pop 11 = .ok (.aload_n 0, 1) := by decide +kernel
theorem dX3_pop_12 : decode cX3_pop 12 = .ok (.getfield 17, 3) := by decide +kernel
theorem dX3_pop_15 : decode cX3_pop 15 = .ok (.iconst 1, 1) := by decide +kernel
theorem dX3_pop_16 : decode cX3_pop 16 = .ok (.isub, 1) := by decide +kernel
theorem dX3_pop_17 : decode cX3_pop 17 = .ok (.aaload, 1) := by decide +kernel
theorem dX3_pop_18 : decode cX3_pop 18 = .ok (.goto 4, 3) := by decide +kernel
theorem dX3_pop_21 : decode cX3_pop 21 = .ok (.aload_n 1, 1) := by decide +kernel
theorem dX3_pop_22 : decode cX3_pop 22 = .ok (.astore_n 2, 1) := by decide +kernel
theorem dX3_pop_23 : decode cX3_pop 23 = .ok (.aload_n 0, 1) := by decide +kernel
theorem dX3_pop_24 : decode cX3_pop 24 = .ok (.getfield 17, 3) := by decide +kernel
theorem dX3_pop_27 : decode cX3_pop 27 = .ok (.ifCond .le 23, 3) := by decide +kernel
theorem dX3_pop_30 : decode cX3_pop 30 = .ok (.aload_n 0, 1) := by decide +kernel
theorem dX3_pop_31 : decode cX3_pop 31 = .ok (.dup, 1) := by decide +kernel
theorem dX3_pop_32 : decode cX3_pop 32 = .ok (.getfield 17, 3) := by decide +kernel
theorem dX3_pop_35 : decode cX3_pop 35 = .ok (.iconst 1, 1) := by decide +kernel
theorem dX3_pop_36 : decode cX3_pop 36 = .ok (.isub, 1) := by decide +kernel
theorem dX3_pop_37 : decode cX3_pop 37 = .ok (.putfield 17, 3) := by decide +kernel
theorem dX3_pop_40 : decode cX3_pop 40 = .ok (.aload_n 0, 1) := by decide +kernel
theorem dX3_pop_41 : decode cX3_pop 41 = .ok (.getfield 11, 3) := by decide +kernel
theorem dX3_pop_44 : decode cX3_pop 44 = .ok (.aload_n 0, 1) := by decide +kernel
theorem dX3_pop_45 : decode cX3_pop 45 = .ok (.getfield 17, 3) := by decide +kernel
theorem dX3_pop_48 : decode cX3_pop 48 = .ok (.aload_n 1, 1) := by decide +kernel
theorem dX3_pop_49 : decode cX3_pop 49 = .ok (.aastore, 1) := by decide +kernel
theorem dX3_pop_50 : decode cX3_pop 50 = .ok (.aload_n 2, 1) := by decide +kernel
theorem dX3_pop_51 : decode cX3_pop 51 = .ok (.ifnonnull 7, 3) := by decide +kernel
theorem dX3_pop_54 : decode cX3_pop 54 = .ok (.aload_n 1, 1) := by decide +kernel
theorem dX3_pop_55 : decode cX3_pop 55 = .ok (.goto 4, 3) := by decide +kernel
theorem dX3_pop_58 : decode cX3_pop 58 = .ok (.aload_n 2, 1) := by decide +kernel
theorem dX3_pop_59 : decode cX3_pop 59 = .ok (.areturn, 1) := by decide +kernel
theorem dX4_init_0 : decode cX4_init 0 = .ok (.aload_n 0, 1) := by decide +kernel
theorem dX4_init_1 : decode cX4_init 1 = .ok (.invokespecial 3, 3) := by decide +kernel
theorem dX4_init_4 : decode cX4_init 4 = .ok (.aload_n 0, 1) := by decide +kernel
theorem dX4_init_5 : decode cX4_init 5 = .ok (.iconst 4, 1) := by decide +kernel
theorem dX4_init_6 : decode cX4_init 6 = .ok (.newarray .int, 2) := by decide +kernel
theorem dX4_init_8 : decode cX4_init 8 = .ok (.putfield 9, 3) := by decide +kernel
theorem dX4_init_11 : decode cX4_init 11 = .ok (.aload_n 0, 1) := by decide +kernel
theorem dX4_init_12 : decode cX4_init 12 = .ok (.iconst 0, 1) := by decide +kernel
theorem dX4_init_13 : decode cX4_init 13 = .ok (.putfield 15, 3) := by decide +kernel
theorem dX4_init_16 : decode cX4_init 16 = .ok (.return_, 1) := by decide +kernel
theorem dX4_size_0 : decode cX4_size 0 = .ok (.aload_n 0, 1) := by decide +kernel
theorem dX4_size_1 : decode cX4_size 1 = .ok (.getfield 15, 3) := by decide +kernel
theorem dX4_size_4 : decode cX4_size 4 = .ok (.ireturn, 1) := by decide +kernel
theorem dX4_top_0 : decode cX4_top 0 = .ok (.aload_n 0, 1) := by decide +kernel
theorem dX4_top_1 : decode cX4_top 1 = .ok (.getfield 15, 3) := by decide +kernel
theorem dX4_top_4 : decode cX4_top 4 = .ok (.ifCond .ne 7, 3) := by decide +kernel
theorem dX4_top_7 : decode cX4_top 7 = .ok (.iconst 0, 1) := by decide +kernel
theorem dX4_top_8 : decode cX4_top 8 = .ok (.goto 14, 3) := by decide +kernel
theorem dX4_top_11 : decode cX4_top 11 = .ok (.aload_n 0, 1) := by decide +kernel
theorem dX4_top_12 : decode cX4_top 12 = .ok (.getfield 9, 3) := by decide +kernel
theorem dX4_top_15 : decode cX4_top 15 = .ok (.aload_n 0, 1) := by decide +kernel
theorem dX4_top_16 : decode cX4_top 16 = .ok (.getfield 15, 3) := by decide +kernel
theorem dX4_top_19 : decode cX4_top 19 = .ok (.iconst 1, 1) := by decide +kernel
theorem dX4_top_20 : decode cX4_top 20 = .ok (.isub, 1) := by decide +kernel
theorem dX4_top_21 : decode cX4_top 21 = .ok (.iaload, 1) := by decide +kernel
theorem dX4_top_22 : decode cX4_top 22 = .ok (.ireturn, 1) := by decide +kernel
theorem dX4_push_0 : decode cX4_push 0 = .ok (.aload_n 0, 1) := by decide +kernel
theorem dX4_push_1 : decode cX4_push 1 = .ok (.getfield 15, 3) := by decide +kernel
theorem dX4_push_4 : decode cX4_push 4 = .ok (.iconst 4, 1) := by decide +kernel
theorem dX4_push_5 : decode cX4_push 5 = .ok (.if_icmp .ge 23, 3) := by decide +kernel
theorem dX4_push_8 : decode cX4_push 8 = .ok (.aload_n 0, 1) := by decide +kernel
theorem dX4_push_9 : decode cX4_push 9 = .ok (.getfield 9, 3) := by decide +kernel
theorem dX4_push_12 : decode cX4_push 12 = .ok (.aload_n 0, 1) := by decide +kernel
theorem dX4_push_13 : decode cX4_push 13 = .ok (.getfield 15, 3) := by decide +kernel
theorem dX4_push_16 : decode cX4_push 16 = .ok (.iload_n 1, 1) := by decide +kernel
theorem dX4_push_17 : decode cX4_push 17 = .ok (.iastore, 1) := by decide +kernel
theorem dX4_push_18 : decode cX4_push 18 = .ok (.aload_n 0, 1) := by decide +kernel
theorem dX4_push_19 : decode cX4_push 19 = .ok (.dup, 1) := by decide +kernel
theorem dX4_push_20 : decode cX4_push 20 = .ok (.getfield 15, 3) := by decide +kernel
theorem dX4_push_23 : decode cX4_push 23 = .ok (.iconst 1, 1) := by decide +kernel
theorem dX4_push_24 : decode cX4_push 24 = .ok (.iadd, 1) := by decide +kernel
theorem dX4_push_25 : decode cX4_push 25 = .ok (.putfield 15, 3) := by decide +kernel
theorem dX4_push_28 : decode cX4_push 28 = .ok (.return_, 1) := by decide +kernel
theorem dX4_pop_0 : decode cX4_pop 0 = .ok (.aload_n 0, 1) := by decide +kernel
theorem dX4_pop_1 : decode cX4_pop 1 = .ok (.getfield 15, 3) := by decide +kernel
theorem dX4_pop_4 : decode cX4_pop 4 = .ok (.ifCond .le 13, 3) := by decide +kernel
theorem dX4_pop_7 : decode cX4_pop 7 = .ok (.aload_n 0, 1) := by decide +kernel
theorem dX4_pop_8 : decode cX4_pop 8 = .ok (.dup, 1) := by decide +kernel
theorem dX4_pop_9 : decode cX4_pop 9 = .ok (.getfield 15, 3) := by decide +kernel
theorem dX4_pop_12 : decode cX4_pop 12 = .ok (.iconst 1, 1) := by decide +kernel
theorem dX4_pop_13 : decode cX4_pop 13 = .ok (.isub, 1) := by decide +kernel
theorem dX4_pop_14 : decode cX4_pop 14 = .ok (.putfield 15, 3) := by decide +kernel
theorem dX4_pop_17 : decode cX4_pop 17 = .ok (.return_, 1) := by decide +kernel
theorem dX4_endAll_0 : decode cX4_endAll 0 = .ok (.aload_n 0, 1) := by decide +kernel
theorem dX4_endAll_1 : decode cX4_endAll 1 = .ok (.iconst 0, 1) := by decide +kernel
theorem dX4_endAll_2 : decode cX4_endAll 2 = .ok (.putfield 15, 3) := by decide +kernel
theorem dX4_endAll_5 : decode cX4_endAll 5 = .ok (.return_, 1) := by decide +kernel
theorem dX4_endUnlessAllIn_0 : decode cX4_endUnlessAllIn 0 = .ok (.iconst 0, 1) := by decide +kernel
theorem dX4_endUnlessAllIn_1 : decode cX4_endUnlessAllIn 1 = .ok (.istore_n 3, 1) := by decide +kernel
theorem dX4_endUnlessAllIn_2 : decode cX4_endUnlessAllIn 2 = .ok (.iload_n 3, 1) := by decide +kernel
theorem dX4_endUnlessAllIn_3 : decode cX4_endUnlessAllIn 3 = .ok (.aload_n 0, 1) := by decide +kernel
theorem dX4_endUnlessAllIn_4 : decode cX4_endUnlessAllIn 4 = .ok (.getfield 15, 3) := by decide +kernel
theorem dX4_endUnlessAllIn_7 : decode cX4_endUnlessAllIn 7 = .ok (.if_icmp .ge 27, 3) := by decide +kernel
theorem dX4_endUnlessAllIn_10 : decode cX4_endUnlessAllIn 10 = .ok (.lload_n 1, 1) := by decide +kernel
theorem dX4_endUnlessAllIn_11 : decode cX4_endUnlessAllIn 11 = .ok (.aload_n 0, 1) := by decide +kernel
theorem dX4_endUnlessAllIn_12 : decode cX4_endUnlessAllIn 12 = .ok (.getfield 9, 3) := by decide +kernel
theorem dX4_endUnlessAllIn_15 : decode cX4_endUnlessAllIn 15 = .ok (.iload_n 3, 1) := by decide +kernel
theorem dX4_endUnlessAllIn_16 : decode cX4_endUnlessAllIn 16 = .ok (.iaload, 1) := by decide +kernel
theorem dX4_endUnlessAllIn_17 : decode cX4_endUnlessAllIn 17 = .ok (.invokestatic 19, 3) := by decide +kernel
theorem dX4_endUnlessAllIn_20 : decode cX4_endUnlessAllIn 20 = .ok (.ifCond .ne 8, 3) := by decide +kernel
theorem dX4_endUnlessAllIn_23 : decode cX4_endUnlessAllIn 23 = .ok (.aload_n 0, 1) := by decide +kernel
theorem dX4_endUnlessAllIn_24 : decode cX4_endUnlessAllIn 24 = .ok (.iconst 0, 1) := by decide +kernel
theorem dX4_endUnlessAllIn_25 : decode cX4_endUnlessAllIn 25 = .ok (.putfield 15, 3) := by decide +kernel
theorem dX4_endUnlessAllIn_28 : decode cX4_endUnlessAllIn 28 = .ok (.iinc 3 1, 3) := by decide +kernel
theorem dX4_endUnlessAllIn_31 : decode cX4_endUnlessAllIn 31 = .ok (.goto (-29), 3) := by decide +kernel
theorem dX4_endUnlessAllIn_34 : decode cX4_endUnlessAllIn 34 = .ok (.return_, 1) := by decide +kernel
theorem dX5_init_0 : decode cX5_init 0 = .ok (.aload_n 0, 1) := by decide +kernel
theorem dX5_init_1 : decode cX5_init 1 = .ok (.invokespecial 5, 3) := by decide +kernel
theorem dX5_init_4 : decode cX5_init 4 = .ok (.aload_n 0, 1) := by decide +kernel
theorem dX5_init_5 : decode cX5_init 5 = .ok (.sipush 301, 3) := by decide +kernel
theorem dX5_init_8 : decode cX5_init 8 = .ok (.newarray .int, 2) := by decide +kernel
theorem dX5_init_10 : decode cX5_init 10 = .ok (.putfield 11, 3) := by decide +kernel
theorem dX5_init_13 : decode cX5_init 13 = .ok (.aload_n 0, 1) := by decide +kernel
theorem dX5_init_14 : decode cX5_init 14 = .ok (.sipush 301, 3) := by decide +kernel
theorem dX5_init_17 : decode cX5_init 17 = .ok (.newarray .int, 2) := by decide +kernel
theorem dX5_init_19 : decode cX5_init 19 = .ok (.putfield 15, 3) := by decide +kernel
theorem dX5_init_22 : decode cX5_init 22 = .ok (.aload_n 0, 1) := by decide +kernel
theorem dX5_init_23 : decode cX5_init 23 = .ok (.sipush 301, 3) := by decide +kernel
theorem dX5_init_26 : decode cX5_init 26 = .ok (.newarray .int, 2) := by decide +kernel
theorem dX5_init_28 : decode cX5_init 28 = .ok (.putfield 18, 3) := by decide +kernel
theorem dX5_init_31 : decode cX5_init 31 = .ok (.aload_n 0, 1) := by decide +kernel
theorem dX5_init_32 : decode cX5_init 32 = .ok (.sipush 301, 3) := by decide +kernel
theorem dX5_init_35 : decode cX5_init 35 = .ok (.newarray .int, 2) := by decide +kernel
theorem dX5_init_37 : decode cX5_init 37 = .ok (.putfield 21, 3) := by decide +kernel
theorem dX5_init_40 : decode cX5_init 40 = .ok (.aload_n 0, 1) := by decide +kernel
theorem dX5_init_41 : decode cX5_init 41 = .ok (.sipush 301, 3) := by decide +kernel
theorem dX5_init_44 : decode cX5_init 44 = .ok (.newarray .int, 2) := by decide +kernel
theorem dX5_init_46 : decode cX5_init 46 = .ok (.putfield 24, 3) := by decide +kernel
theorem dX5_init_49 : decode cX5_init 49 = .ok (.aload_n 0, 1) := by decide +kernel
theorem dX5_init_50 : decode cX5_init 50 = .ok (.iconst 0, 1) := by decide +kernel
theorem dX5_init_51 : decode cX5_init 51 = .ok (.putfield 27, 3) := by decide +kernel
theorem dX5_init_54 : decode cX5_init 54 = .ok (.return_, 1) := by decide +kernel
theorem dX5_find_0 : decode cX5_find 0 = .ok (.aload_n 0, 1) := by decide +kernel
theorem dX5_find_1 : decode cX5_find 1 = .ok (.iconst 0, 1) := by decide +kernel
theorem dX5_find_2 : decode cX5_find 2 = .ok (.putfield 27, 3) := by decide +kernel
theorem dX5_find_5 : decode cX5_find 5 = .ok (.aload_n 0, 1) := by decide +kernel
theorem dX5_find_6 : decode cX5_find 6 = .ok (.iload_n 2, 1) := by decide +kernel
theorem dX5_find_7 : decode cX5_find 7 = .ok (.ldc 31, 2) := by decide +kernel
theorem dX5_find_9 : decode cX5_find 9 = .ok (.iconst 0, 1) := by decide +kernel
theorem dX5_find_10 : decode cX5_find 10 = .ok (.iconst (-1), 1) := by decide +kernel
theorem dX5_find_11 : decode cX5_find 11 = .ok (.invokevirtual 32, 3) := by decide +kernel
theorem dX5_find_14 : decode cX5_find 14 = .ok (.lload 5, 2) := by decide +kernel
theorem dX5_find_16 : decode cX5_find 16 = .ok (.iload_n 2, 1) := by decide +kernel
theorem dX5_find_17 : decode cX5_find 17 = .ok (.iconst 1, 1) := by decide +kernel
theorem dX5_find_18 : decode cX5_find 18 = .ok (.invokestatic 36, 3) := by decide +kernel
theorem dX5_find_21 : decode cX5_find 21 = .ok (.lstore 7, 2) := by decide +kernel
theorem dX5_find_23 : decode cX5_find 23 = .ok (.iconst 0, 1) := by decide +kernel
theorem dX5_find_24 : decode cX5_find 24 = .ok (.istore 9, 2) := by decide +kernel
theorem dX5_find_26 : decode cX5_find 26 = .ok (.iconst 0, 1) := by decide +kernel
theorem dX5_find_27 : decode cX5_find 27 = .ok (.istore 10, 2) := by decide +kernel
theorem dX5_find_29 : decode cX5_find 29 = .ok (.iload 10, 2) := by decide +kernel
theorem dX5_find_31 : decode cX5_find 31 = .ok (.sipush 602, 3) := by decide +kernel
theorem dX5_find_34 : decode cX5_find 34 = .ok (.if_icmp .ge 132, 3) := by decide +kernel
theorem dX5_find_37 : decode cX5_find 37 = .ok (.iload 9, 2) := by decide +kernel
theorem dX5_find_39 : decode cX5_find 39 = .ok (.ifCond .lt 127, 3) := by decide +kernel
theorem dX5_find_42 : decode cX5_find 42 = .ok (.aload_n 0, 1) := by decide +kernel
theorem dX5_find_43 : decode cX5_find 43 = .ok (.getfield 11, 3) := by decide +kernel
theorem dX5_find_46 : decode cX5_find 46 = .ok (.iload 9, 2) := by decide +kernel
theorem dX5_find_48 : decode cX5_find 48 = .ok (.iaload, 1) := by decide +kernel
theorem dX5_find_49 : decode cX5_find 49 = .ok (.istore 11, 2) := by decide +kernel
theorem dX5_find_51 : decode cX5_find 51 = .ok (.aload_n 0, 1) := by decide +kernel
theorem dX5_find_52 : decode cX5_find 52 = .ok (.getfield 24, 3) := by decide +kernel
theorem dX5_find_55 : decode cX5_find 55 = .ok (.iload 9, 2) := by decide +kernel
theorem dX5_find_57 : decode cX5_find 57 = .ok (.iaload, 1) := by decide +kernel
theorem dX5_find_58 : decode cX5_find 58 = .ok (.istore 12, 2) := by decide +kernel
theorem dX5_find_60 : decode cX5_find 60 = .ok (.lload 7, 2) := by decide +kernel
theorem dX5_find_62 : decode cX5_find 62 = .ok (.iload 11, 2) := by decide +kernel
theorem dX5_find_64 : decode cX5_find 64 = .ok (.invokestatic 40, 3) := by decide +kernel
theorem dX5_find_67 : decode cX5_find 67 = .ok (.ifCond .eq 84, 3) := by decide +kernel
theorem dX5_find_70 : decode cX5_find 70 = .ok (.iload 12, 2) := by decide +kernel
theorem dX5_find_72 : decode cX5_find 72 = .ok (.aload_n 1, 1) := by decide +kernel
theorem dX5_find_73 : decode cX5_find 73 = .ok (.iload 11, 2) := by decide +kernel
theorem dX5_find_75 : decode cX5_find 75 = .ok (.invokevirtual 44, 3) := by decide +kernel
theorem dX5_find_78 : decode cX5_find 78 = .ok (.if_icmp .ge 73, 3) := by decide +kernel
theorem dX5_find_81 : decode cX5_find 81 = .ok (.aload_n 0, 1) := by decide +kernel
theorem dX5_find_82 : decode cX5_find 82 = .ok (.getfield 24, 3) := by decide +kernel
theorem dX5_find_85 : decode cX5_find 85 = .ok (.iload 9, 2) := by decide +kernel
theorem dX5_find_87 : decode cX5_find 87 = .ok (.iload 12, 2) := by decide +kernel
theorem dX5_find_89 : decode cX5_find 89 = .ok (.iconst 1, 1) := by decide +kernel
theorem dX5_find_90 : decode cX5_find 90 = .ok (.iadd, 1) := by decide +kernel
theorem dX5_find_91 : decode cX5_find 91 = .ok (.iastore, 1) := by decide +kernel
theorem dX5_find_92 : decode cX5_find 92 = .ok (.aload_n 1, 1) := by decide +kernel
theorem dX5_find_93 : decode cX5_find 93 = .ok (.iload 11, 2) := by decide +kernel
theorem dX5_find_95 : decode cX5_find 95 = .ok (.iload 12, 2) := by decide +kernel
theorem dX5_find_97 : decode cX5_find 97 = .ok (.invokevirtual 50, 3) := by decide +kernel
theorem dX5_find_100 : decode cX5_find 100 = .ok (.istore 13, 2) := by decide +kernel
theorem dX5_find_102 : decode cX5_find 102 = .ok (.lload_n 3, 1) := by decide +kernel
theorem dX5_find_103 : decode cX5_find 103 = .ok (.iload 13, 2) := by decide +kernel
theorem dX5_find_105 : decode cX5_find 105 = .ok (.invokestatic 40, 3) := by decide +kernel
theorem dX5_find_108 : decode cX5_find 108 = .ok (.ifCond .eq 40, 3) := by decide +kernel
theorem dX5_find_111 : decode cX5_find 111 = .ok (.aload_n 0, 1) := by decide +kernel
theorem dX5_find_112 : decode cX5_find 112 = .ok (.getfield 27, 3) := by decide +kernel
theorem dX5_find_115 : decode cX5_find 115 = .ok (.sipush 301, 3) := by decide +kernel
theorem dX5_find_118 : decode cX5_find 118 = .ok (.if_icmp .ge 30, 3) := by decide +kernel
theorem dX5_find_121 : decode cX5_find 121 = .ok (.aload_n 0, 1) := by decide +kernel
theorem dX5_find_122 : decode cX5_find 122 = .ok (.iload 13, 2) := by decide +kernel
theorem dX5_find_124 : decode cX5_find 124 = .ok (.iload 9, 2) := by decide +kernel
theorem dX5_find_126 : decode cX5_find 126 = .ok (.iload 12, 2) := by decide +kernel
theorem dX5_find_128 : decode cX5_find 128 = .ok (.aload_n 0, 1) := by decide +kernel
theorem dX5_find_129 : decode cX5_find 129 = .ok (.getfield 21, 3) := by decide +kernel
theorem dX5_find_132 : decode cX5_find 132 = .ok (.iload 9, 2) := by decide +kernel
theorem dX5_find_134 : decode cX5_find 134 = .ok (.iaload, 1) := by decide +kernel
theorem dX5_find_135 : decode cX5_find 135 = .ok (.iconst 1, 1) := by decide +kernel
theorem dX5_find_136 : decode cX5_find 136 = .ok (.iadd, 1) := by decide +kernel
theorem dX5_find_137 : decode cX5_find 137 = .ok (.invokevirtual 32, 3) := by decide +kernel
theorem dX5_find_140 : decode cX5_find 140 = .ok (.aload_n 0, 1) := by decide +kernel
theorem dX5_find_141 : decode cX5_find 141 = .ok (.getfield 27, 3) := by decide +kernel
theorem dX5_find_144 : decode cX5_find 144 = .ok (.iconst 1, 1) := by decide +kernel
theorem dX5_find_145 : decode cX5_find 145 = .ok (.isub, 1) := by decide +kernel
theorem dX5_find_146 : decode cX5_find 146 = .ok (.istore 9, 2) := by decide +kernel
theorem dX5_find_148 : decode cX5_find 148 = .ok (.goto 12, 3) := by decide +kernel
theorem dX5_find_151 : decode cX5_find 151 = .ok (.aload_n 0, 1) := by decide +kernel
theorem dX5_find_152 : decode cX5_find 152 = .ok (.getfield 15, 3) := by decide +kernel
theorem dX5_find_155 : decode cX5_find 155 = .ok (.iload 9, 2) := by decide +kernel
theorem dX5_find_157 : decode cX5_find 157 = .ok (.iaload, 1) := by decide +kernel
theorem dX5_find_158 : decode cX5_find 158 = .ok (.istore 9, 2) := by decide +kernel
theorem dX5_find_160 : decode cX5_find 160 = .ok (.iinc 10 1, 3) := by decide +kernel
theorem dX5_find_163 : decode cX5_find 163 = .ok (.goto (-134), 3) := by decide +kernel
theorem dX5_find_166 : decode cX5_find 166 = .ok (.return_, 1) := by decide +kernel
theorem dX5_putRow_0 : decode cX5_putRow 0 = .ok (.aload_n 0, 1) := by decide +kernel
theorem dX5_putRow_1 : decode cX5_putRow 1 = .ok (.getfield 11, 3) := by decide +kernel
theorem dX5_putRow_4 : decode cX5_putRow 4 = .ok (.aload_n 0, 1) := by decide +kernel
theorem dX5_putRow_5 : decode cX5_putRow 5 = .ok (.getfield 27, 3) := by decide +kernel
theorem dX5_putRow_8 : decode cX5_putRow 8 = .ok (.iload_n 1, 1) := by decide +kernel
theorem dX5_putRow_9 : decode cX5_putRow 9 = .ok (.iastore, 1) := by decide +kernel
theorem dX5_putRow_10 : decode cX5_putRow 10 = .ok (.aload_n 0, 1) := by decide +kernel
theorem dX5_putRow_11 : decode cX5_putRow 11 = .ok (.getfield 15, 3) := by decide +kernel
theorem dX5_putRow_14 : decode cX5_putRow 14 = .ok (.aload_n 0, 1) := by decide +kernel
theorem dX5_putRow_15 : decode cX5_putRow 15 = .ok (.getfield 27, 3) := by decide +kernel
theorem dX5_putRow_18 : decode cX5_putRow 18 = .ok (.iload_n 2, 1) := by decide +kernel
theorem dX5_putRow_19 : decode cX5_putRow 19 = .ok (.iastore, 1) := by decide +kernel
theorem dX5_putRow_20 : decode cX5_putRow 20 = .ok (.aload_n 0, 1) := by decide +kernel
theorem dX5_putRow_21 : decode cX5_putRow 21 = .ok (.getfield 18, 3) := by decide +kernel
theorem dX5_putRow_24 : decode cX5_putRow 24 = .ok (.aload_n 0, 1) := by decide +kernel
theorem dX5_putRow_25 : decode cX5_putRow 25 = .ok (.getfield 27, 3) := by decide +kernel
theorem dX5_putRow_28 : decode cX5_putRow 28 = .ok (.iload_n 3, 1) := by decide +kernel
theorem dX5_putRow_29 : decode cX5_putRow 29 = .ok (.iastore, 1) := by decide +kernel
theorem dX5_putRow_30 : decode cX5_putRow 30 = .ok (.aload_n 0, 1) := by decide +kernel
theorem dX5_putRow_31 : decode cX5_putRow 31 = .ok (.getfield 21, 3) := by decide +kernel
theorem dX5_putRow_34 : decode cX5_putRow 34 = .ok (.aload_n 0, 1) := by decide +kernel
theorem dX5_putRow_35 : decode cX5_putRow 35 = .ok (.getfield 27, 3) := by decide +kernel
theorem dX5_putRow_38 : decode cX5_putRow 38 = .ok (.iload 4, 2) := by decide +kernel
theorem dX5_putRow_40 : decode cX5_putRow 40 = .ok (.iastore, 1) := by decide +kernel
theorem dX5_putRow_41 : decode cX5_putRow 41 = .ok (.aload_n 0, 1) := by decide +kernel
theorem dX5_putRow_42 : decode cX5_putRow 42 = .ok (.getfield 24, 3) := by decide +kernel
theorem dX5_putRow_45 : decode cX5_putRow 45 = .ok (.aload_n 0, 1) := by decide +kernel
theorem dX5_putRow_46 : decode cX5_putRow 46 = .ok (.getfield 27, 3) := by decide +kernel
theorem dX5_putRow_49 : decode cX5_putRow 49 = .ok (.iconst 0, 1) := by decide +kernel
theorem dX5_putRow_50 : decode cX5_putRow 50 = .ok (.iastore, 1) := by decide +kernel
theorem dX5_putRow_51 : decode cX5_putRow 51 = .ok (.aload_n 0, 1) := by decide +kernel
theorem dX5_putRow_52 : decode cX5_putRow 52 = .ok (.dup, 1) := by decide +kernel
theorem dX5_putRow_53 : decode cX5_putRow 53 = .ok (.getfield 27, 3) := by decide +kernel
theorem dX5_putRow_56 : decode cX5_putRow 56 = .ok (.iconst 1, 1) := by decide +kernel
theorem dX5_putRow_57 : decode cX5_putRow 57 = .ok (.iadd, 1) := by decide +kernel
theorem dX5_putRow_58 : decode cX5_putRow 58 = .ok (.putfield 27, 3) := by decide +kernel
theorem dX5_putRow_61 : decode cX5_putRow 61 = .ok (.return_, 1) := by decide +kernel
theorem dX5_size_0 : decode cX5_size 0 = .ok (.aload_n 0, 1) := by decide +kernel
theorem dX5_size_1 : decode cX5_size 1 = .ok (.getfield 27, 3) := by decide +kernel
theorem dX5_size_4 : decode cX5_size 4 = .ok (.iconst 1, 1) := by decide +kernel
theorem dX5_size_5 : decode cX5_size 5 = .ok (.isub, 1) := by decide +kernel
theorem dX5_size_6 : decode cX5_size 6 = .ok (.ireturn, 1) := by decide +kernel
theorem dX5_itemOf_0 : decode cX5_itemOf 0 = .ok (.aload_n 0, 1) := by decide +kernel
theorem dX5_itemOf_1 : decode cX5_itemOf 1 = .ok (.getfield 11, 3) := by decide +kernel
theorem dX5_itemOf_4 : decode cX5_itemOf 4 = .ok (.iload_n 1, 1) := by decide +kernel
theorem dX5_itemOf_5 : decode cX5_itemOf 5 = .ok (.iconst 1, 1) := by decide +kernel
theorem dX5_itemOf_6 : decode cX5_itemOf 6 = .ok (.iadd, 1) := by decide +kernel
theorem dX5_itemOf_7 : decode cX5_itemOf 7 = .ok (.iaload, 1) := by decide +kernel
theorem dX5_itemOf_8 : decode cX5_itemOf 8 = .ok (.ireturn, 1) := by decide +kernel
theorem dX5_depthOf_0 : decode cX5_depthOf 0 = .ok (.aload_n 0, 1) := by decide +kernel
theorem dX5_depthOf_1 : decode cX5_depthOf 1 = .ok (.getfield 21, 3) := by decide +kernel
theorem dX5_depthOf_4 : decode cX5_depthOf 4 = .ok (.iload_n 1, 1) := by decide +kernel
theorem dX5_depthOf_5 : decode cX5_depthOf 5 = .ok (.iconst 1, 1) := by decide +kernel
theorem dX5_depthOf_6 : decode cX5_depthOf 6 = .ok (.iadd, 1) := by decide +kernel
theorem dX5_depthOf_7 : decode cX5_depthOf 7 = .ok (.iaload, 1) := by decide +kernel
theorem dX5_depthOf_8 : decode cX5_depthOf 8 = .ok (.ireturn, 1) := by decide +kernel
theorem dX5_lineAbove_0 : decode cX5_lineAbove 0 = .ok (.aload_n 0, 1) := by decide +kernel
theorem dX5_lineAbove_1 : decode cX5_lineAbove 1 = .ok (.getfield 15, 3) := by decide +kernel
theorem dX5_lineAbove_4 : decode cX5_lineAbove 4 = .ok (.iload_n 1, 1) := by decide +kernel
theorem dX5_lineAbove_5 : decode cX5_lineAbove 5 = .ok (.iconst 1, 1) := by decide +kernel
theorem dX5_lineAbove_6 : decode cX5_lineAbove 6 = .ok (.iadd, 1) := by decide +kernel
theorem dX5_lineAbove_7 : decode cX5_lineAbove 7 = .ok (.iaload, 1) := by decide +kernel
theorem dX5_lineAbove_8 : decode cX5_lineAbove 8 = .ok (.iconst 1, 1) := by decide +kernel
theorem dX5_lineAbove_9 : decode cX5_lineAbove 9 = .ok (.isub, 1) := by decide +kernel
theorem dX5_lineAbove_10 : decode cX5_lineAbove 10 = .ok (.ireturn, 1) := by decide +kernel
theorem dX5_itemAbove_0 : decode cX5_itemAbove 0 = .ok (.aload_n 0, 1) := by decide +kernel
theorem dX5_itemAbove_1 : decode cX5_itemAbove 1 = .ok (.getfield 11, 3) := by decide +kernel
theorem dX5_itemAbove_4 : decode cX5_itemAbove 4 = .ok (.aload_n 0, 1) := by decide +kernel
theorem dX5_itemAbove_5 : decode cX5_itemAbove 5 = .ok (.getfield 15, 3) := by decide +kernel
theorem dX5_itemAbove_8 : decode cX5_itemAbove 8 = .ok (.iload_n 1, 1) := by decide +kernel
theorem dX5_itemAbove_9 : decode cX5_itemAbove 9 = .ok (.iconst 1, 1) := by decide +kernel
theorem dX5_itemAbove_10 : decode cX5_itemAbove 10 = .ok (.iadd, 1) := by decide +kernel
theorem dX5_itemAbove_11 : decode cX5_itemAbove 11 = .ok (.iaload, 1) := by decide +kernel
theorem dX5_itemAbove_12 : decode cX5_itemAbove 12 = .ok (.iaload, 1) := by decide +kernel
theorem dX5_itemAbove_13 : decode cX5_itemAbove 13 = .ok (.ireturn, 1) := by decide +kernel
theorem dX5_indexIn_0 : decode cX5_indexIn 0 = .ok (.aload_n 0, 1) := by decide +kernel
theorem dX5_indexIn_1 : decode cX5_indexIn 1 = .ok (.getfield 18, 3) := by decide +kernel
theorem dX5_indexIn_4 : decode cX5_indexIn 4 = .ok (.iload_n 1, 1) := by decide +kernel
theorem dX5_indexIn_5 : decode cX5_indexIn 5 = .ok (.iconst 1, 1) := by decide +kernel
theorem dX5_indexIn_6 : decode cX5_indexIn 6 = .ok (.iadd, 1) := by decide +kernel
theorem dX5_indexIn_7 : decode cX5_indexIn 7 = .ok (.iaload, 1) := by decide +kernel
theorem dX5_indexIn_8 : decode cX5_indexIn 8 = .ok (.ireturn, 1) := by decide +kernel
theorem dX5_pathLength_0 : decode cX5_pathLength 0 = .ok (.aload_n 0, 1) := by decide +kernel
theorem dX5_pathLength_1 : decode cX5_pathLength 1 = .ok (.iload_n 2, 1) := by decide +kernel
theorem dX5_pathLength_2 : decode cX5_pathLength 2 = .ok (.invokevirtual 54, 3) := by decide +kernel
theorem dX5_pathLength_5 : decode cX5_pathLength 5 = .ok (.istore_n 3, 1) := by decide +kernel
theorem dX5_pathLength_6 : decode cX5_pathLength 6 = .ok (.iload_n 2, 1) := by decide +kernel
theorem dX5_pathLength_7 : decode cX5_pathLength 7 = .ok (.iconst 1, 1) := by decide +kernel
theorem dX5_pathLength_8 : decode cX5_pathLength 8 = .ok (.iadd, 1) := by decide +kernel
theorem dX5_pathLength_9 : decode cX5_pathLength 9 = .ok (.istore 4, 2) := by decide +kernel
theorem dX5_pathLength_11 : decode cX5_pathLength 11 = .ok (.aload_n 0, 1) := by decide +kernel
theorem dX5_pathLength_12 : decode cX5_pathLength 12 = .ok (.iload_n 2, 1) := by decide +kernel
theorem dX5_pathLength_13 : decode cX5_pathLength 13 = .ok (.invokevirtual 54, 3) := by decide +kernel
theorem dX5_pathLength_16 : decode cX5_pathLength 16 = .ok (.istore 5, 2) := by decide +kernel
theorem dX5_pathLength_18 : decode cX5_pathLength 18 = .ok (.iload 5, 2) := by decide +kernel
theorem dX5_pathLength_20 : decode cX5_pathLength 20 = .ok (.ifCond .lt 32, 3) := by decide +kernel
theorem dX5_pathLength_23 : decode cX5_pathLength 23 = .ok (.iload_n 3, 1) := by decide +kernel
theorem dX5_pathLength_24 : decode cX5_pathLength 24 = .ok (.aload_n 1, 1) := by decide +kernel
theorem dX5_pathLength_25 : decode cX5_pathLength 25 = .ok (.aload_n 0, 1) := by decide +kernel
theorem dX5_pathLength_26 : decode cX5_pathLength 26 = .ok (.getfield 11, 3) := by decide +kernel
theorem dX5_pathLength_29 : decode cX5_pathLength 29 = .ok (.iload 4, 2) := by decide +kernel
theorem dX5_pathLength_31 : decode cX5_pathLength 31 = .ok (.iaload, 1) := by decide +kernel
theorem dX5_pathLength_32 : decode cX5_pathLength 32 = .ok (.invokevirtual 57, 3) := by decide +kernel
theorem dX5_pathLength_35 : decode cX5_pathLength 35 = .ok (.iadd, 1) := by decide +kernel
theorem dX5_pathLength_36 : decode cX5_pathLength 36 = .ok (.istore_n 3, 1) := by decide +kernel
theorem dX5_pathLength_37 : decode cX5_pathLength 37 = .ok (.aload_n 0, 1) := by decide +kernel
theorem dX5_pathLength_38 : decode cX5_pathLength 38 = .ok (.getfield 15, 3) := by decide +kernel
theorem dX5_pathLength_41 : decode cX5_pathLength 41 = .ok (.iload 4, 2) := by decide +kernel
theorem dX5_pathLength_43 : decode cX5_pathLength 43 = .ok (.iaload, 1) := by decide +kernel
theorem dX5_pathLength_44 : decode cX5_pathLength 44 = .ok (.istore 4, 2) := by decide +kernel
theorem dX5_pathLength_46 : decode cX5_pathLength 46 = .ok (.iinc 5 (-1), 3) := by decide +kernel
theorem dX5_pathLength_49 : decode cX5_pathLength 49 = .ok (.goto (-31), 3) := by decide +kernel
theorem dX5_pathLength_52 : decode cX5_pathLength 52 = .ok (.iload_n 3, 1) := by decide +kernel
theorem dX5_pathLength_53 : decode cX5_pathLength 53 = .ok (.ireturn, 1) := by decide +kernel
theorem dX5_pathSign_0 : decode cX5_pathSign 0 = .ok (.aload_n 0, 1) := by decide +kernel
theorem dX5_pathSign_1 : decode cX5_pathSign 1 = .ok (.aload_n 1, 1) := by decide +kernel
theorem dX5_pathSign_2 : decode cX5_pathSign 2 = .ok (.iload_n 2, 1) := by decide +kernel
theorem dX5_pathSign_3 : decode cX5_pathSign 3 = .ok (.invokevirtual 60, 3) := by decide +kernel
theorem dX5_pathSign_6 : decode cX5_pathSign 6 = .ok (.iconst 1, 1) := by decide +kernel
theorem dX5_pathSign_7 : decode cX5_pathSign 7 = .ok (.iadd, 1) := by decide +kernel
theorem dX5_pathSign_8 : decode cX5_pathSign 8 = .ok (.istore 4, 2) := by decide +kernel
theorem dX5_pathSign_10 : decode cX5_pathSign 10 = .ok (.iload_n 2, 1) := by decide +kernel
theorem dX5_pathSign_11 : decode cX5_pathSign 11 = .ok (.iconst 1, 1) := by decide +kernel
theorem dX5_pathSign_12 : decode cX5_pathSign 12 = .ok (.iadd, 1) := by decide +kernel
theorem dX5_pathSign_13 : decode cX5_pathSign 13 = .ok (.istore 5, 2) := by decide +kernel
theorem dX5_pathSign_15 : decode cX5_pathSign 15 = .ok (.aload_n 0, 1) := by decide +kernel
theorem dX5_pathSign_16 : decode cX5_pathSign 16 = .ok (.iload_n 2, 1) := by decide +kernel
theorem dX5_pathSign_17 : decode cX5_pathSign 17 = .ok (.invokevirtual 54, 3) := by decide +kernel
theorem dX5_pathSign_20 : decode cX5_pathSign 20 = .ok (.istore 6, 2) := by decide +kernel
theorem dX5_pathSign_22 : decode cX5_pathSign 22 = .ok (.iload 6, 2) := by decide +kernel
theorem dX5_pathSign_24 : decode cX5_pathSign 24 = .ok (.ifCond .lt 69, 3) := by decide +kernel
theorem dX5_pathSign_27 : decode cX5_pathSign 27 = .ok (.iload 4, 2) := by decide +kernel
theorem dX5_pathSign_29 : decode cX5_pathSign 29 = .ok (.aload_n 1, 1) := by decide +kernel
theorem dX5_pathSign_30 : decode cX5_pathSign 30 = .ok (.aload_n 0, 1) := by decide +kernel
theorem dX5_pathSign_31 : decode cX5_pathSign 31 = .ok (.getfield 11, 3) := by decide +kernel
theorem dX5_pathSign_34 : decode cX5_pathSign 34 = .ok (.iload 5, 2) := by decide +kernel
theorem dX5_pathSign_36 : decode cX5_pathSign 36 = .ok (.iaload, 1) := by decide +kernel
theorem dX5_pathSign_37 : decode cX5_pathSign 37 = .ok (.invokevirtual 57, 3) := by decide +kernel
theorem dX5_pathSign_40 : decode cX5_pathSign 40 = .ok (.iconst 1, 1) := by decide +kernel
theorem dX5_pathSign_41 : decode cX5_pathSign 41 = .ok (.iadd, 1) := by decide +kernel
theorem dX5_pathSign_42 : decode cX5_pathSign 42 = .ok (.isub, 1) := by decide +kernel
theorem dX5_pathSign_43 : decode cX5_pathSign 43 = .ok (.istore 4, 2) := by decide +kernel
theorem dX5_pathSign_45 : decode cX5_pathSign 45 = .ok (.iload_n 3, 1) := by decide +kernel
theorem dX5_pathSign_46 : decode cX5_pathSign 46 = .ok (.iload 4, 2) := by decide +kernel
theorem dX5_pathSign_48 : decode cX5_pathSign 48 = .ok (.if_icmp .lt 19, 3) := by decide +kernel
theorem dX5_pathSign_51 : decode cX5_pathSign 51 = .ok (.aload_n 1, 1) := by decide +kernel
theorem dX5_pathSign_52 : decode cX5_pathSign 52 = .ok (.aload_n 0, 1) := by decide +kernel
theorem dX5_pathSign_53 : decode cX5_pathSign 53 = .ok (.getfield 11, 3) := by decide +kernel
theorem dX5_pathSign_56 : decode cX5_pathSign 56 = .ok (.iload 5, 2) := by decide +kernel
theorem dX5_pathSign_58 : decode cX5_pathSign 58 = .ok (.iaload, 1) := by decide +kernel
theorem dX5_pathSign_59 : decode cX5_pathSign 59 = .ok (.iload_n 3, 1) := by decide +kernel
theorem dX5_pathSign_60 : decode cX5_pathSign 60 = .ok (.iload 4, 2) := by decide +kernel
theorem dX5_pathSign_62 : decode cX5_pathSign 62 = .ok (.isub, 1) := by decide +kernel
theorem dX5_pathSign_63 : decode cX5_pathSign 63 = .ok (.invokevirtual 64, 3) := by decide +kernel
theorem dX5_pathSign_66 : decode cX5_pathSign 66 = .ok (.ireturn, 1) := by decide +kernel
theorem dX5_pathSign_67 : decode cX5_pathSign 67 = .ok (.iload_n 3, 1) := by decide +kernel
theorem dX5_pathSign_68 : decode cX5_pathSign 68 = .ok (.iload 4, 2) := by decide +kernel
theorem dX5_pathSign_70 : decode cX5_pathSign 70 = .ok (.iconst 1, 1) := by decide +kernel
theorem dX5_pathSign_71 : decode cX5_pathSign 71 = .ok (.isub, 1) := by decide +kernel
theorem dX5_pathSign_72 : decode cX5_pathSign 72 = .ok (.if_icmp .ne 6, 3) := by decide +kernel
theorem dX5_pathSign_75 : decode cX5_pathSign 75 = .ok (.bipush 47, 2) := by decide +kernel
theorem dX5_pathSign_77 : decode cX5_pathSign 77 = .ok (.ireturn, 1) := by decide +kernel
theorem dX5_pathSign_78 : decode cX5_pathSign 78 = .ok (.aload_n 0, 1) := by decide +kernel
theorem dX5_pathSign_79 : decode cX5_pathSign 79 = .ok (.getfield 15, 3) := by decide +kernel
theorem dX5_pathSign_82 : decode cX5_pathSign 82 = .ok (.iload 5, 2) := by decide +kernel
theorem dX5_pathSign_84 : decode cX5_pathSign 84 = .ok (.iaload, 1) := by decide +kernel
theorem dX5_pathSign_85 : decode cX5_pathSign 85 = .ok (.istore 5, 2) := by decide +kernel
theorem dX5_pathSign_87 : decode cX5_pathSign 87 = .ok (.iinc 6 (-1), 3) := by decide +kernel
theorem dX5_pathSign_90 : decode cX5_pathSign 90 = .ok (.goto (-68), 3) := by decide +kernel
theorem dX5_pathSign_93 : decode cX5_pathSign 93 = .ok (.bipush 47, 2) := by decide +kernel
theorem dX5_pathSign_95 : decode cX5_pathSign 95 = .ok (.ireturn, 1) := by decide +kernel
theorem dX6_init_0 : decode cX6_init 0 = .ok (.aload_n 0, 1) := by decide +kernel
theorem dX6_init_1 : decode cX6_init 1 = .ok (.invokespecial 3, 3) := by decide +kernel
theorem dX6_init_4 : decode cX6_init 4 = .ok (.aload_n 0, 1) := by decide +kernel
theorem dX6_init_5 : decode cX6_init 5 = .ok (.bipush 61, 2) := by decide +kernel
theorem dX6_init_7 : decode cX6_init 7 = .ok (.newarray .int, 2) := by decide +kernel
theorem dX6_init_9 : decode cX6_init 9 = .ok (.putfield 9, 3) := by decide +kernel
theorem dX6_init_12 : decode cX6_init 12 = .ok (.aload_n 0, 1) := by decide +kernel
theorem dX6_init_13 : decode cX6_init 13 = .ok (.bipush 61, 2) := by decide +kernel
theorem dX6_init_15 : decode cX6_init 15 = .ok (.newarray .int, 2) := by decide +kernel
theorem dX6_init_17 : decode cX6_init 17 = .ok (.putfield 15, 3) := by decide +kernel
theorem dX6_init_20 : decode cX6_init 20 = .ok (.aload_n 0, 1) := by decide +kernel
theorem dX6_init_21 : decode cX6_init 21 = .ok (.bipush 61, 2) := by decide +kernel
theorem dX6_init_23 : decode cX6_init 23 = .ok (.newarray .int, 2) := by decide +kernel
theorem dX6_init_25 : decode cX6_init 25 = .ok (.putfield 18, 3) := by decide +kernel
theorem dX6_init_28 : decode cX6_init 28 = .ok (.aload_n 0, 1) := by decide +kernel
theorem dX6_init_29 : decode cX6_init 29 = .ok (.iconst 0, 1) := by decide +kernel
theorem dX6_init_30 : decode cX6_init 30 = .ok (.putfield 21, 3) := by decide +kernel
theorem dX6_init_33 : decode cX6_init 33 = .ok (.aload_n 0, 1) := by decide +kernel
theorem dX6_init_34 : decode cX6_init 34 = .ok (.bipush 61, 2) := by decide +kernel
theorem dX6_init_36 : decode cX6_init 36 = .ok (.newarray .int, 2) := by decide +kernel
theorem dX6_init_38 : decode cX6_init 38 = .ok (.putfield 25, 3) := by decide +kernel
theorem dX6_init_41 : decode cX6_init 41 = .ok (.aload_n 0, 1) := by decide +kernel
theorem dX6_init_42 : decode cX6_init 42 = .ok (.bipush 61, 2) := by decide +kernel
theorem dX6_init_44 : decode cX6_init 44 = .ok (.newarray .int, 2) := by decide +kernel
theorem dX6_init_46 : decode cX6_init 46 = .ok (.putfield 28, 3) := by decide +kernel
theorem dX6_init_49 : decode cX6_init 49 = .ok (.aload_n 0, 1) := by decide +kernel
theorem dX6_init_50 : decode cX6_init 50 = .ok (.bipush 61, 2) := by decide +kernel
theorem dX6_init_52 : decode cX6_init 52 = .ok (.newarray .int, 2) := by decide +kernel
theorem dX6_init_54 : decode cX6_init 54 = .ok (.putfield 31, 3) := by decide +kernel
theorem dX6_init_57 : decode cX6_init 57 = .ok (.aload_n 0, 1) := by decide +kernel
theorem dX6_init_58 : decode cX6_init 58 = .ok (.bipush 61, 2) := by decide +kernel
theorem dX6_init_60 : decode cX6_init 60 = .ok (.newarray .long, 2) := by decide +kernel
theorem dX6_init_62 : decode cX6_init 62 = .ok (.putfield 34, 3) := by decide +kernel
theorem dX6_init_65 : decode cX6_init 65 = .ok (.aload_n 0, 1) := by decide +kernel
theorem dX6_init_66 : decode cX6_init 66 = .ok (.getfield 18, 3) := by decide +kernel
theorem dX6_init_69 : decode cX6_init 69 = .ok (.iconst 0, 1) := by decide +kernel
theorem dX6_init_70 : decode cX6_init 70 = .ok (.iconst 0, 1) := by decide +kernel
theorem dX6_init_71 : decode cX6_init 71 = .ok (.iastore, 1) := by decide +kernel
theorem dX6_init_72 : decode cX6_init 72 = .ok (.aload_n 0, 1) := by decide +kernel
theorem dX6_init_73 : decode cX6_init 73 = .ok (.iconst 1, 1) := by decide +kernel
theorem dX6_init_74 : decode cX6_init 74 = .ok (.putfield 21, 3) := by decide +kernel
theorem dX6_init_77 : decode cX6_init 77 = .ok (.aload_n 0, 1) := by decide +kernel
theorem dX6_init_78 : decode cX6_init 78 = .ok (.getfield 25, 3) := by decide +kernel
theorem dX6_init_81 : decode cX6_init 81 = .ok (.iconst 0, 1) := by decide +kernel
theorem dX6_init_82 : decode cX6_init 82 = .ok (.iconst 1, 1) := by decide +kernel
theorem dX6_init_83 : decode cX6_init 83 = .ok (.iastore, 1) := by decide +kernel
theorem dX6_init_84 : decode cX6_init 84 = .ok (.aload_n 0, 1) := by decide +kernel
theorem dX6_init_85 : decode cX6_init 85 = .ok (.getfield 34, 3) := by decide +kernel
theorem dX6_init_88 : decode cX6_init 88 = .ok (.iconst 0, 1) := by decide +kernel
theorem dX6_init_89 : decode cX6_init 89 = .ok (.lconst 1, 1) := by decide +kernel
theorem dX6_init_90 : decode cX6_init 90 = .ok (.lastore, 1) := by decide +kernel
theorem dX6_init_91 : decode cX6_init 91 = .ok (.return_, 1) := by decide +kernel
theorem dX6_measure_0 : decode cX6_measure 0 = .ok (.aload_n 0, 1) := by decide +kernel
theorem dX6_measure_1 : decode cX6_measure 1 = .ok (.aload_n 1, 1) := by decide +kernel
theorem dX6_measure_2 : decode cX6_measure 2 = .ok (.invokevirtual 38, 3) := by decide +kernel
theorem dX6_measure_5 : decode cX6_measure 5 = .ok (.aload_n 0, 1) := by decide +kernel
theorem dX6_measure_6 : decode cX6_measure 6 = .ok (.aload_n 1, 1) := by decide +kernel
theorem dX6_measure_7 : decode cX6_measure 7 = .ok (.invokevirtual 42, 3) := by decide +kernel
theorem dX6_measure_10 : decode cX6_measure 10 = .ok (.aload_n 0, 1) := by decide +kernel
theorem dX6_measure_11 : decode cX6_measure 11 = .ok (.aload_n 1, 1) := by decide +kernel
theorem dX6_measure_12 : decode cX6_measure 12 = .ok (.invokevirtual 45, 3) := by decide +kernel
theorem dX6_measure_15 : decode cX6_measure 15 = .ok (.aload_n 0, 1) := by decide +kernel
theorem dX6_measure_16 : decode cX6_measure 16 = .ok (.aload_n 1, 1) := by decide +kernel
theorem dX6_measure_17 : decode cX6_measure 17 = .ok (.invokevirtual 48, 3) := by decide +kernel
theorem dX6_measure_20 : decode cX6_measure 20 = .ok (.return_, 1) := by decide +kernel
theorem dX6_countParents_0 : decode cX6_countParents 0 = .ok (.iconst 0, 1) := by decide +kernel
theorem dX6_countParents_1 : decode cX6_countParents 1 = .ok (.istore_n 2, 1) := by decide +kernel
theorem dX6_countParents_2 : decode cX6_countParents 2 = .ok (.iload_n 2, 1) := by decide +kernel
theorem dX6_countParents_3 : decode cX6_countParents 3 = .ok (.bipush 61, 2) := by decide +kernel
theorem dX6_countParents_5 : decode cX6_countParents 5 = .ok (.if_icmp .ge 23, 3) := by decide +kernel
theorem dX6_countParents_8 : decode cX6_countParents 8 = .ok (.aload_n 0, 1) := by decide +kernel
theorem dX6_countParents_9 : decode cX6_countParents 9 = .ok (.getfield 9, 3) := by decide +kernel
theorem dX6_countParents_12 : decode cX6_countParents 12 = .ok (.iload_n 2, 1) := by decide +kernel
theorem dX6_countParents_13 : decode cX6_countParents 13 = .ok (.iconst 0, 1) := by decide +kernel
theorem dX6_countParents_14 : decode cX6_countParents 14 = .ok (.iastore, 1) := by decide +kernel
theorem dX6_countParents_15 : decode cX6_countParents 15 = .ok (.aload_n 0, 1) := by decide +kernel
theorem dX6_countParents_16 : decode cX6_countParents 16 = .ok (.getfield 15, 3) := by decide +kernel
theorem dX6_countParents_19 : decode cX6_countParents 19 = .ok (.iload_n 2, 1) := by decide +kernel
theorem dX6_countParents_20 : decode cX6_countParents 20 = .ok (.iconst 0, 1) := by decide +kernel
theorem dX6_countParents_21 : decode cX6_countParents 21 = .ok (.iastore, 1) := by decide +kernel
theorem dX6_countParents_22 : decode cX6_countParents 22 = .ok (.iinc 2 1, 3) := by decide +kernel
theorem dX6_countParents_25 : decode cX6_countParents 25 = .ok (.goto (-23), 3) := by decide +kernel
theorem dX6_countParents_28 : decode cX6_countParents 28 = .ok (.iconst 0, 1) := by decide +kernel
theorem dX6_countParents_29 : decode cX6_countParents 29 = .ok (.istore_n 2, 1) := by decide +kernel
theorem dX6_countParents_30 : decode cX6_countParents 30 = .ok (.iload_n 2, 1) := by decide +kernel
theorem dX6_countParents_31 : decode cX6_countParents 31 = .ok (.bipush 61, 2) := by decide +kernel
theorem dX6_countParents_33 : decode cX6_countParents 33 = .ok (.if_icmp .ge 64, 3) := by decide +kernel
theorem dX6_countParents_36 : decode cX6_countParents 36 = .ok (.iconst 0, 1) := by decide +kernel
theorem dX6_countParents_37 : decode cX6_countParents 37 = .ok (.istore_n 3, 1) := by decide +kernel
theorem dX6_countParents_38 : decode cX6_countParents 38 = .ok (.aload_n 1, 1) := by decide +kernel
theorem dX6_countParents_39 : decode cX6_countParents 39 = .ok (.iload_n 2, 1) := by decide +kernel
theorem dX6_countParents_40 : decode cX6_countParents 40 = .ok (.invokevirtual 51, 3) := by decide +kernel
theorem dX6_countParents_43 : decode cX6_countParents 43 = .ok (.ifCond .eq 48, 3) := by decide +kernel
theorem dX6_countParents_46 : decode cX6_countParents 46 = .ok (.iload_n 3, 1) := by decide +kernel
theorem dX6_countParents_47 : decode cX6_countParents 47 = .ok (.aload_n 1, 1) := by decide +kernel
theorem dX6_countParents_48 : decode cX6_countParents 48 = .ok (.iload_n 2, 1) := by decide +kernel
theorem dX6_countParents_49 : decode cX6_countParents 49 = .ok (.invokevirtual 57, 3) := by decide +kernel
theorem dX6_countParents_52 : decode cX6_countParents 52 = .ok (.if_icmp .ge 39, 3) := by decide +kernel
theorem dX6_countParents_55 : decode cX6_countParents 55 = .ok (.aload_n 1, 1) := by decide +kernel
theorem dX6_countParents_56 : decode cX6_countParents 56 = .ok (.iload_n 2, 1) := by decide +kernel
theorem dX6_countParents_57 : decode cX6_countParents 57 = .ok (.iload_n 3, 1) := by decide +kernel
theorem dX6_countParents_58 : decode cX6_countParents 58 = .ok (.invokevirtual 61, 3) := by decide +kernel
theorem dX6_countParents_61 : decode cX6_countParents 61 = .ok (.istore 4, 2) := by decide +kernel
theorem dX6_countParents_63 : decode cX6_countParents 63 = .ok (.aload_n 0, 1) := by decide +kernel
theorem dX6_countParents_64 : decode cX6_countParents 64 = .ok (.getfield 9, 3) := by decide +kernel
theorem dX6_countParents_67 : decode cX6_countParents 67 = .ok (.iload 4, 2) := by decide +kernel
theorem dX6_countParents_69 : decode cX6_countParents 69 = .ok (.dup2, 1) := by decide +kernel
theorem dX6_countParents_70 : decode cX6_countParents 70 = .ok (.iaload, 1) := by decide +kernel
theorem dX6_countParents_71 : decode cX6_countParents 71 = .ok (.iconst 1, 1) := by decide +kernel
theorem dX6_countParents_72 : decode cX6_countParents 72 = .ok (.iadd, 1) := by decide +kernel
theorem dX6_countParents_73 : decode cX6_countParents 73 = .ok (.iastore, 1) := by decide +kernel
theorem dX6_countParents_74 : decode cX6_countParents 74 = .ok (.aload_n 0, 1) := by decide +kernel
theorem dX6_countParents_75 : decode cX6_countParents 75 = .ok (.getfield 15, 3) := by decide +kernel
theorem dX6_countParents_78 : decode cX6_countParents 78 = .ok (.iload 4, 2) := by decide +kernel
theorem dX6_countParents_80 : decode cX6_countParents 80 = .ok (.dup2, 1) := by decide +kernel
theorem dX6_countParents_81 : decode cX6_countParents 81 = .ok (.iaload, 1) := by decide +kernel
theorem dX6_countParents_82 : decode cX6_countParents 82 = .ok (.iconst 1, 1) := by decide +kernel
theorem dX6_countParents_83 : decode cX6_countParents 83 = .ok (.iadd, 1) := by decide +kernel
theorem dX6_countParents_84 : decode cX6_countParents 84 = .ok (.iastore, 1) := by decide +kernel
theorem dX6_countParents_85 : decode cX6_countParents 85 = .ok (.iinc 3 1, 3) := by decide +kernel
theorem dX6_countParents_88 : decode cX6_countParents 88 = .ok (.goto (-50), 3) := by decide +kernel
theorem dX6_countParents_91 : decode cX6_countParents 91 = .ok (.iinc 2 1, 3) := by decide +kernel
theorem dX6_countParents_94 : decode cX6_countParents 94 = .ok (.goto (-64), 3) := by decide +kernel
theorem dX6_countParents_97 : decode cX6_countParents 97 = .ok (.return_, 1) := by decide +kernel
theorem dX6_orderItems_0 : decode cX6_orderItems 0 = .ok (.aload_n 0, 1) := by decide +kernel
theorem dX6_orderItems_1 : decode cX6_orderItems 1 = .ok (.iconst 0, 1) := by decide +kernel
theorem dX6_orderItems_2 : decode cX6_orderItems 2 = .ok (.putfield 21, 3) := by decide +kernel
theorem dX6_orderItems_5 : decode cX6_orderItems 5 = .ok (.iconst 0, 1) := by decide +kernel
theorem dX6_orderItems_6 : decode cX6_orderItems 6 = .ok (.istore_n 2, 1) := by decide +kernel
theorem dX6_orderItems_7 : decode cX6_orderItems 7 = .ok (.iload_n 2, 1) := by decide +kernel
theorem dX6_orderItems_8 : decode cX6_orderItems 8 = .ok (.bipush 61, 2) := by decide +kernel
theorem dX6_orderItems_10 : decode cX6_orderItems 10 = .ok (.if_icmp .ge 31, 3) := by decide +kernel
theorem dX6_orderItems_13 : decode cX6_orderItems 13 = .ok (.aload_n 1, 1) := by decide +kernel
theorem dX6_orderItems_14 : decode cX6_orderItems 14 = .ok (.iload_n 2, 1) := by decide +kernel
theorem dX6_orderItems_15 : decode cX6_orderItems 15 = .ok (.invokevirtual 51, 3) := by decide +kernel
theorem dX6_orderItems_18 : decode cX6_orderItems 18 = .ok (.ifCond .eq 17, 3) := by decide +kernel
theorem dX6_orderItems_21 : decode cX6_orderItems 21 = .ok (.aload_n 0, 1) := by decide +kernel
theorem dX6_orderItems_22 : decode cX6_orderItems 22 = .ok (.getfield 9, 3) := by decide +kernel
theorem dX6_orderItems_25 : decode cX6_orderItems 25 = .ok (.iload_n 2, 1) := by decide +kernel
theorem dX6_orderItems_26 : decode cX6_orderItems 26 = .ok (.iaload, 1) := by decide +kernel
theorem dX6_orderItems_27 : decode cX6_orderItems 27 = .ok (.ifCond .ne 8, 3) := by decide +kernel
theorem dX6_orderItems_30 : decode cX6_orderItems 30 = .ok (.aload_n 0, 1) := by decide +kernel
theorem dX6_orderItems_31 : decode cX6_orderItems 31 = .ok (.iload_n 2, 1) := by decide +kernel
theorem dX6_orderItems_32 : decode cX6_orderItems 32 = .ok (.invokevirtual 65, 3) := by decide +kernel
theorem dX6_orderItems_35 : decode cX6_orderItems 35 = .ok (.iinc 2 1, 3) := by decide +kernel
theorem dX6_orderItems_38 : decode cX6_orderItems 38 = .ok (.goto (-31), 3) := by decide +kernel
theorem dX6_orderItems_41 : decode cX6_orderItems 41 = .ok (.iconst 0, 1) := by decide +kernel
theorem dX6_orderItems_42 : decode cX6_orderItems 42 = .ok (.istore_n 2, 1) := by decide +kernel
theorem dX6_orderItems_43 : decode cX6_orderItems 43 = .ok (.iload_n 2, 1) := by decide +kernel
theorem dX6_orderItems_44 : decode cX6_orderItems 44 = .ok (.aload_n 0, 1) := by decide +kernel
theorem dX6_orderItems_45 : decode cX6_orderItems 45 = .ok (.getfield 21, 3) := by decide +kernel
theorem dX6_orderItems_48 : decode cX6_orderItems 48 = .ok (.if_icmp .ge 77, 3) := by decide +kernel
theorem dX6_orderItems_51 : decode cX6_orderItems 51 = .ok (.iload_n 2, 1) := by decide +kernel
theorem dX6_orderItems_52 : decode cX6_orderItems 52 = .ok (.bipush 61, 2) := by decide +kernel
theorem dX6_orderItems_54 : decode cX6_orderItems 54 = .ok (.if_icmp .ge 71, 3) := by decide +kernel
theorem dX6_orderItems_57 : decode cX6_orderItems 57 = .ok (.aload_n 0, 1) := by decide +kernel
theorem dX6_orderItems_58 : decode cX6_orderItems 58 = .ok (.getfield 18, 3) := by decide +kernel
theorem dX6_orderItems_61 : decode cX6_orderItems 61 = .ok (.iload_n 2, 1) := by decide +kernel
theorem dX6_orderItems_62 : decode cX6_orderItems 62 = .ok (.iaload, 1) := by decide +kernel
theorem dX6_orderItems_63 : decode cX6_orderItems 63 = .ok (.istore_n 3, 1) := by decide +kernel
theorem dX6_orderItems_64 : decode cX6_orderItems 64 = .ok (.iconst 0, 1) := by decide +kernel
theorem dX6_orderItems_65 : decode cX6_orderItems 65 = .ok (.istore 4, 2) := by decide +kernel
theorem dX6_orderItems_67 : decode cX6_orderItems 67 = .ok (.iload 4, 2) := by decide +kernel
theorem dX6_orderItems_69 : decode cX6_orderItems 69 = .ok (.aload_n 1, 1) := by decide +kernel
theorem dX6_orderItems_70 : decode cX6_orderItems 70 = .ok (.iload_n 3, 1) := by decide +kernel
theorem dX6_orderItems_71 : decode cX6_orderItems 71 = .ok (.invokevirtual 57, 3) := by decide +kernel
theorem dX6_orderItems_74 : decode cX6_orderItems 74 = .ok (.if_icmp .ge 45, 3) := by decide +kernel
theorem dX6_orderItems_77 : decode cX6_orderItems 77 = .ok (.aload_n 1, 1) := by decide +kernel
theorem dX6_orderItems_78 : decode cX6_orderItems 78 = .ok (.iload_n 3, 1) := by decide +kernel
theorem dX6_orderItems_79 : decode cX6_orderItems 79 = .ok (.iload 4, 2) := by decide +kernel
theorem dX6_orderItems_81 : decode cX6_orderItems 81 = .ok (.invokevirtual 61, 3) := by decide +kernel
theorem dX6_orderItems_84 : decode cX6_orderItems 84 = .ok (.istore 5, 2) := by decide +kernel
theorem dX6_orderItems_86 : decode cX6_orderItems 86 = .ok (.aload_n 0, 1) := by decide +kernel
theorem dX6_orderItems_87 : decode cX6_orderItems 87 = .ok (.getfield 15, 3) := by decide +kernel
theorem dX6_orderItems_90 : decode cX6_orderItems 90 = .ok (.iload 5, 2) := by decide +kernel
theorem dX6_orderItems_92 : decode cX6_orderItems 92 = .ok (.dup2, 1) := by decide +kernel
theorem dX6_orderItems_93 : decode cX6_orderItems 93 = .ok (.iaload, 1) := by decide +kernel
theorem dX6_orderItems_94 : decode cX6_orderItems 94 = .ok (.iconst 1, 1) := by decide +kernel
theorem dX6_orderItems_95 : decode cX6_orderItems 95 = .ok (.isub, 1) := by decide +kernel
theorem dX6_orderItems_96 : decode cX6_orderItems 96 = .ok (.iastore, 1) := by decide +kernel
theorem dX6_orderItems_97 : decode cX6_orderItems 97 = .ok (.aload_n 0, 1) := by decide +kernel
theorem dX6_orderItems_98 : decode cX6_orderItems 98 = .ok (.getfield 15, 3) := by decide +kernel
theorem dX6_orderItems_101 : decode cX6_orderItems 101 = .ok (.iload 5, 2) := by decide +kernel
theorem dX6_orderItems_103 : decode cX6_orderItems 103 = .ok (.iaload, 1) := by decide +kernel
theorem dX6_orderItems_104 : decode cX6_orderItems 104 = .ok (.ifCond .ne 9, 3) := by decide +kernel
theorem dX6_orderItems_107 : decode cX6_orderItems 107 = .ok (.aload_n 0, 1) := by decide +kernel
theorem dX6_orderItems_108 : decode cX6_orderItems 108 = .ok (.iload 5, 2) := by decide +kernel
theorem dX6_orderItems_110 : decode cX6_orderItems 110 = .ok (.invokevirtual 65, 3) := by decide +kernel
theorem dX6_orderItems_113 : decode cX6_orderItems 113 = .ok (.iinc 4 1, 3) := by decide +kernel
theorem dX6_orderItems_116 : decode cX6_orderItems 116 = .ok (.goto (-49), 3) := by decide +kernel
theorem dX6_orderItems_119 : decode cX6_orderItems 119 = .ok (.iinc 2 1, 3) := by decide +kernel
theorem dX6_orderItems_122 : decode cX6_orderItems 122 = .ok (.goto (-79), 3) := by decide +kernel
theorem dX6_orderItems_125 : decode cX6_orderItems 125 = .ok (.return_, 1) := by decide +kernel
theorem dX6_putInOrder_0 : decode cX6_putInOrder 0 = .ok (.aload_n 0, 1) := by decide +kernel
theorem dX6_putInOrder_1 : decode cX6_putInOrder 1 = .ok (.getfield 21, 3) := by decide +kernel
theorem dX6_putInOrder_4 : decode cX6_putInOrder 4 = .ok (.bipush 61, 2) := by decide +kernel
theorem dX6_putInOrder_6 : decode cX6_putInOrder 6 = .ok (.if_icmp .ge 23, 3) := by decide +kernel
theorem dX6_putInOrder_9 : decode cX6_putInOrder 9 = .ok (.aload_n 0, 1) := by decide +kernel
theorem dX6_putInOrder_10 : decode cX6_putInOrder 10 = .ok (.getfield 18, 3) := by decide +kernel
theorem dX6_putInOrder_13 : decode cX6_putInOrder 13 = .ok (.aload_n 0, 1) := by decide +kernel
theorem dX6_putInOrder_14 : decode cX6_putInOrder 14 = .ok (.getfield 21, 3) := by decide +kernel
theorem dX6_putInOrder_17 : decode cX6_putInOrder 17 = .ok (.iload_n 1, 1) := by decide +kernel
theorem dX6_putInOrder_18 : decode cX6_putInOrder 18 = .ok (.iastore, 1) := by decide +kernel
theorem dX6_putInOrder_19 : decode cX6_putInOrder 19 = .ok (.aload_n 0, 1) := by decide +kernel
theorem dX6_putInOrder_20 : decode cX6_putInOrder 20 = .ok (.dup, 1) := by decide +kernel
theorem dX6_putInOrder_21 : decode cX6_putInOrder 21 = .ok (.getfield 21, 3) := by decide +kernel
theorem dX6_putInOrder_24 : decode cX6_putInOrder 24 = .ok (.iconst 1, 1) := by decide +kernel
theorem dX6_putInOrder_25 : decode cX6_putInOrder 25 = .ok (.iadd, 1) := by decide +kernel
theorem dX6_putInOrder_26 : decode cX6_putInOrder 26 = .ok (.putfield 21, 3) := by decide +kernel
theorem dX6_putInOrder_29 : decode cX6_putInOrder 29 = .ok (.return_, 1) := by decide +kernel
theorem dX6_measureDownwards_0 : decode cX6_measureDownwards 0 = .ok (.iconst 0, 1) := by decide +kernel
theorem dX6_measureDownwards_1 : decode cX6_measureDownwards 1 = .ok (.istore_n 2, 1) := by decide +kernel
theorem dX6_measureDownwards_2 : decode cX6_measureDownwards 2 = .ok (.iload_n 2, 1) := by decide +kernel
theorem dX6_measureDownwards_3 : decode cX6_measureDownwards 3 = .ok (.bipush 61, 2) := by decide +kernel
theorem dX6_measureDownwards_5 : decode cX6_measureDownwards 5 = .ok (.if_icmp .ge 31, 3) := by decide +kernel
theorem dX6_measureDownwards_8 : decode cX6_measureDownwards 8 = .ok (.aload_n 0, 1) := by decide +kernel
theorem dX6_measureDownwards_9 : decode cX6_measureDownwards 9 = .ok (.getfield 25, 3) := by decide +kernel
theorem dX6_measureDownwards_12 : decode cX6_measureDownwards 12 = .ok (.iload_n 2, 1) := by decide +kernel
theorem dX6_measureDownwards_13 : decode cX6_measureDownwards 13 = .ok (.iload_n 2, 1) := by decide +kernel
theorem dX6_measureDownwards_14 : decode cX6_measureDownwards 14 = .ok (.ifCond .ne 7, 3) := by decide +kernel
theorem dX6_measureDownwards_17 : decode cX6_measureDownwards 17 = .ok (.iconst 1, 1) := by decide +kernel
theorem dX6_measureDownwards_18 : decode cX6_measureDownwards 18 = .ok (.goto 4, 3) := by decide +kernel
theorem dX6_measureDownwards_21 : decode cX6_measureDownwards 21 = .ok (.iconst 0, 1) := by decide +kernel
theorem dX6_measureDownwards_22 : decode cX6_measureDownwards 22 = .ok (.iastore, 1) := by decide +kernel
theorem dX6_measureDownwards_23 : decode cX6_measureDownwards 23 = .ok (.aload_n 0, 1) := by decide +kernel
theorem dX6_measureDownwards_24 : decode cX6_measureDownwards 24 = .ok (.getfield 28, 3) := by decide +kernel
theorem dX6_measureDownwards_27 : decode cX6_measureDownwards 27 = .ok (.iload_n 2, 1) := by decide +kernel
theorem dX6_measureDownwards_28 : decode cX6_measureDownwards 28 = .ok (.iconst 0, 1) := by decide +kernel
theorem dX6_measureDownwards_29 : decode cX6_measureDownwards 29 = .ok (.iastore, 1) := by decide +kernel
theorem dX6_measureDownwards_30 : decode cX6_measureDownwards 30 = .ok (.iinc 2 1, 3) := by decide +kernel
theorem dX6_measureDownwards_33 : decode cX6_measureDownwards 33 = .ok (.goto (-31), 3) := by decide +kernel
theorem dX6_measureDownwards_36 : decode cX6_measureDownwards 36 = .ok (.iconst 0, 1) := by decide +kernel
theorem dX6_measureDownwards_37 : decode cX6_measureDownwards 37 = .ok (.istore_n 2, 1) := by decide +kernel
theorem dX6_measureDownwards_38 : decode cX6_measureDownwards 38 = .ok (.iload_n 2, 1) := by decide +kernel
theorem dX6_measureDownwards_39 : decode cX6_measureDownwards 39 = .ok (.aload_n 0, 1) := by decide +kernel
theorem dX6_measureDownwards_40 : decode cX6_measureDownwards 40 = .ok (.getfield 21, 3) := by decide +kernel
theorem dX6_measureDownwards_43 : decode cX6_measureDownwards 43 = .ok (.if_icmp .ge 85, 3) := by decide +kernel
theorem dX6_measureDownwards_46 : decode cX6_measureDownwards 46 = .ok (.aload_n 0, 1) := by decide +kernel
theorem dX6_measureDownwards_47 : decode cX6_measureDownwards 47 = .ok (.getfield 18, 3) := by decide +kernel
theorem dX6_measureDownwards_50 : decode cX6_measureDownwards 50 = .ok (.iload_n 2, 1) := by decide +kernel
