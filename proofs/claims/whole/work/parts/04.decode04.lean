theorem dX10_in_2 : decode cX10_in 2 = .ok (.if_icmp .lt 12, 3) := by decide +kernel
theorem dX10_in_5 : decode cX10_in 5 = .ok (.iload_n 0, 1) := by decide +kernel
theorem dX10_in_6 : decode cX10_in 6 = .ok (.iload_n 2, 1) := by decide +kernel
theorem dX10_in_7 : decode cX10_in 7 = .ok (.if_icmp .gt 7, 3) := by decide +kernel
theorem dX10_in_10 : decode cX10_in 10 = .ok (.iconst 1, 1) := by decide +kernel
theorem dX10_in_11 : decode cX10_in 11 = .ok (.goto 4, 3) := by decide +kernel
theorem dX10_in_14 : decode cX10_in 14 = .ok (.iconst 0, 1) := by decide +kernel
theorem dX10_in_15 : decode cX10_in 15 = .ok (.ireturn, 1) := by decide +kernel
theorem dX10_empties_0 : decode cX10_empties 0 = .ok (.iconst 0, 1) := by decide +kernel
theorem dX10_empties_1 : decode cX10_empties 1 = .ok (.istore_n 1, 1) := by decide +kernel
theorem dX10_empties_2 : decode cX10_empties 2 = .ok (.iload_n 1, 1) := by decide +kernel
theorem dX10_empties_3 : decode cX10_empties 3 = .ok (.sipush 1709, 3) := by decide +kernel
theorem dX10_empties_6 : decode cX10_empties 6 = .ok (.if_icmp .ge 16, 3) := by decide +kernel
theorem dX10_empties_9 : decode cX10_empties 9 = .ok (.aload_n 0, 1) := by decide +kernel
theorem dX10_empties_10 : decode cX10_empties 10 = .ok (.getfield 7, 3) := by decide +kernel
theorem dX10_empties_13 : decode cX10_empties 13 = .ok (.iload_n 1, 1) := by decide +kernel
theorem dX10_empties_14 : decode cX10_empties 14 = .ok (.iconst 0, 1) := by decide +kernel
theorem dX10_empties_15 : decode cX10_empties 15 = .ok (.iastore, 1) := by decide +kernel
theorem dX10_empties_16 : decode cX10_empties 16 = .ok (.iinc 1 1, 3) := by decide +kernel
theorem dX10_empties_19 : decode cX10_empties 19 = .ok (.goto (-17), 3) := by decide +kernel
theorem dX10_empties_22 : decode cX10_empties 22 = .ok (.aload_n 0, 1) := by decide +kernel
theorem dX10_empties_23 : decode cX10_empties 23 = .ok (.getfield 7, 3) := by decide +kernel
theorem dX10_empties_26 : decode cX10_empties 26 = .ok (.iconst 1, 1) := by decide +kernel
theorem dX10_empties_27 : decode cX10_empties 27 = .ok (.iconst 1, 1) := by decide +kernel
theorem dX10_empties_28 : decode cX10_empties 28 = .ok (.iastore, 1) := by decide +kernel
theorem dX10_empties_29 : decode cX10_empties 29 = .ok (.aload_n 0, 1) := by decide +kernel
theorem dX10_empties_30 : decode cX10_empties 30 = .ok (.getfield 7, 3) := by decide +kernel
theorem dX10_empties_33 : decode cX10_empties 33 = .ok (.bipush 123, 2) := by decide +kernel
theorem dX10_empties_35 : decode cX10_empties 35 = .ok (.iconst (-1), 1) := by decide +kernel
theorem dX10_empties_36 : decode cX10_empties 36 = .ok (.iastore, 1) := by decide +kernel
theorem dX10_empties_37 : decode cX10_empties 37 = .ok (.return_, 1) := by decide +kernel
theorem dX10_isItem_0 : decode cX10_isItem 0 = .ok (.iload_n 1, 1) := by decide +kernel
theorem dX10_isItem_1 : decode cX10_isItem 1 = .ok (.iconst 0, 1) := by decide +kernel
theorem dX10_isItem_2 : decode cX10_isItem 2 = .ok (.bipush 60, 2) := by decide +kernel
theorem dX10_isItem_4 : decode cX10_isItem 4 = .ok (.invokestatic 142, 3) := by decide +kernel
theorem dX10_isItem_7 : decode cX10_isItem 7 = .ok (.ifCond .eq 19, 3) := by decide +kernel
theorem dX10_isItem_10 : decode cX10_isItem 10 = .ok (.aload_n 0, 1) := by decide +kernel
theorem dX10_isItem_11 : decode cX10_isItem 11 = .ok (.getfield 7, 3) := by decide +kernel
theorem dX10_isItem_14 : decode cX10_isItem 14 = .ok (.iconst 1, 1) := by decide +kernel
theorem dX10_isItem_15 : decode cX10_isItem 15 = .ok (.iload_n 1, 1) := by decide +kernel
theorem dX10_isItem_16 : decode cX10_isItem 16 = .ok (.iadd, 1) := by decide +kernel
theorem dX10_isItem_17 : decode cX10_isItem 17 = .ok (.iaload, 1) := by decide +kernel
theorem dX10_isItem_18 : decode cX10_isItem 18 = .ok (.iconst 1, 1) := by decide +kernel
theorem dX10_isItem_19 : decode cX10_isItem 19 = .ok (.if_icmp .ne 7, 3) := by decide +kernel
theorem dX10_isItem_22 : decode cX10_isItem 22 = .ok (.iconst 1, 1) := by decide +kernel
theorem dX10_isItem_23 : decode cX10_isItem 23 = .ok (.goto 4, 3) := by decide +kernel
theorem dX10_isItem_26 : decode cX10_isItem 26 = .ok (.iconst 0, 1) := by decide +kernel
theorem dX10_isItem_27 : decode cX10_isItem 27 = .ok (.ireturn, 1) := by decide +kernel
theorem dX10_isOther_0 : decode cX10_isOther 0 = .ok (.iload_n 1, 1) := by decide +kernel
theorem dX10_isOther_1 : decode cX10_isOther 1 = .ok (.ifCond .eq 15, 3) := by decide +kernel
theorem dX10_isOther_4 : decode cX10_isOther 4 = .ok (.aload_n 0, 1) := by decide +kernel
theorem dX10_isOther_5 : decode cX10_isOther 5 = .ok (.iload_n 1, 1) := by decide +kernel
theorem dX10_isOther_6 : decode cX10_isOther 6 = .ok (.invokevirtual 146, 3) := by decide +kernel
theorem dX10_isOther_9 : decode cX10_isOther 9 = .ok (.ifCond .eq 7, 3) := by decide +kernel
theorem dX10_isOther_12 : decode cX10_isOther 12 = .ok (.iconst 1, 1) := by decide +kernel
theorem dX10_isOther_13 : decode cX10_isOther 13 = .ok (.goto 4, 3) := by decide +kernel
theorem dX10_isOther_16 : decode cX10_isOther 16 = .ok (.iconst 0, 1) := by decide +kernel
theorem dX10_isOther_17 : decode cX10_isOther 17 = .ok (.ireturn, 1) := by decide +kernel
theorem dX10_child_0 : decode cX10_child 0 = .ok (.aload_n 0, 1) := by decide +kernel
theorem dX10_child_1 : decode cX10_child 1 = .ok (.getfield 7, 3) := by decide +kernel
theorem dX10_child_4 : decode cX10_child 4 = .ok (.sipush 977, 3) := by decide +kernel
theorem dX10_child_7 : decode cX10_child 7 = .ok (.bipush 12, 2) := by decide +kernel
theorem dX10_child_9 : decode cX10_child 9 = .ok (.iload_n 1, 1) := by decide +kernel
theorem dX10_child_10 : decode cX10_child 10 = .ok (.imul, 1) := by decide +kernel
theorem dX10_child_11 : decode cX10_child 11 = .ok (.iadd, 1) := by decide +kernel
theorem dX10_child_12 : decode cX10_child 12 = .ok (.iload_n 2, 1) := by decide +kernel
theorem dX10_child_13 : decode cX10_child 13 = .ok (.iadd, 1) := by decide +kernel
theorem dX10_child_14 : decode cX10_child 14 = .ok (.iaload, 1) := by decide +kernel
theorem dX10_child_15 : decode cX10_child 15 = .ok (.ireturn, 1) := by decide +kernel
theorem dX10_has_0 : decode cX10_has 0 = .ok (.aload_n 0, 1) := by decide +kernel
theorem dX10_has_1 : decode cX10_has 1 = .ok (.getfield 7, 3) := by decide +kernel
theorem dX10_has_4 : decode cX10_has 4 = .ok (.sipush 184, 3) := by decide +kernel
theorem dX10_has_7 : decode cX10_has 7 = .ok (.iload_n 1, 1) := by decide +kernel
theorem dX10_has_8 : decode cX10_has 8 = .ok (.iadd, 1) := by decide +kernel
theorem dX10_has_9 : decode cX10_has 9 = .ok (.iaload, 1) := by decide +kernel
theorem dX10_has_10 : decode cX10_has 10 = .ok (.iload_n 2, 1) := by decide +kernel
theorem dX10_has_11 : decode cX10_has 11 = .ok (.ishr, 1) := by decide +kernel
theorem dX10_has_12 : decode cX10_has 12 = .ok (.iconst 1, 1) := by decide +kernel
theorem dX10_has_13 : decode cX10_has 13 = .ok (.iand, 1) := by decide +kernel
theorem dX10_has_14 : decode cX10_has 14 = .ok (.iconst 1, 1) := by decide +kernel
theorem dX10_has_15 : decode cX10_has 15 = .ok (.if_icmp .ne 7, 3) := by decide +kernel
theorem dX10_has_18 : decode cX10_has 18 = .ok (.iconst 1, 1) := by decide +kernel
theorem dX10_has_19 : decode cX10_has 19 = .ok (.goto 4, 3) := by decide +kernel
theorem dX10_has_22 : decode cX10_has 22 = .ok (.iconst 0, 1) := by decide +kernel
theorem dX10_has_23 : decode cX10_has 23 = .ok (.ireturn, 1) := by decide +kernel
theorem dX10_indexOf_0 : decode cX10_indexOf 0 = .ok (.iconst 0, 1) := by decide +kernel
theorem dX10_indexOf_1 : decode cX10_indexOf 1 = .ok (.istore_n 3, 1) := by decide +kernel
theorem dX10_indexOf_2 : decode cX10_indexOf 2 = .ok (.iload_n 3, 1) := by decide +kernel
theorem dX10_indexOf_3 : decode cX10_indexOf 3 = .ok (.aload_n 0, 1) := by decide +kernel
theorem dX10_indexOf_4 : decode cX10_indexOf 4 = .ok (.getfield 7, 3) := by decide +kernel
theorem dX10_indexOf_7 : decode cX10_indexOf 7 = .ok (.sipush 916, 3) := by decide +kernel
theorem dX10_indexOf_10 : decode cX10_indexOf 10 = .ok (.iload_n 1, 1) := by decide +kernel
theorem dX10_indexOf_11 : decode cX10_indexOf 11 = .ok (.iadd, 1) := by decide +kernel
theorem dX10_indexOf_12 : decode cX10_indexOf 12 = .ok (.iaload, 1) := by decide +kernel
theorem dX10_indexOf_13 : decode cX10_indexOf 13 = .ok (.if_icmp .ge 21, 3) := by decide +kernel
theorem dX10_indexOf_16 : decode cX10_indexOf 16 = .ok (.aload_n 0, 1) := by decide +kernel
theorem dX10_indexOf_17 : decode cX10_indexOf 17 = .ok (.iload_n 1, 1) := by decide +kernel
theorem dX10_indexOf_18 : decode cX10_indexOf 18 = .ok (.iload_n 3, 1) := by decide +kernel
theorem dX10_indexOf_19 : decode cX10_indexOf 19 = .ok (.invokevirtual 150, 3) := by decide +kernel
theorem dX10_indexOf_22 : decode cX10_indexOf 22 = .ok (.iload_n 2, 1) := by decide +kernel
theorem dX10_indexOf_23 : decode cX10_indexOf 23 = .ok (.if_icmp .ne 5, 3) := by decide +kernel
theorem dX10_indexOf_26 : decode cX10_indexOf 26 = .ok (.iload_n 3, 1) := by decide +kernel
theorem dX10_indexOf_27 : decode cX10_indexOf 27 = .ok (.ireturn, 1) := by decide +kernel
theorem dX10_indexOf_28 : decode cX10_indexOf 28 = .ok (.iinc 3 1, 3) := by decide +kernel
theorem dX10_indexOf_31 : decode cX10_indexOf 31 = .ok (.goto (-29), 3) := by decide +kernel
theorem dX10_indexOf_34 : decode cX10_indexOf 34 = .ok (.iconst (-1), 1) := by decide +kernel
theorem dX10_indexOf_35 : decode cX10_indexOf 35 = .ok (.ireturn, 1) := by decide +kernel
theorem dX10_remembers_0 : decode cX10_remembers 0 = .ok (.iconst 0, 1) := by decide +kernel
theorem dX10_remembers_1 : decode cX10_remembers 1 = .ok (.istore_n 1, 1) := by decide +kernel
theorem dX10_remembers_2 : decode cX10_remembers 2 = .ok (.iload_n 1, 1) := by decide +kernel
theorem dX10_remembers_3 : decode cX10_remembers 3 = .ok (.sipush 1709, 3) := by decide +kernel
theorem dX10_remembers_6 : decode cX10_remembers 6 = .ok (.if_icmp .ge 21, 3) := by decide +kernel
theorem dX10_remembers_9 : decode cX10_remembers 9 = .ok (.aload_n 0, 1) := by decide +kernel
theorem dX10_remembers_10 : decode cX10_remembers 10 = .ok (.getfield 16, 3) := by decide +kernel
theorem dX10_remembers_13 : decode cX10_remembers 13 = .ok (.iload_n 1, 1) := by decide +kernel
theorem dX10_remembers_14 : decode cX10_remembers 14 = .ok (.aload_n 0, 1) := by decide +kernel
theorem dX10_remembers_15 : decode cX10_remembers 15 = .ok (.getfield 7, 3) := by decide +kernel
theorem dX10_remembers_18 : decode cX10_remembers 18 = .ok (.iload_n 1, 1) := by decide +kernel
theorem dX10_remembers_19 : decode cX10_remembers 19 = .ok (.iaload, 1) := by decide +kernel
theorem dX10_remembers_20 : decode cX10_remembers 20 = .ok (.iastore, 1) := by decide +kernel
theorem dX10_remembers_21 : decode cX10_remembers 21 = .ok (.iinc 1 1, 3) := by decide +kernel
theorem dX10_remembers_24 : decode cX10_remembers 24 = .ok (.goto (-22), 3) := by decide +kernel
theorem dX10_remembers_27 : decode cX10_remembers 27 = .ok (.return_, 1) := by decide +kernel
theorem dX10_takesBack_0 : decode cX10_takesBack 0 = .ok (.iconst 0, 1) := by decide +kernel
theorem dX10_takesBack_1 : decode cX10_takesBack 1 = .ok (.istore_n 1, 1) := by decide +kernel
theorem dX10_takesBack_2 : decode cX10_takesBack 2 = .ok (.iload_n 1, 1) := by decide +kernel
theorem dX10_takesBack_3 : decode cX10_takesBack 3 = .ok (.sipush 1709, 3) := by decide +kernel
theorem dX10_takesBack_6 : decode cX10_takesBack 6 = .ok (.if_icmp .ge 21, 3) := by decide +kernel
theorem dX10_takesBack_9 : decode cX10_takesBack 9 = .ok (.aload_n 0, 1) := by decide +kernel
theorem dX10_takesBack_10 : decode cX10_takesBack 10 = .ok (.getfield 7, 3) := by decide +kernel
theorem dX10_takesBack_13 : decode cX10_takesBack 13 = .ok (.iload_n 1, 1) := by decide +kernel
theorem dX10_takesBack_14 : decode cX10_takesBack 14 = .ok (.aload_n 0, 1) := by decide +kernel
theorem dX10_takesBack_15 : decode cX10_takesBack 15 = .ok (.getfield 16, 3) := by decide +kernel
theorem dX10_takesBack_18 : decode cX10_takesBack 18 = .ok (.iload_n 1, 1) := by decide +kernel
theorem dX10_takesBack_19 : decode cX10_takesBack 19 = .ok (.iaload, 1) := by decide +kernel
theorem dX10_takesBack_20 : decode cX10_takesBack 20 = .ok (.iastore, 1) := by decide +kernel
theorem dX10_takesBack_21 : decode cX10_takesBack 21 = .ok (.iinc 1 1, 3) := by decide +kernel
theorem dX10_takesBack_24 : decode cX10_takesBack 24 = .ok (.goto (-22), 3) := by decide +kernel
theorem dX10_takesBack_27 : decode cX10_takesBack 27 = .ok (.return_, 1) := by decide +kernel
theorem dX10_checksHoists_0 : decode cX10_checksHoists 0 = .ok (.iconst 1, 1) := by decide +kernel
theorem dX10_checksHoists_1 : decode cX10_checksHoists 1 = .ok (.istore_n 1, 1) := by decide +kernel
theorem dX10_checksHoists_2 : decode cX10_checksHoists 2 = .ok (.iconst 0, 1) := by decide +kernel
theorem dX10_checksHoists_3 : decode cX10_checksHoists 3 = .ok (.istore_n 2, 1) := by decide +kernel
theorem dX10_checksHoists_4 : decode cX10_checksHoists 4 = .ok (.iload_n 2, 1) := by decide +kernel
theorem dX10_checksHoists_5 : decode cX10_checksHoists 5 = .ok (.aload_n 0, 1) := by decide +kernel
theorem dX10_checksHoists_6 : decode cX10_checksHoists 6 = .ok (.getfield 154, 3) := by decide +kernel
theorem dX10_checksHoists_9 : decode cX10_checksHoists 9 = .ok (.if_icmp .ge 32, 3) := by decide +kernel
theorem dX10_checksHoists_12 : decode cX10_checksHoists 12 = .ok (.iload_n 1, 1) := by decide +kernel
theorem dX10_checksHoists_13 : decode cX10_checksHoists 13 = .ok (.ifCond .eq 20, 3) := by decide +kernel
theorem dX10_checksHoists_16 : decode cX10_checksHoists 16 = .ok (.aload_n 0, 1) := by decide +kernel
theorem dX10_checksHoists_17 : decode cX10_checksHoists 17 = .ok (.aload_n 0, 1) := by decide +kernel
theorem dX10_checksHoists_18 : decode cX10_checksHoists 18 = .ok (.getfield 22, 3) := by decide +kernel
theorem dX10_checksHoists_21 : decode cX10_checksHoists 21 = .ok (.iload_n 2, 1) := by decide +kernel
theorem dX10_checksHoists_22 : decode cX10_checksHoists 22 = .ok (.iaload, 1) := by decide +kernel
theorem dX10_checksHoists_23 : decode cX10_checksHoists 23 = .ok (.invokevirtual 146, 3) := by decide +kernel
theorem dX10_checksHoists_26 : decode cX10_checksHoists 26 = .ok (.ifCond .eq 7, 3) := by decide +kernel
theorem dX10_checksHoists_29 : decode cX10_checksHoists 29 = .ok (.iconst 1, 1) := by decide +kernel
theorem dX10_checksHoists_30 : decode cX10_checksHoists 30 = .ok (.goto 4, 3) := by decide +kernel
theorem dX10_checksHoists_33 : decode cX10_checksHoists 33 = .ok (.iconst 0, 1) := by decide +kernel
theorem dX10_checksHoists_34 : decode cX10_checksHoists 34 = .ok (.istore_n 1, 1) := by decide +kernel
theorem dX10_checksHoists_35 : decode cX10_checksHoists 35 = .ok (.iinc 2 1, 3) := by decide +kernel
theorem dX10_checksHoists_38 : decode cX10_checksHoists 38 = .ok (.goto (-34), 3) := by decide +kernel
theorem dX10_checksHoists_41 : decode cX10_checksHoists 41 = .ok (.aload_n 0, 1) := by decide +kernel
theorem dX10_checksHoists_42 : decode cX10_checksHoists 42 = .ok (.iload_n 1, 1) := by decide +kernel
theorem dX10_checksHoists_43 : decode cX10_checksHoists 43 = .ok (.ifCond .eq 10, 3) := by decide +kernel
theorem dX10_checksHoists_46 : decode cX10_checksHoists 46 = .ok (.aload_n 0, 1) := by decide +kernel
theorem dX10_checksHoists_47 : decode cX10_checksHoists 47 = .ok (.getfield 154, 3) := by decide +kernel
theorem dX10_checksHoists_50 : decode cX10_checksHoists 50 = .ok (.goto 4, 3) := by decide +kernel
theorem dX10_checksHoists_53 : decode cX10_checksHoists 53 = .ok (.iconst 0, 1) := by decide +kernel
theorem dX10_checksHoists_54 : decode cX10_checksHoists 54 = .ok (.putfield 154, 3) := by decide +kernel
theorem dX10_checksHoists_57 : decode cX10_checksHoists 57 = .ok (.return_, 1) := by decide +kernel
theorem dX10_keeps_0 : decode cX10_keeps 0 = .ok (.aload_n 0, 1) := by decide +kernel
theorem dX10_keeps_1 : decode cX10_keeps 1 = .ok (.getfield 157, 3) := by decide +kernel
theorem dX10_keeps_4 : decode cX10_keeps 4 = .ok (.bipush 8, 2) := by decide +kernel
theorem dX10_keeps_6 : decode cX10_keeps 6 = .ok (.if_icmp .ne 37, 3) := by decide +kernel
theorem dX10_keeps_9 : decode cX10_keeps 9 = .ok (.iconst 0, 1) := by decide +kernel
theorem dX10_keeps_10 : decode cX10_keeps 10 = .ok (.istore_n 1, 1) := by decide +kernel
theorem dX10_keeps_11 : decode cX10_keeps 11 = .ok (.iload_n 1, 1) := by decide +kernel
theorem dX10_keeps_12 : decode cX10_keeps 12 = .ok (.sipush 11963, 3) := by decide +kernel
theorem dX10_keeps_15 : decode cX10_keeps 15 = .ok (.if_icmp .ge 25, 3) := by decide +kernel
theorem dX10_keeps_18 : decode cX10_keeps 18 = .ok (.aload_n 0, 1) := by decide +kernel
theorem dX10_keeps_19 : decode cX10_keeps 19 = .ok (.getfield 19, 3) := by decide +kernel
theorem dX10_keeps_22 : decode cX10_keeps 22 = .ok (.iload_n 1, 1) := by decide +kernel
theorem dX10_keeps_23 : decode cX10_keeps 23 = .ok (.aload_n 0, 1) := by decide +kernel
theorem dX10_keeps_24 : decode cX10_keeps 24 = .ok (.getfield 19, 3) := by decide +kernel
theorem dX10_keeps_27 : decode cX10_keeps 27 = .ok (.iload_n 1, 1) := by decide +kernel
theorem dX10_keeps_28 : decode cX10_keeps 28 = .ok (.sipush 1709, 3) := by decide +kernel
theorem dX10_keeps_31 : decode cX10_keeps 31 = .ok (.iadd, 1) := by decide +kernel
theorem dX10_keeps_32 : decode cX10_keeps 32 = .ok (.iaload, 1) := by decide +kernel
theorem dX10_keeps_33 : decode cX10_keeps 33 = .ok (.iastore, 1) := by decide +kernel
theorem dX10_keeps_34 : decode cX10_keeps 34 = .ok (.iinc 1 1, 3) := by decide +kernel
theorem dX10_keeps_37 : decode cX10_keeps 37 = .ok (.goto (-26), 3) := by decide +kernel
theorem dX10_keeps_40 : decode cX10_keeps 40 = .ok (.goto 13, 3) := by decide +kernel
theorem dX10_keeps_43 : decode cX10_keeps 43 = .ok (.aload_n 0, 1) := by decide +kernel
theorem dX10_keeps_44 : decode cX10_keeps 44 = .ok (.dup, 1) := by decide +kernel
theorem dX10_keeps_45 : decode cX10_keeps 45 = .ok (.getfield 157, 3) := by decide +kernel
theorem dX10_keeps_48 : decode cX10_keeps 48 = .ok (.iconst 1, 1) := by decide +kernel
theorem dX10_keeps_49 : decode cX10_keeps 49 = .ok (.iadd, 1) := by decide +kernel
theorem dX10_keeps_50 : decode cX10_keeps 50 = .ok (.putfield 157, 3) := by decide +kernel
theorem dX10_keeps_53 : decode cX10_keeps 53 = .ok (.iconst 0, 1) := by decide +kernel
theorem dX10_keeps_54 : decode cX10_keeps 54 = .ok (.istore_n 1, 1) := by decide +kernel
theorem dX10_keeps_55 : decode cX10_keeps 55 = .ok (.iload_n 1, 1) := by decide +kernel
theorem dX10_keeps_56 : decode cX10_keeps 56 = .ok (.sipush 1709, 3) := by decide +kernel
theorem dX10_keeps_59 : decode cX10_keeps 59 = .ok (.if_icmp .ge 32, 3) := by decide +kernel
theorem dX10_keeps_62 : decode cX10_keeps 62 = .ok (.aload_n 0, 1) := by decide +kernel
theorem dX10_keeps_63 : decode cX10_keeps 63 = .ok (.getfield 19, 3) := by decide +kernel
theorem dX10_keeps_66 : decode cX10_keeps 66 = .ok (.sipush 1709, 3) := by decide +kernel
theorem dX10_keeps_69 : decode cX10_keeps 69 = .ok (.aload_n 0, 1) := by decide +kernel
theorem dX10_keeps_70 : decode cX10_keeps 70 = .ok (.getfield 157, 3) := by decide +kernel
theorem dX10_keeps_73 : decode cX10_keeps 73 = .ok (.iconst 1, 1) := by decide +kernel
theorem dX10_keeps_74 : decode cX10_keeps 74 = .ok (.isub, 1) := by decide +kernel
theorem dX10_keeps_75 : decode cX10_keeps 75 = .ok (.imul, 1) := by decide +kernel
theorem dX10_keeps_76 : decode cX10_keeps 76 = .ok (.iload_n 1, 1) := by decide +kernel
theorem dX10_keeps_77 : decode cX10_keeps 77 = .ok (.iadd, 1) := by decide +kernel
theorem dX10_keeps_78 : decode cX10_keeps 78 = .ok (.aload_n 0, 1) := by decide +kernel
theorem dX10_keeps_79 : decode cX10_keeps 79 = .ok (.getfield 16, 3) := by decide +kernel
theorem dX10_keeps_82 : decode cX10_keeps 82 = .ok (.iload_n 1, 1) := by decide +kernel
theorem dX10_keeps_83 : decode cX10_keeps 83 = .ok (.iaload, 1) := by decide +kernel
theorem dX10_keeps_84 : decode cX10_keeps 84 = .ok (.iastore, 1) := by decide +kernel
theorem dX10_keeps_85 : decode cX10_keeps 85 = .ok (.iinc 1 1, 3) := by decide +kernel
theorem dX10_keeps_88 : decode cX10_keeps 88 = .ok (.goto (-33), 3) := by decide +kernel
theorem dX10_keeps_91 : decode cX10_keeps 91 = .ok (.aload_n 0, 1) := by decide +kernel
theorem dX10_keeps_92 : decode cX10_keeps 92 = .ok (.invokevirtual 160, 3) := by decide +kernel
theorem dX10_keeps_95 : decode cX10_keeps 95 = .ok (.return_, 1) := by decide +kernel
theorem dX10_orders_0 : decode cX10_orders 0 = .ok (.aload_n 0, 1) := by decide +kernel
theorem dX10_orders_1 : decode cX10_orders 1 = .ok (.iconst 0, 1) := by decide +kernel
theorem dX10_orders_2 : decode cX10_orders 2 = .ok (.putfield 163, 3) := by decide +kernel
theorem dX10_orders_5 : decode cX10_orders 5 = .ok (.iconst 0, 1) := by decide +kernel
theorem dX10_orders_6 : decode cX10_orders 6 = .ok (.istore_n 1, 1) := by decide +kernel
theorem dX10_orders_7 : decode cX10_orders 7 = .ok (.iload_n 1, 1) := by decide +kernel
theorem dX10_orders_8 : decode cX10_orders 8 = .ok (.bipush 61, 2) := by decide +kernel
theorem dX10_orders_10 : decode cX10_orders 10 = .ok (.if_icmp .ge 16, 3) := by decide +kernel
theorem dX10_orders_13 : decode cX10_orders 13 = .ok (.aload_n 0, 1) := by decide +kernel
theorem dX10_orders_14 : decode cX10_orders 14 = .ok (.getfield 38, 3) := by decide +kernel
theorem dX10_orders_17 : decode cX10_orders 17 = .ok (.iload_n 1, 1) := by decide +kernel
theorem dX10_orders_18 : decode cX10_orders 18 = .ok (.iconst 0, 1) := by decide +kernel
theorem dX10_orders_19 : decode cX10_orders 19 = .ok (.iastore, 1) := by decide +kernel
theorem dX10_orders_20 : decode cX10_orders 20 = .ok (.iinc 1 1, 3) := by decide +kernel
theorem dX10_orders_23 : decode cX10_orders 23 = .ok (.goto (-16), 3) := by decide +kernel
theorem dX10_orders_26 : decode cX10_orders 26 = .ok (.iconst 0, 1) := by decide +kernel
theorem dX10_orders_27 : decode cX10_orders 27 = .ok (.istore_n 1, 1) := by decide +kernel
theorem dX10_orders_28 : decode cX10_orders 28 = .ok (.iload_n 1, 1) := by decide +kernel
theorem dX10_orders_29 : decode cX10_orders 29 = .ok (.bipush 61, 2) := by decide +kernel
theorem dX10_orders_31 : decode cX10_orders 31 = .ok (.if_icmp .ge 58, 3) := by decide +kernel
theorem dX10_orders_34 : decode cX10_orders 34 = .ok (.iconst 0, 1) := by decide +kernel
theorem dX10_orders_35 : decode cX10_orders 35 = .ok (.istore_n 2, 1) := by decide +kernel
theorem dX10_orders_36 : decode cX10_orders 36 = .ok (.iload_n 2, 1) := by decide +kernel
theorem dX10_orders_37 : decode cX10_orders 37 = .ok (.aload_n 0, 1) := by decide +kernel
theorem dX10_orders_38 : decode cX10_orders 38 = .ok (.getfield 7, 3) := by decide +kernel
theorem dX10_orders_41 : decode cX10_orders 41 = .ok (.sipush 916, 3) := by decide +kernel
theorem dX10_orders_44 : decode cX10_orders 44 = .ok (.iload_n 1, 1) := by decide +kernel
theorem dX10_orders_45 : decode cX10_orders 45 = .ok (.iadd, 1) := by decide +kernel
theorem dX10_orders_46 : decode cX10_orders 46 = .ok (.iaload, 1) := by decide +kernel
theorem dX10_orders_47 : decode cX10_orders 47 = .ok (.if_icmp .ge 36, 3) := by decide +kernel
theorem dX10_orders_50 : decode cX10_orders 50 = .ok (.aload_n 0, 1) := by decide +kernel
theorem dX10_orders_51 : decode cX10_orders 51 = .ok (.getfield 7, 3) := by decide +kernel
theorem dX10_orders_54 : decode cX10_orders 54 = .ok (.iconst 1, 1) := by decide +kernel
theorem dX10_orders_55 : decode cX10_orders 55 = .ok (.iload_n 1, 1) := by decide +kernel
theorem dX10_orders_56 : decode cX10_orders 56 = .ok (.iadd, 1) := by decide +kernel
theorem dX10_orders_57 : decode cX10_orders 57 = .ok (.iaload, 1) := by decide +kernel
theorem dX10_orders_58 : decode cX10_orders 58 = .ok (.iconst 1, 1) := by decide +kernel
theorem dX10_orders_59 : decode cX10_orders 59 = .ok (.if_icmp .ne 24, 3) := by decide +kernel
theorem dX10_orders_62 : decode cX10_orders 62 = .ok (.aload_n 0, 1) := by decide +kernel
theorem dX10_orders_63 : decode cX10_orders 63 = .ok (.getfield 38, 3) := by decide +kernel
theorem dX10_orders_66 : decode cX10_orders 66 = .ok (.aload_n 0, 1) := by decide +kernel
theorem dX10_orders_67 : decode cX10_orders 67 = .ok (.iload_n 1, 1) := by decide +kernel
theorem dX10_orders_68 : decode cX10_orders 68 = .ok (.iload_n 2, 1) := by decide +kernel
theorem dX10_orders_69 : decode cX10_orders 69 = .ok (.invokevirtual 150, 3) := by decide +kernel
theorem dX10_orders_72 : decode cX10_orders 72 = .ok (.dup2, 1) := by decide +kernel
theorem dX10_orders_73 : decode cX10_orders 73 = .ok (.iaload, 1) := by decide +kernel
theorem dX10_orders_74 : decode cX10_orders 74 = .ok (.iconst 1, 1) := by decide +kernel
theorem dX10_orders_75 : decode cX10_orders 75 = .ok (.iadd, 1) := by decide +kernel
theorem dX10_orders_76 : decode cX10_orders 76 = .ok (.iastore, 1) := by decide +kernel
theorem dX10_orders_77 : decode cX10_orders 77 = .ok (.iinc 2 1, 3) := by decide +kernel
theorem dX10_orders_80 : decode cX10_orders 80 = .ok (.goto (-44), 3) := by decide +kernel
theorem dX10_orders_83 : decode cX10_orders 83 = .ok (.iinc 1 1, 3) := by decide +kernel
theorem dX10_orders_86 : decode cX10_orders 86 = .ok (.goto (-58), 3) := by decide +kernel
theorem dX10_orders_89 : decode cX10_orders 89 = .ok (.iconst 0, 1) := by decide +kernel
theorem dX10_orders_90 : decode cX10_orders 90 = .ok (.istore_n 1, 1) := by decide +kernel
theorem dX10_orders_91 : decode cX10_orders 91 = .ok (.iload_n 1, 1) := by decide +kernel
theorem dX10_orders_92 : decode cX10_orders 92 = .ok (.bipush 61, 2) := by decide +kernel
theorem dX10_orders_94 : decode cX10_orders 94 = .ok (.if_icmp .ge 50, 3) := by decide +kernel
theorem dX10_orders_97 : decode cX10_orders 97 = .ok (.aload_n 0, 1) := by decide +kernel
theorem dX10_orders_98 : decode cX10_orders 98 = .ok (.getfield 7, 3) := by decide +kernel
theorem dX10_orders_101 : decode cX10_orders 101 = .ok (.iconst 1, 1) := by decide +kernel
theorem dX10_orders_102 : decode cX10_orders 102 = .ok (.iload_n 1, 1) := by decide +kernel
theorem dX10_orders_103 : decode cX10_orders 103 = .ok (.iadd, 1) := by decide +kernel
theorem dX10_orders_104 : decode cX10_orders 104 = .ok (.iaload, 1) := by decide +kernel
theorem dX10_orders_105 : decode cX10_orders 105 = .ok (.iconst 1, 1) := by decide +kernel
theorem dX10_orders_106 : decode cX10_orders 106 = .ok (.if_icmp .ne 32, 3) := by decide +kernel
theorem dX10_orders_109 : decode cX10_orders 109 = .ok (.aload_n 0, 1) := by decide +kernel
theorem dX10_orders_110 : decode cX10_orders 110 = .ok (.getfield 38, 3) := by decide +kernel
theorem dX10_orders_113 : decode cX10_orders 113 = .ok (.iload_n 1, 1) := by decide +kernel
theorem dX10_orders_114 : decode cX10_orders 114 = .ok (.iaload, 1) := by decide +kernel
theorem dX10_orders_115 : decode cX10_orders 115 = .ok (.ifCond .ne 23, 3) := by decide +kernel
theorem dX10_orders_118 : decode cX10_orders 118 = .ok (.aload_n 0, 1) := by decide +kernel
theorem dX10_orders_119 : decode cX10_orders 119 = .ok (.getfield 35, 3) := by decide +kernel
theorem dX10_orders_122 : decode cX10_orders 122 = .ok (.aload_n 0, 1) := by decide +kernel
theorem dX10_orders_123 : decode cX10_orders 123 = .ok (.getfield 163, 3) := by decide +kernel
theorem dX10_orders_126 : decode cX10_orders 126 = .ok (.iload_n 1, 1) := by decide +kernel
theorem dX10_orders_127 : decode cX10_orders 127 = .ok (.iastore, 1) := by decide +kernel
theorem dX10_orders_128 : decode cX10_orders 128 = .ok (.aload_n 0, 1) := by decide +kernel
theorem dX10_orders_129 : decode cX10_orders 129 = .ok (.dup, 1) := by decide +kernel
theorem dX10_orders_130 : decode cX10_orders 130 = .ok (.getfield 163, 3) := by decide +kernel
theorem dX10_orders_133 : decode cX10_orders 133 = .ok (.iconst 1, 1) := by decide +kernel
theorem dX10_orders_134 : decode cX10_orders 134 = .ok (.iadd, 1) := by decide +kernel
theorem dX10_orders_135 : decode cX10_orders 135 = .ok (.putfield 163, 3) := by decide +kernel
theorem dX10_orders_138 : decode cX10_orders 138 = .ok (.iinc 1 1, 3) := by decide +kernel
theorem dX10_orders_141 : decode cX10_orders 141 = .ok (.goto (-50), 3) := by decide +kernel
theorem dX10_orders_144 : decode cX10_orders 144 = .ok (.iconst 0, 1) := by decide +kernel
theorem dX10_orders_145 : decode cX10_orders 145 = .ok (.istore_n 1, 1) := by decide +kernel
theorem dX10_orders_146 : decode cX10_orders 146 = .ok (.iload_n 1, 1) := by decide +kernel
theorem dX10_orders_147 : decode cX10_orders 147 = .ok (.aload_n 0, 1) := by decide +kernel
theorem dX10_orders_148 : decode cX10_orders 148 = .ok (.getfield 163, 3) := by decide +kernel
theorem dX10_orders_151 : decode cX10_orders 151 = .ok (.if_icmp .ge 88, 3) := by decide +kernel
theorem dX10_orders_154 : decode cX10_orders 154 = .ok (.aload_n 0, 1) := by decide +kernel
theorem dX10_orders_155 : decode cX10_orders 155 = .ok (.getfield 35, 3) := by decide +kernel
theorem dX10_orders_158 : decode cX10_orders 158 = .ok (.iload_n 1, 1) := by decide +kernel
theorem dX10_orders_159 : decode cX10_orders 159 = .ok (.iaload, 1) := by decide +kernel
theorem dX10_orders_160 : decode cX10_orders 160 = .ok (.istore_n 2, 1) := by decide +kernel
theorem dX10_orders_161 : decode cX10_orders 161 = .ok (.iconst 0, 1) := by decide +kernel
theorem dX10_orders_162 : decode cX10_orders 162 = .ok (.istore_n 3, 1) := by decide +kernel
theorem dX10_orders_163 : decode cX10_orders 163 = .ok (.iload_n 3, 1) := by decide +kernel
theorem dX10_orders_164 : decode cX10_orders 164 = .ok (.aload_n 0, 1) := by decide +kernel
theorem dX10_orders_165 : decode cX10_orders 165 = .ok (.getfield 7, 3) := by decide +kernel
theorem dX10_orders_168 : decode cX10_orders 168 = .ok (.sipush 916, 3) := by decide +kernel
theorem dX10_orders_171 : decode cX10_orders 171 = .ok (.iload_n 2, 1) := by decide +kernel
theorem dX10_orders_172 : decode cX10_orders 172 = .ok (.iadd, 1) := by decide +kernel
theorem dX10_orders_173 : decode cX10_orders 173 = .ok (.iaload, 1) := by decide +kernel
theorem dX10_orders_174 : decode cX10_orders 174 = .ok (.if_icmp .ge 59, 3) := by decide +kernel
theorem dX10_orders_177 : decode cX10_orders 177 = .ok (.aload_n 0, 1) := by decide +kernel
theorem dX10_orders_178 : decode cX10_orders 178 = .ok (.iload_n 2, 1) := by decide +kernel
theorem dX10_orders_179 : decode cX10_orders 179 = .ok (.iload_n 3, 1) := by decide +kernel
theorem dX10_orders_180 : decode cX10_orders 180 = .ok (.invokevirtual 150, 3) := by decide +kernel
theorem dX10_orders_183 : decode cX10_orders 183 = .ok (.istore 4, 2) := by decide +kernel
theorem dX10_orders_185 : decode cX10_orders 185 = .ok (.aload_n 0, 1) := by decide +kernel
theorem dX10_orders_186 : decode cX10_orders 186 = .ok (.getfield 38, 3) := by decide +kernel
theorem dX10_orders_189 : decode cX10_orders 189 = .ok (.iload 4, 2) := by decide +kernel
theorem dX10_orders_191 : decode cX10_orders 191 = .ok (.dup2, 1) := by decide +kernel
theorem dX10_orders_192 : decode cX10_orders 192 = .ok (.iaload, 1) := by decide +kernel
theorem dX10_orders_193 : decode cX10_orders 193 = .ok (.iconst 1, 1) := by decide +kernel
theorem dX10_orders_194 : decode cX10_orders 194 = .ok (.isub, 1) := by decide +kernel
theorem dX10_orders_195 : decode cX10_orders 195 = .ok (.iastore, 1) := by decide +kernel
theorem dX10_orders_196 : decode cX10_orders 196 = .ok (.aload_n 0, 1) := by decide +kernel
theorem dX10_orders_197 : decode cX10_orders 197 = .ok (.getfield 38, 3) := by decide +kernel
theorem dX10_orders_200 : decode cX10_orders 200 = .ok (.iload 4, 2) := by decide +kernel
theorem dX10_orders_202 : decode cX10_orders 202 = .ok (.iaload, 1) := by decide +kernel
theorem dX10_orders_203 : decode cX10_orders 203 = .ok (.ifCond .ne 24, 3) := by decide +kernel
theorem dX10_orders_206 : decode cX10_orders 206 = .ok (.aload_n 0, 1) := by decide +kernel
theorem dX10_orders_207 : decode cX10_orders 207 = .ok (.getfield 35, 3) := by decide +kernel
theorem dX10_orders_210 : decode cX10_orders 210 = .ok (.aload_n 0, 1) := by decide +kernel
theorem dX10_orders_211 : decode cX10_orders 211 = .ok (.getfield 163, 3) := by decide +kernel
theorem dX10_orders_214 : decode cX10_orders 214 = .ok (.iload 4, 2) := by decide +kernel
theorem dX10_orders_216 : decode cX10_orders 216 = .ok (.iastore, 1) := by decide +kernel
theorem dX10_orders_217 : decode cX10_orders 217 = .ok (.aload_n 0, 1) := by decide +kernel
theorem dX10_orders_218 : decode cX10_orders 218 = .ok (.dup, 1) := by decide +kernel
theorem dX10_orders_219 : decode cX10_orders 219 = .ok (.getfield 163, 3) := by decide +kernel
theorem dX10_orders_222 : decode cX10_orders 222 = .ok (.iconst 1, 1) := by decide +kernel
theorem dX10_orders_223 : decode cX10_orders 223 = .ok (.iadd, 1) := by decide +kernel
theorem dX10_orders_224 : decode cX10_orders 224 = .ok (.putfield 163, 3) := by decide +kernel
theorem dX10_orders_227 : decode cX10_orders 227 = .ok (.iinc 3 1, 3) := by decide +kernel
theorem dX10_orders_230 : decode cX10_orders 230 = .ok (.goto (-67), 3) := by decide +kernel
theorem dX10_orders_233 : decode cX10_orders 233 = .ok (.iinc 1 1, 3) := by decide +kernel
theorem dX10_orders_236 : decode cX10_orders 236 = .ok (.goto (-90), 3) := by decide +kernel
theorem dX10_orders_239 : decode cX10_orders 239 = .ok (.return_, 1) := by decide +kernel
theorem dX10_knows_0 : decode cX10_knows 0 = .ok (.aload_n 0, 1) := by decide +kernel
theorem dX10_knows_1 : decode cX10_knows 1 = .ok (.invokevirtual 166, 3) := by decide +kernel
theorem dX10_knows_4 : decode cX10_knows 4 = .ok (.iconst 0, 1) := by decide +kernel
theorem dX10_knows_5 : decode cX10_knows 5 = .ok (.istore_n 1, 1) := by decide +kernel
theorem dX10_knows_6 : decode cX10_knows 6 = .ok (.iload_n 1, 1) := by decide +kernel
theorem dX10_knows_7 : decode cX10_knows 7 = .ok (.bipush 61, 2) := by decide +kernel
theorem dX10_knows_9 : decode cX10_knows 9 = .ok (.if_icmp .ge 45, 3) := by decide +kernel
theorem dX10_knows_12 : decode cX10_knows 12 = .ok (.aload_n 0, 1) := by decide +kernel
theorem dX10_knows_13 : decode cX10_knows 13 = .ok (.getfield 41, 3) := by decide +kernel
theorem dX10_knows_16 : decode cX10_knows 16 = .ok (.iload_n 1, 1) := by decide +kernel
theorem dX10_knows_17 : decode cX10_knows 17 = .ok (.iload_n 1, 1) := by decide +kernel
theorem dX10_knows_18 : decode cX10_knows 18 = .ok (.ifCond .ne 7, 3) := by decide +kernel
theorem dX10_knows_21 : decode cX10_knows 21 = .ok (.iconst 1, 1) := by decide +kernel
theorem dX10_knows_22 : decode cX10_knows 22 = .ok (.goto 4, 3) := by decide +kernel
theorem dX10_knows_25 : decode cX10_knows 25 = .ok (.iconst 0, 1) := by decide +kernel
theorem dX10_knows_26 : decode cX10_knows 26 = .ok (.iastore, 1) := by decide +kernel
theorem dX10_knows_27 : decode cX10_knows 27 = .ok (.aload_n 0, 1) := by decide +kernel
theorem dX10_knows_28 : decode cX10_knows 28 = .ok (.getfield 44, 3) := by decide +kernel
theorem dX10_knows_31 : decode cX10_knows 31 = .ok (.iload_n 1, 1) := by decide +kernel
theorem dX10_knows_32 : decode cX10_knows 32 = .ok (.iconst 0, 1) := by decide +kernel
theorem dX10_knows_33 : decode cX10_knows 33 = .ok (.iastore, 1) := by decide +kernel
theorem dX10_knows_34 : decode cX10_knows 34 = .ok (.aload_n 0, 1) := by decide +kernel
theorem dX10_knows_35 : decode cX10_knows 35 = .ok (.getfield 47, 3) := by decide +kernel
theorem dX10_knows_38 : decode cX10_knows 38 = .ok (.iload_n 1, 1) := by decide +kernel
theorem dX10_knows_39 : decode cX10_knows 39 = .ok (.iconst 0, 1) := by decide +kernel
theorem dX10_knows_40 : decode cX10_knows 40 = .ok (.iastore, 1) := by decide +kernel
theorem dX10_knows_41 : decode cX10_knows 41 = .ok (.aload_n 0, 1) := by decide +kernel
theorem dX10_knows_42 : decode cX10_knows 42 = .ok (.getfield 50, 3) := by decide +kernel
theorem dX10_knows_45 : decode cX10_knows 45 = .ok (.iload_n 1, 1) := by decide +kernel
theorem dX10_knows_46 : decode cX10_knows 46 = .ok (.lconst 0, 1) := by decide +kernel
theorem dX10_knows_47 : decode cX10_knows 47 = .ok (.lastore, 1) := by decide +kernel
theorem dX10_knows_48 : decode cX10_knows 48 = .ok (.iinc 1 1, 3) := by decide +kernel
theorem dX10_knows_51 : decode cX10_knows 51 = .ok (.goto (-45), 3) := by decide +kernel
theorem dX10_knows_54 : decode cX10_knows 54 = .ok (.iconst 0, 1) := by decide +kernel
theorem dX10_knows_55 : decode cX10_knows 55 = .ok (.istore_n 1, 1) := by decide +kernel
theorem dX10_knows_56 : decode cX10_knows 56 = .ok (.iload_n 1, 1) := by decide +kernel
theorem dX10_knows_57 : decode cX10_knows 57 = .ok (.aload_n 0, 1) := by decide +kernel
theorem dX10_knows_58 : decode cX10_knows 58 = .ok (.getfield 163, 3) := by decide +kernel
theorem dX10_knows_61 : decode cX10_knows 61 = .ok (.if_icmp .ge 114, 3) := by decide +kernel
theorem dX10_knows_64 : decode cX10_knows 64 = .ok (.aload_n 0, 1) := by decide +kernel
theorem dX10_knows_65 : decode cX10_knows 65 = .ok (.getfield 35, 3) := by decide +kernel
theorem dX10_knows_68 : decode cX10_knows 68 = .ok (.iload_n 1, 1) := by decide +kernel
theorem dX10_knows_69 : decode cX10_knows 69 = .ok (.iaload, 1) := by decide +kernel
theorem dX10_knows_70 : decode cX10_knows 70 = .ok (.istore_n 2, 1) := by decide +kernel
theorem dX10_knows_71 : decode cX10_knows 71 = .ok (.iconst 0, 1) := by decide +kernel
theorem dX10_knows_72 : decode cX10_knows 72 = .ok (.istore_n 3, 1) := by decide +kernel
theorem dX10_knows_73 : decode cX10_knows 73 = .ok (.iload_n 3, 1) := by decide +kernel
theorem dX10_knows_74 : decode cX10_knows 74 = .ok (.aload_n 0, 1) := by decide +kernel
theorem dX10_knows_75 : decode cX10_knows 75 = .ok (.getfield 7, 3) := by decide +kernel
theorem dX10_knows_78 : decode cX10_knows 78 = .ok (.sipush 916, 3) := by decide +kernel
theorem dX10_knows_81 : decode cX10_knows 81 = .ok (.iload_n 2, 1) := by decide +kernel
theorem dX10_knows_82 : decode cX10_knows 82 = .ok (.iadd, 1) := by decide +kernel
theorem dX10_knows_83 : decode cX10_knows 83 = .ok (.iaload, 1) := by decide +kernel
theorem dX10_knows_84 : decode cX10_knows 84 = .ok (.if_icmp .ge 85, 3) := by decide +kernel
theorem dX10_knows_87 : decode cX10_knows 87 = .ok (.aload_n 0, 1) := by decide +kernel
theorem dX10_knows_88 : decode cX10_knows 88 = .ok (.iload_n 2, 1) := by decide +kernel
theorem dX10_knows_89 : decode cX10_knows 89 = .ok (.iload_n 3, 1) := by decide +kernel
theorem dX10_knows_90 : decode cX10_knows 90 = .ok (.invokevirtual 150, 3) := by decide +kernel
theorem dX10_knows_93 : decode cX10_knows 93 = .ok (.istore 4, 2) := by decide +kernel
theorem dX10_knows_95 : decode cX10_knows 95 = .ok (.aload_n 0, 1) := by decide +kernel
theorem dX10_knows_96 : decode cX10_knows 96 = .ok (.getfield 41, 3) := by decide +kernel
theorem dX10_knows_99 : decode cX10_knows 99 = .ok (.iload 4, 2) := by decide +kernel
theorem dX10_knows_101 : decode cX10_knows 101 = .ok (.dup2, 1) := by decide +kernel
theorem dX10_knows_102 : decode cX10_knows 102 = .ok (.iaload, 1) := by decide +kernel
theorem dX10_knows_103 : decode cX10_knows 103 = .ok (.aload_n 0, 1) := by decide +kernel
theorem dX10_knows_104 : decode cX10_knows 104 = .ok (.getfield 41, 3) := by decide +kernel
theorem dX10_knows_107 : decode cX10_knows 107 = .ok (.iload_n 2, 1) := by decide +kernel
theorem dX10_knows_108 : decode cX10_knows 108 = .ok (.iaload, 1) := by decide +kernel
theorem dX10_knows_109 : decode cX10_knows 109 = .ok (.iadd, 1) := by decide +kernel
theorem dX10_knows_110 : decode cX10_knows 110 = .ok (.iastore, 1) := by decide +kernel
theorem dX10_knows_111 : decode cX10_knows 111 = .ok (.aload_n 0, 1) := by decide +kernel
theorem dX10_knows_112 : decode cX10_knows 112 = .ok (.getfield 47, 3) := by decide +kernel
theorem dX10_knows_115 : decode cX10_knows 115 = .ok (.iload 4, 2) := by decide +kernel
theorem dX10_knows_117 : decode cX10_knows 117 = .ok (.aload_n 0, 1) := by decide +kernel
theorem dX10_knows_118 : decode cX10_knows 118 = .ok (.getfield 41, 3) := by decide +kernel
theorem dX10_knows_121 : decode cX10_knows 121 = .ok (.iload_n 2, 1) := by decide +kernel
theorem dX10_knows_122 : decode cX10_knows 122 = .ok (.iaload, 1) := by decide +kernel
theorem dX10_knows_123 : decode cX10_knows 123 = .ok (.ifCond .le 32, 3) := by decide +kernel
theorem dX10_knows_126 : decode cX10_knows 126 = .ok (.aload_n 0, 1) := by decide +kernel
theorem dX10_knows_127 : decode cX10_knows 127 = .ok (.getfield 47, 3) := by decide +kernel
theorem dX10_knows_130 : decode cX10_knows 130 = .ok (.iload_n 2, 1) := by decide +kernel
theorem dX10_knows_131 : decode cX10_knows 131 = .ok (.iaload, 1) := by decide +kernel
theorem dX10_knows_132 : decode cX10_knows 132 = .ok (.iconst 1, 1) := by decide +kernel
theorem dX10_knows_133 : decode cX10_knows 133 = .ok (.iadd, 1) := by decide +kernel
theorem dX10_knows_134 : decode cX10_knows 134 = .ok (.aload_n 0, 1) := by decide +kernel
theorem dX10_knows_135 : decode cX10_knows 135 = .ok (.getfield 47, 3) := by decide +kernel
theorem dX10_knows_138 : decode cX10_knows 138 = .ok (.iload 4, 2) := by decide +kernel
theorem dX10_knows_140 : decode cX10_knows 140 = .ok (.iaload, 1) := by decide +kernel
theorem dX10_knows_141 : decode cX10_knows 141 = .ok (.if_icmp .le 14, 3) := by decide +kernel
theorem dX10_knows_144 : decode cX10_knows 144 = .ok (.aload_n 0, 1) := by decide +kernel
theorem dX10_knows_145 : decode cX10_knows 145 = .ok (.getfield 47, 3) := by decide +kernel
theorem dX10_knows_148 : decode cX10_knows 148 = .ok (.iload_n 2, 1) := by decide +kernel
theorem dX10_knows_149 : decode cX10_knows 149 = .ok (.iaload, 1) := by decide +kernel
theorem dX10_knows_150 : decode cX10_knows 150 = .ok (.iconst 1, 1) := by decide +kernel
theorem dX10_knows_151 : decode cX10_knows 151 = .ok (.iadd, 1) := by decide +kernel
theorem dX10_knows_152 : decode cX10_knows 152 = .ok (.goto 10, 3) := by decide +kernel
theorem dX10_knows_155 : decode cX10_knows 155 = .ok (.aload_n 0, 1) := by decide +kernel
theorem dX10_knows_156 : decode cX10_knows 156 = .ok (.getfield 47, 3) := by decide +kernel
theorem dX10_knows_159 : decode cX10_knows 159 = .ok (.iload 4, 2) := by decide +kernel
theorem dX10_knows_161 : decode cX10_knows 161 = .ok (.iaload, 1) := by decide +kernel
theorem dX10_knows_162 : decode cX10_knows 162 = .ok (.iastore, 1) := by decide +kernel
theorem dX10_knows_163 : decode cX10_knows 163 = .ok (.iinc 3 1, 3) := by decide +kernel
theorem dX10_knows_166 : decode cX10_knows 166 = .ok (.goto (-93), 3) := by decide +kernel
theorem dX10_knows_169 : decode cX10_knows 169 = .ok (.iinc 1 1, 3) := by decide +kernel
theorem dX10_knows_172 : decode cX10_knows 172 = .ok (.goto (-116), 3) := by decide +kernel
theorem dX10_knows_175 : decode cX10_knows 175 = .ok (.aload_n 0, 1) := by decide +kernel
theorem dX10_knows_176 : decode cX10_knows 176 = .ok (.getfield 163, 3) := by decide +kernel
theorem dX10_knows_179 : decode cX10_knows 179 = .ok (.iconst 1, 1) := by decide +kernel
theorem dX10_knows_180 : decode cX10_knows 180 = .ok (.isub, 1) := by decide +kernel
theorem dX10_knows_181 : decode cX10_knows 181 = .ok (.istore_n 1, 1) := by decide +kernel
theorem dX10_knows_182 : decode cX10_knows 182 = .ok (.iload_n 1, 1) := by decide +kernel
theorem dX10_knows_183 : decode cX10_knows 183 = .ok (.ifCond .lt 85, 3) := by decide +kernel
theorem dX10_knows_186 : decode cX10_knows 186 = .ok (.aload_n 0, 1) := by decide +kernel
theorem dX10_knows_187 : decode cX10_knows 187 = .ok (.getfield 35, 3) := by decide +kernel
theorem dX10_knows_190 : decode cX10_knows 190 = .ok (.iload_n 1, 1) := by decide +kernel
theorem dX10_knows_191 : decode cX10_knows 191 = .ok (.iaload, 1) := by decide +kernel
theorem dX10_knows_192 : decode cX10_knows 192 = .ok (.istore_n 2, 1) := by decide +kernel
theorem dX10_knows_193 : decode cX10_knows 193 = .ok (.iconst 0, 1) := by decide +kernel
theorem dX10_knows_194 : decode cX10_knows 194 = .ok (.istore_n 3, 1) := by decide +kernel
theorem dX10_knows_195 : decode cX10_knows 195 = .ok (.iload_n 3, 1) := by decide +kernel
theorem dX10_knows_196 : decode cX10_knows 196 = .ok (.aload_n 0, 1) := by decide +kernel
theorem dX10_knows_197 : decode cX10_knows 197 = .ok (.getfield 7, 3) := by decide +kernel
theorem dX10_knows_200 : decode cX10_knows 200 = .ok (.sipush 916, 3) := by decide +kernel
theorem dX10_knows_203 : decode cX10_knows 203 = .ok (.iload_n 2, 1) := by decide +kernel
theorem dX10_knows_204 : decode cX10_knows 204 = .ok (.iadd, 1) := by decide +kernel
theorem dX10_knows_205 : decode cX10_knows 205 = .ok (.iaload, 1) := by decide +kernel
theorem dX10_knows_206 : decode cX10_knows 206 = .ok (.if_icmp .ge 56, 3) := by decide +kernel
theorem dX10_knows_209 : decode cX10_knows 209 = .ok (.aload_n 0, 1) := by decide +kernel
theorem dX10_knows_210 : decode cX10_knows 210 = .ok (.iload_n 2, 1) := by decide +kernel
theorem dX10_knows_211 : decode cX10_knows 211 = .ok (.iload_n 3, 1) := by decide +kernel
theorem dX10_knows_212 : decode cX10_knows 212 = .ok (.invokevirtual 150, 3) := by decide +kernel
theorem dX10_knows_215 : decode cX10_knows 215 = .ok (.istore 4, 2) := by decide +kernel
theorem dX10_knows_217 : decode cX10_knows 217 = .ok (.aload_n 0, 1) := by decide +kernel
theorem dX10_knows_218 : decode cX10_knows 218 = .ok (.getfield 44, 3) := by decide +kernel
theorem dX10_knows_221 : decode cX10_knows 221 = .ok (.iload_n 2, 1) := by decide +kernel
theorem dX10_knows_222 : decode cX10_knows 222 = .ok (.dup2, 1) := by decide +kernel
theorem dX10_knows_223 : decode cX10_knows 223 = .ok (.iaload, 1) := by decide +kernel
theorem dX10_knows_224 : decode cX10_knows 224 = .ok (.iconst 1, 1) := by decide +kernel
theorem dX10_knows_225 : decode cX10_knows 225 = .ok (.aload_n 0, 1) := by decide +kernel
theorem dX10_knows_226 : decode cX10_knows 226 = .ok (.getfield 44, 3) := by decide +kernel
theorem dX10_knows_229 : decode cX10_knows 229 = .ok (.iload 4, 2) := by decide +kernel
theorem dX10_knows_231 : decode cX10_knows 231 = .ok (.iaload, 1) := by decide +kernel
theorem dX10_knows_232 : decode cX10_knows 232 = .ok (.iadd, 1) := by decide +kernel
theorem dX10_knows_233 : decode cX10_knows 233 = .ok (.iadd, 1) := by decide +kernel
theorem dX10_knows_234 : decode cX10_knows 234 = .ok (.iastore, 1) := by decide +kernel
theorem dX10_knows_235 : decode cX10_knows 235 = .ok (.aload_n 0, 1) := by decide +kernel
theorem dX10_knows_236 : decode cX10_knows 236 = .ok (.getfield 50, 3) := by decide +kernel
theorem dX10_knows_239 : decode cX10_knows 239 = .ok (.iload_n 2, 1) := by decide +kernel
theorem dX10_knows_240 : decode cX10_knows 240 = .ok (.dup2, 1) := by decide +kernel
theorem dX10_knows_241 : decode cX10_knows 241 = .ok (.laload, 1) := by decide +kernel
theorem dX10_knows_242 : decode cX10_knows 242 = .ok (.aload_n 0, 1) := by decide +kernel
theorem dX10_knows_243 : decode cX10_knows 243 = .ok (.getfield 50, 3) := by decide +kernel
theorem dX10_knows_246 : decode cX10_knows 246 = .ok (.iload 4, 2) := by decide +kernel
theorem dX10_knows_248 : decode cX10_knows 248 = .ok (.laload, 1) := by decide +kernel
theorem dX10_knows_249 : decode cX10_knows 249 = .ok (.lconst 1, 1) := by decide +kernel
theorem dX10_knows_250 : decode cX10_knows 250 = .ok (.iload 4, 2) := by decide +kernel
theorem dX10_knows_252 : decode cX10_knows 252 = .ok (.lshl, 1) := by decide +kernel
theorem dX10_knows_253 : decode cX10_knows 253 = .ok (.lor, 1) := by decide +kernel
theorem dX10_knows_254 : decode cX10_knows 254 = .ok (.lor, 1) := by decide +kernel
theorem dX10_knows_255 : decode cX10_knows 255 = .ok (.lastore, 1) := by decide +kernel
theorem dX10_knows_256 : decode cX10_knows 256 = .ok (.iinc 3 1, 3) := by decide +kernel
theorem dX10_knows_259 : decode cX10_knows 259 = .ok (.goto (-64), 3) := by decide +kernel
theorem dX10_knows_262 : decode cX10_knows 262 = .ok (.iinc 1 (-1), 3) := by decide +kernel
theorem dX10_knows_265 : decode cX10_knows 265 = .ok (.goto (-83), 3) := by decide +kernel
theorem dX10_knows_268 : decode cX10_knows 268 = .ok (.return_, 1) := by decide +kernel
theorem dX10_isUnder_0 : decode cX10_isUnder 0 = .ok (.aload_n 0, 1) := by decide +kernel
theorem dX10_isUnder_1 : decode cX10_isUnder 1 = .ok (.getfield 50, 3) := by decide +kernel
theorem dX10_isUnder_4 : decode cX10_isUnder 4 = .ok (.iload_n 2, 1) := by decide +kernel
theorem dX10_isUnder_5 : decode cX10_isUnder 5 = .ok (.laload, 1) := by decide +kernel
theorem dX10_isUnder_6 : decode cX10_isUnder 6 = .ok (.iload_n 1, 1) := by decide +kernel
theorem dX10_isUnder_7 : decode cX10_isUnder 7 = .ok (.lshr, 1) := by decide +kernel
theorem dX10_isUnder_8 : decode cX10_isUnder 8 = .ok (.lconst 1, 1) := by decide +kernel
theorem dX10_isUnder_9 : decode cX10_isUnder 9 = .ok (.land, 1) := by decide +kernel
theorem dX10_isUnder_10 : decode cX10_isUnder 10 = .ok (.lconst 1, 1) := by decide +kernel
theorem dX10_isUnder_11 : decode cX10_isUnder 11 = .ok (.lcmp, 1) := by decide +kernel
theorem dX10_isUnder_12 : decode cX10_isUnder 12 = .ok (.ifCond .ne 7, 3) := by decide +kernel
theorem dX10_isUnder_15 : decode cX10_isUnder 15 = .ok (.iconst 1, 1) := by decide +kernel
theorem dX10_isUnder_16 : decode cX10_isUnder 16 = .ok (.goto 4, 3) := by decide +kernel
theorem dX10_isUnder_19 : decode cX10_isUnder 19 = .ok (.iconst 0, 1) := by decide +kernel
theorem dX10_isUnder_20 : decode cX10_isUnder 20 = .ok (.ireturn, 1) := by decide +kernel
theorem dX10_allPlaces_0 : decode cX10_allPlaces 0 = .ok (.iconst 0, 1) := by decide +kernel
theorem dX10_allPlaces_1 : decode cX10_allPlaces 1 = .ok (.istore_n 1, 1) := by decide +kernel
theorem dX10_allPlaces_2 : decode cX10_allPlaces 2 = .ok (.iconst 1, 1) := by decide +kernel
theorem dX10_allPlaces_3 : decode cX10_allPlaces 3 = .ok (.istore_n 2, 1) := by decide +kernel
theorem dX10_allPlaces_4 : decode cX10_allPlaces 4 = .ok (.iload_n 2, 1) := by decide +kernel
theorem dX10_allPlaces_5 : decode cX10_allPlaces 5 = .ok (.bipush 61, 2) := by decide +kernel
theorem dX10_allPlaces_7 : decode cX10_allPlaces 7 = .ok (.if_icmp .ge 34, 3) := by decide +kernel
theorem dX10_allPlaces_10 : decode cX10_allPlaces 10 = .ok (.iload_n 1, 1) := by decide +kernel
theorem dX10_allPlaces_11 : decode cX10_allPlaces 11 = .ok (.aload_n 0, 1) := by decide +kernel
theorem dX10_allPlaces_12 : decode cX10_allPlaces 12 = .ok (.getfield 7, 3) := by decide +kernel
theorem dX10_allPlaces_15 : decode cX10_allPlaces 15 = .ok (.iconst 1, 1) := by decide +kernel
theorem dX10_allPlaces_16 : decode cX10_allPlaces 16 = .ok (.iload_n 2, 1) := by decide +kernel
theorem dX10_allPlaces_17 : decode cX10_allPlaces 17 = .ok (.iadd, 1) := by decide +kernel
theorem dX10_allPlaces_18 : decode cX10_allPlaces 18 = .ok (.iaload, 1) := by decide +kernel
theorem dX10_allPlaces_19 : decode cX10_allPlaces 19 = .ok (.iconst 1, 1) := by decide +kernel
theorem dX10_allPlaces_20 : decode cX10_allPlaces 20 = .ok (.if_icmp .ne 12, 3) := by decide +kernel
theorem dX10_allPlaces_23 : decode cX10_allPlaces 23 = .ok (.aload_n 0, 1) := by decide +kernel
theorem dX10_allPlaces_24 : decode cX10_allPlaces 24 = .ok (.getfield 41, 3) := by decide +kernel
theorem dX10_allPlaces_27 : decode cX10_allPlaces 27 = .ok (.iload_n 2, 1) := by decide +kernel
theorem dX10_allPlaces_28 : decode cX10_allPlaces 28 = .ok (.iaload, 1) := by decide +kernel
theorem dX10_allPlaces_29 : decode cX10_allPlaces 29 = .ok (.goto 4, 3) := by decide +kernel
theorem dX10_allPlaces_32 : decode cX10_allPlaces 32 = .ok (.iconst 0, 1) := by decide +kernel
theorem dX10_allPlaces_33 : decode cX10_allPlaces 33 = .ok (.iadd, 1) := by decide +kernel
theorem dX10_allPlaces_34 : decode cX10_allPlaces 34 = .ok (.istore_n 1, 1) := by decide +kernel
theorem dX10_allPlaces_35 : decode cX10_allPlaces 35 = .ok (.iinc 2 1, 3) := by decide +kernel
theorem dX10_allPlaces_38 : decode cX10_allPlaces 38 = .ok (.goto (-34), 3) := by decide +kernel
theorem dX10_allPlaces_41 : decode cX10_allPlaces 41 = .ok (.iload_n 1, 1) := by decide +kernel
theorem dX10_allPlaces_42 : decode cX10_allPlaces 42 = .ok (.ireturn, 1) := by decide +kernel
theorem dX10_reasonFor_0 : decode cX10_reasonFor 0 = .ok (.aload_n 0, 1) := by decide +kernel
theorem dX10_reasonFor_1 : decode cX10_reasonFor 1 = .ok (.invokevirtual 169, 3) := by decide +kernel
theorem dX10_reasonFor_4 : decode cX10_reasonFor 4 = .ok (.iload_n 1, 1) := by decide +kernel
theorem dX10_reasonFor_5 : decode cX10_reasonFor 5 = .ok (.iconst (-1), 1) := by decide +kernel
theorem dX10_reasonFor_6 : decode cX10_reasonFor 6 = .ok (.if_icmp .ne 14, 3) := by decide +kernel
theorem dX10_reasonFor_9 : decode cX10_reasonFor 9 = .ok (.aload_n 0, 1) := by decide +kernel
theorem dX10_reasonFor_10 : decode cX10_reasonFor 10 = .ok (.getfield 7, 3) := by decide +kernel
theorem dX10_reasonFor_13 : decode cX10_reasonFor 13 = .ok (.iconst 0, 1) := by decide +kernel
theorem dX10_reasonFor_14 : decode cX10_reasonFor 14 = .ok (.iaload, 1) := by decide +kernel
theorem dX10_reasonFor_15 : decode cX10_reasonFor 15 = .ok (.bipush 60, 2) := by decide +kernel
theorem dX10_reasonFor_17 : decode cX10_reasonFor 17 = .ok (.if_icmp .eq 18, 3) := by decide +kernel
theorem dX10_reasonFor_20 : decode cX10_reasonFor 20 = .ok (.aload_n 0, 1) := by decide +kernel
theorem dX10_reasonFor_21 : decode cX10_reasonFor 21 = .ok (.getfield 7, 3) := by decide +kernel
theorem dX10_reasonFor_24 : decode cX10_reasonFor 24 = .ok (.sipush 916, 3) := by decide +kernel
theorem dX10_reasonFor_27 : decode cX10_reasonFor 27 = .ok (.iload_n 2, 1) := by decide +kernel
theorem dX10_reasonFor_28 : decode cX10_reasonFor 28 = .ok (.iadd, 1) := by decide +kernel
theorem dX10_reasonFor_29 : decode cX10_reasonFor 29 = .ok (.iaload, 1) := by decide +kernel
theorem dX10_reasonFor_30 : decode cX10_reasonFor 30 = .ok (.bipush 12, 2) := by decide +kernel
theorem dX10_reasonFor_32 : decode cX10_reasonFor 32 = .ok (.if_icmp .ne 5, 3) := by decide +kernel
theorem dX10_reasonFor_35 : decode cX10_reasonFor 35 = .ok (.iconst 1, 1) := by decide +kernel
theorem dX10_reasonFor_36 : decode cX10_reasonFor 36 = .ok (.ireturn, 1) := by decide +kernel
theorem dX10_reasonFor_37 : decode cX10_reasonFor 37 = .ok (.iload_n 1, 1) := by decide +kernel
theorem dX10_reasonFor_38 : decode cX10_reasonFor 38 = .ok (.iconst (-1), 1) := by decide +kernel
theorem dX10_reasonFor_39 : decode cX10_reasonFor 39 = .ok (.if_icmp .eq 15, 3) := by decide +kernel
theorem dX10_reasonFor_42 : decode cX10_reasonFor 42 = .ok (.aload_n 0, 1) := by decide +kernel
theorem dX10_reasonFor_43 : decode cX10_reasonFor 43 = .ok (.iload_n 2, 1) := by decide +kernel
theorem dX10_reasonFor_44 : decode cX10_reasonFor 44 = .ok (.iload_n 1, 1) := by decide +kernel
theorem dX10_reasonFor_45 : decode cX10_reasonFor 45 = .ok (.invokevirtual 172, 3) := by decide +kernel
theorem dX10_reasonFor_48 : decode cX10_reasonFor 48 = .ok (.iconst (-1), 1) := by decide +kernel
theorem dX10_reasonFor_49 : decode cX10_reasonFor 49 = .ok (.if_icmp .eq 5, 3) := by decide +kernel
theorem dX10_reasonFor_52 : decode cX10_reasonFor 52 = .ok (.iconst 2, 1) := by decide +kernel
theorem dX10_reasonFor_53 : decode cX10_reasonFor 53 = .ok (.ireturn, 1) := by decide +kernel
theorem dX10_reasonFor_54 : decode cX10_reasonFor 54 = .ok (.iload_n 1, 1) := by decide +kernel
theorem dX10_reasonFor_55 : decode cX10_reasonFor 55 = .ok (.iconst (-1), 1) := by decide +kernel
theorem dX10_reasonFor_56 : decode cX10_reasonFor 56 = .ok (.if_icmp .eq 19, 3) := by decide +kernel
theorem dX10_reasonFor_59 : decode cX10_reasonFor 59 = .ok (.iload_n 1, 1) := by decide +kernel
theorem dX10_reasonFor_60 : decode cX10_reasonFor 60 = .ok (.iload_n 2, 1) := by decide +kernel
theorem dX10_reasonFor_61 : decode cX10_reasonFor 61 = .ok (.if_icmp .eq 12, 3) := by decide +kernel
theorem dX10_reasonFor_64 : decode cX10_reasonFor 64 = .ok (.aload_n 0, 1) := by decide +kernel
theorem dX10_reasonFor_65 : decode cX10_reasonFor 65 = .ok (.iload_n 2, 1) := by decide +kernel
theorem dX10_reasonFor_66 : decode cX10_reasonFor 66 = .ok (.iload_n 1, 1) := by decide +kernel
theorem dX10_reasonFor_67 : decode cX10_reasonFor 67 = .ok (.invokevirtual 175, 3) := by decide +kernel
theorem dX10_reasonFor_70 : decode cX10_reasonFor 70 = .ok (.ifCond .eq 5, 3) := by decide +kernel
theorem dX10_reasonFor_73 : decode cX10_reasonFor 73 = .ok (.iconst 3, 1) := by decide +kernel
theorem dX10_reasonFor_74 : decode cX10_reasonFor 74 = .ok (.ireturn, 1) := by decide +kernel
theorem dX10_reasonFor_75 : decode cX10_reasonFor 75 = .ok (.aload_n 0, 1) := by decide +kernel
theorem dX10_reasonFor_76 : decode cX10_reasonFor 76 = .ok (.getfield 41, 3) := by decide +kernel
theorem dX10_reasonFor_79 : decode cX10_reasonFor 79 = .ok (.iload_n 2, 1) := by decide +kernel
theorem dX10_reasonFor_80 : decode cX10_reasonFor 80 = .ok (.iaload, 1) := by decide +kernel
theorem dX10_reasonFor_81 : decode cX10_reasonFor 81 = .ok (.iload_n 1, 1) := by decide +kernel
theorem dX10_reasonFor_82 : decode cX10_reasonFor 82 = .ok (.iconst (-1), 1) := by decide +kernel
theorem dX10_reasonFor_83 : decode cX10_reasonFor 83 = .ok (.if_icmp .ne 7, 3) := by decide +kernel
theorem dX10_reasonFor_86 : decode cX10_reasonFor 86 = .ok (.iconst 1, 1) := by decide +kernel
theorem dX10_reasonFor_87 : decode cX10_reasonFor 87 = .ok (.goto 11, 3) := by decide +kernel
theorem dX10_reasonFor_90 : decode cX10_reasonFor 90 = .ok (.iconst 1, 1) := by decide +kernel
theorem dX10_reasonFor_91 : decode cX10_reasonFor 91 = .ok (.aload_n 0, 1) := by decide +kernel
theorem dX10_reasonFor_92 : decode cX10_reasonFor 92 = .ok (.getfield 44, 3) := by decide +kernel
theorem dX10_reasonFor_95 : decode cX10_reasonFor 95 = .ok (.iload_n 1, 1) := by decide +kernel
theorem dX10_reasonFor_96 : decode cX10_reasonFor 96 = .ok (.iaload, 1) := by decide +kernel
theorem dX10_reasonFor_97 : decode cX10_reasonFor 97 = .ok (.iadd, 1) := by decide +kernel
theorem dX10_reasonFor_98 : decode cX10_reasonFor 98 = .ok (.imul, 1) := by decide +kernel
theorem dX10_reasonFor_99 : decode cX10_reasonFor 99 = .ok (.istore_n 3, 1) := by decide +kernel
theorem dX10_reasonFor_100 : decode cX10_reasonFor 100 = .ok (.aload_n 0, 1) := by decide +kernel
theorem dX10_reasonFor_101 : decode cX10_reasonFor 101 = .ok (.invokevirtual 179, 3) := by decide +kernel
theorem dX10_reasonFor_104 : decode cX10_reasonFor 104 = .ok (.iload_n 3, 1) := by decide +kernel
theorem dX10_reasonFor_105 : decode cX10_reasonFor 105 = .ok (.iadd, 1) := by decide +kernel
theorem dX10_reasonFor_106 : decode cX10_reasonFor 106 = .ok (.sipush 300, 3) := by decide +kernel
theorem dX10_reasonFor_109 : decode cX10_reasonFor 109 = .ok (.if_icmp .le 7, 3) := by decide +kernel
theorem dX10_reasonFor_112 : decode cX10_reasonFor 112 = .ok (.iconst 4, 1) := by decide +kernel
theorem dX10_reasonFor_113 : decode cX10_reasonFor 113 = .ok (.goto 4, 3) := by decide +kernel
theorem dX10_reasonFor_116 : decode cX10_reasonFor 116 = .ok (.iconst 0, 1) := by decide +kernel
theorem dX10_reasonFor_117 : decode cX10_reasonFor 117 = .ok (.ireturn, 1) := by decide +kernel
theorem dX10_refuses_0 : decode cX10_refuses 0 = .ok (.aload_n 0, 1) := by decide +kernel
theorem dX10_refuses_1 : decode cX10_refuses 1 = .ok (.iload_n 2, 1) := by decide +kernel
theorem dX10_refuses_2 : decode cX10_refuses 2 = .ok (.iconst (-1), 1) := by decide +kernel
theorem dX10_refuses_3 : decode cX10_refuses 3 = .ok (.if_icmp .ne 7, 3) := by decide +kernel
theorem dX10_refuses_6 : decode cX10_refuses 6 = .ok (.iconst 2, 1) := by decide +kernel
theorem dX10_refuses_7 : decode cX10_refuses 7 = .ok (.goto 4, 3) := by decide +kernel
theorem dX10_refuses_10 : decode cX10_refuses 10 = .ok (.iconst 3, 1) := by decide +kernel
theorem dX10_refuses_11 : decode cX10_refuses 11 = .ok (.putfield 183, 3) := by decide +kernel
theorem dX10_refuses_14 : decode cX10_refuses 14 = .ok (.aload_n 0, 1) := by decide +kernel
theorem dX10_refuses_15 : decode cX10_refuses 15 = .ok (.getfield 32, 3) := by decide +kernel
theorem dX10_refuses_18 : decode cX10_refuses 18 = .ok (.iconst 0, 1) := by decide +kernel
theorem dX10_refuses_19 : decode cX10_refuses 19 = .ok (.iload_n 1, 1) := by decide +kernel
theorem dX10_refuses_20 : decode cX10_refuses 20 = .ok (.iastore, 1) := by decide +kernel
theorem dX10_refuses_21 : decode cX10_refuses 21 = .ok (.aload_n 0, 1) := by decide +kernel
theorem dX10_refuses_22 : decode cX10_refuses 22 = .ok (.getfield 32, 3) := by decide +kernel
theorem dX10_refuses_25 : decode cX10_refuses 25 = .ok (.iconst 1, 1) := by decide +kernel
theorem dX10_refuses_26 : decode cX10_refuses 26 = .ok (.bipush 100, 2) := by decide +kernel
theorem dX10_refuses_28 : decode cX10_refuses 28 = .ok (.iload_n 2, 1) := by decide +kernel
theorem dX10_refuses_29 : decode cX10_refuses 29 = .ok (.iadd, 1) := by decide +kernel
theorem dX10_refuses_30 : decode cX10_refuses 30 = .ok (.iastore, 1) := by decide +kernel
theorem dX10_refuses_31 : decode cX10_refuses 31 = .ok (.aload_n 0, 1) := by decide +kernel
theorem dX10_refuses_32 : decode cX10_refuses 32 = .ok (.getfield 32, 3) := by decide +kernel
theorem dX10_refuses_35 : decode cX10_refuses 35 = .ok (.aload_n 0, 1) := by decide +kernel
theorem dX10_refuses_36 : decode cX10_refuses 36 = .ok (.getfield 183, 3) := by decide +kernel
theorem dX10_refuses_39 : decode cX10_refuses 39 = .ok (.iconst 1, 1) := by decide +kernel
theorem dX10_refuses_40 : decode cX10_refuses 40 = .ok (.isub, 1) := by decide +kernel
theorem dX10_refuses_41 : decode cX10_refuses 41 = .ok (.iload_n 3, 1) := by decide +kernel
theorem dX10_refuses_42 : decode cX10_refuses 42 = .ok (.iastore, 1) := by decide +kernel
theorem dX10_refuses_43 : decode cX10_refuses 43 = .ok (.aload_n 0, 1) := by decide +kernel
theorem dX10_refuses_44 : decode cX10_refuses 44 = .ok (.iconst 4, 1) := by decide +kernel
theorem dX10_refuses_45 : decode cX10_refuses 45 = .ok (.invokevirtual 186, 3) := by decide +kernel
theorem dX10_refuses_48 : decode cX10_refuses 48 = .ok (.ireturn, 1) := by decide +kernel
theorem dX10_puts_0 : decode cX10_puts 0 = .ok (.sipush 977, 3) := by decide +kernel
theorem dX10_puts_3 : decode cX10_puts 3 = .ok (.bipush 12, 2) := by decide +kernel
theorem dX10_puts_5 : decode cX10_puts 5 = .ok (.iload_n 1, 1) := by decide +kernel
theorem dX10_puts_6 : decode cX10_puts 6 = .ok (.imul, 1) := by decide +kernel
theorem dX10_puts_7 : decode cX10_puts 7 = .ok (.iadd, 1) := by decide +kernel
theorem dX10_puts_8 : decode cX10_puts 8 = .ok (.istore 4, 2) := by decide +kernel
theorem dX10_puts_10 : decode cX10_puts 10 = .ok (.aload_n 0, 1) := by decide +kernel
theorem dX10_puts_11 : decode cX10_puts 11 = .ok (.getfield 7, 3) := by decide +kernel
theorem dX10_puts_14 : decode cX10_puts 14 = .ok (.sipush 916, 3) := by decide +kernel
theorem dX10_puts_17 : decode cX10_puts 17 = .ok (.iload_n 1, 1) := by decide +kernel
theorem dX10_puts_18 : decode cX10_puts 18 = .ok (.iadd, 1) := by decide +kernel
theorem dX10_puts_19 : decode cX10_puts 19 = .ok (.iaload, 1) := by decide +kernel
theorem dX10_puts_20 : decode cX10_puts 20 = .ok (.istore 5, 2) := by decide +kernel
theorem dX10_puts_22 : decode cX10_puts 22 = .ok (.iload 5, 2) := by decide +kernel
theorem dX10_puts_24 : decode cX10_puts 24 = .ok (.iload_n 2, 1) := by decide +kernel
theorem dX10_puts_25 : decode cX10_puts 25 = .ok (.if_icmp .le 31, 3) := by decide +kernel
theorem dX10_puts_28 : decode cX10_puts 28 = .ok (.aload_n 0, 1) := by decide +kernel
theorem dX10_puts_29 : decode cX10_puts 29 = .ok (.getfield 7, 3) := by decide +kernel
theorem dX10_puts_32 : decode cX10_puts 32 = .ok (.iload 4, 2) := by decide +kernel
theorem dX10_puts_34 : decode cX10_puts 34 = .ok (.iload 5, 2) := by decide +kernel
theorem dX10_puts_36 : decode cX10_puts 36 = .ok (.iadd, 1) := by decide +kernel
theorem dX10_puts_37 : decode cX10_puts 37 = .ok (.aload_n 0, 1) := by decide +kernel
theorem dX10_puts_38 : decode cX10_puts 38 = .ok (.getfield 7, 3) := by decide +kernel
theorem dX10_puts_41 : decode cX10_puts 41 = .ok (.iload 4, 2) := by decide +kernel
theorem dX10_puts_43 : decode cX10_puts 43 = .ok (.iload 5, 2) := by decide +kernel
theorem dX10_puts_45 : decode cX10_puts 45 = .ok (.iadd, 1) := by decide +kernel
theorem dX10_puts_46 : decode cX10_puts 46 = .ok (.iconst 1, 1) := by decide +kernel
theorem dX10_puts_47 : decode cX10_puts 47 = .ok (.isub, 1) := by decide +kernel
theorem dX10_puts_48 : decode cX10_puts 48 = .ok (.iaload, 1) := by decide +kernel
theorem dX10_puts_49 : decode cX10_puts 49 = .ok (.iastore, 1) := by decide +kernel
theorem dX10_puts_50 : decode cX10_puts 50 = .ok (.iinc 5 (-1), 3) := by decide +kernel
theorem dX10_puts_53 : decode cX10_puts 53 = .ok (.goto (-31), 3) := by decide +kernel
theorem dX10_puts_56 : decode cX10_puts 56 = .ok (.aload_n 0, 1) := by decide +kernel
theorem dX10_puts_57 : decode cX10_puts 57 = .ok (.getfield 7, 3) := by decide +kernel
theorem dX10_puts_60 : decode cX10_puts 60 = .ok (.iload 4, 2) := by decide +kernel
theorem dX10_puts_62 : decode cX10_puts 62 = .ok (.iload_n 2, 1) := by decide +kernel
theorem dX10_puts_63 : decode cX10_puts 63 = .ok (.iadd, 1) := by decide +kernel
theorem dX10_puts_64 : decode cX10_puts 64 = .ok (.iload_n 3, 1) := by decide +kernel
theorem dX10_puts_65 : decode cX10_puts 65 = .ok (.iastore, 1) := by decide +kernel
theorem dX10_puts_66 : decode cX10_puts 66 = .ok (.aload_n 0, 1) := by decide +kernel
theorem dX10_puts_67 : decode cX10_puts 67 = .ok (.getfield 7, 3) := by decide +kernel
theorem dX10_puts_70 : decode cX10_puts 70 = .ok (.sipush 916, 3) := by decide +kernel
theorem dX10_puts_73 : decode cX10_puts 73 = .ok (.iload_n 1, 1) := by decide +kernel
theorem dX10_puts_74 : decode cX10_puts 74 = .ok (.iadd, 1) := by decide +kernel
theorem dX10_puts_75 : decode cX10_puts 75 = .ok (.dup2, 1) := by decide +kernel
theorem dX10_puts_76 : decode cX10_puts 76 = .ok (.iaload, 1) := by decide +kernel
theorem dX10_puts_77 : decode cX10_puts 77 = .ok (.iconst 1, 1) := by decide +kernel
theorem dX10_puts_78 : decode cX10_puts 78 = .ok (.iadd, 1) := by decide +kernel
theorem dX10_puts_79 : decode cX10_puts 79 = .ok (.iastore, 1) := by decide +kernel
theorem dX10_puts_80 : decode cX10_puts 80 = .ok (.return_, 1) := by decide +kernel
theorem dX10_pulls_0 : decode cX10_pulls 0 = .ok (.sipush 977, 3) := by decide +kernel
theorem dX10_pulls_3 : decode cX10_pulls 3 = .ok (.bipush 12, 2) := by decide +kernel
theorem dX10_pulls_5 : decode cX10_pulls 5 = .ok (.iload_n 1, 1) := by decide +kernel
theorem dX10_pulls_6 : decode cX10_pulls 6 = .ok (.imul, 1) := by decide +kernel
theorem dX10_pulls_7 : decode cX10_pulls 7 = .ok (.iadd, 1) := by decide +kernel
theorem dX10_pulls_8 : decode cX10_pulls 8 = .ok (.istore_n 3, 1) := by decide +kernel
theorem dX10_pulls_9 : decode cX10_pulls 9 = .ok (.aload_n 0, 1) := by decide +kernel
theorem dX10_pulls_10 : decode cX10_pulls 10 = .ok (.getfield 7, 3) := by decide +kernel
theorem dX10_pulls_13 : decode cX10_pulls 13 = .ok (.iload_n 3, 1) := by decide +kernel
theorem dX10_pulls_14 : decode cX10_pulls 14 = .ok (.iload_n 2, 1) := by decide +kernel
theorem dX10_pulls_15 : decode cX10_pulls 15 = .ok (.iadd, 1) := by decide +kernel
theorem dX10_pulls_16 : decode cX10_pulls 16 = .ok (.iaload, 1) := by decide +kernel
theorem dX10_pulls_17 : decode cX10_pulls 17 = .ok (.istore 4, 2) := by decide +kernel
theorem dX10_pulls_19 : decode cX10_pulls 19 = .ok (.aload_n 0, 1) := by decide +kernel
theorem dX10_pulls_20 : decode cX10_pulls 20 = .ok (.getfield 7, 3) := by decide +kernel
theorem dX10_pulls_23 : decode cX10_pulls 23 = .ok (.sipush 916, 3) := by decide +kernel
theorem dX10_pulls_26 : decode cX10_pulls 26 = .ok (.iload_n 1, 1) := by decide +kernel
theorem dX10_pulls_27 : decode cX10_pulls 27 = .ok (.iadd, 1) := by decide +kernel
theorem dX10_pulls_28 : decode cX10_pulls 28 = .ok (.dup2, 1) := by decide +kernel
theorem dX10_pulls_29 : decode cX10_pulls 29 = .ok (.iaload, 1) := by decide +kernel
theorem dX10_pulls_30 : decode cX10_pulls 30 = .ok (.iconst 1, 1) := by decide +kernel
theorem dX10_pulls_31 : decode cX10_pulls 31 = .ok (.isub, 1) := by decide +kernel
theorem dX10_pulls_32 : decode cX10_pulls 32 = .ok (.iastore, 1) := by decide +kernel
theorem dX10_pulls_33 : decode cX10_pulls 33 = .ok (.iload_n 2, 1) := by decide +kernel
theorem dX10_pulls_34 : decode cX10_pulls 34 = .ok (.istore 5, 2) := by decide +kernel
theorem dX10_pulls_36 : decode cX10_pulls 36 = .ok (.iload 5, 2) := by decide +kernel
theorem dX10_pulls_38 : decode cX10_pulls 38 = .ok (.aload_n 0, 1) := by decide +kernel
theorem dX10_pulls_39 : decode cX10_pulls 39 = .ok (.getfield 7, 3) := by decide +kernel
theorem dX10_pulls_42 : decode cX10_pulls 42 = .ok (.sipush 916, 3) := by decide +kernel
theorem dX10_pulls_45 : decode cX10_pulls 45 = .ok (.iload_n 1, 1) := by decide +kernel
theorem dX10_pulls_46 : decode cX10_pulls 46 = .ok (.iadd, 1) := by decide +kernel
theorem dX10_pulls_47 : decode cX10_pulls 47 = .ok (.iaload, 1) := by decide +kernel
theorem dX10_pulls_48 : decode cX10_pulls 48 = .ok (.if_icmp .ge 29, 3) := by decide +kernel
theorem dX10_pulls_51 : decode cX10_pulls 51 = .ok (.aload_n 0, 1) := by decide +kernel
theorem dX10_pulls_52 : decode cX10_pulls 52 = .ok (.getfield 7, 3) := by decide +kernel
theorem dX10_pulls_55 : decode cX10_pulls 55 = .ok (.iload_n 3, 1) := by decide +kernel
theorem dX10_pulls_56 : decode cX10_pulls 56 = .ok (.iload 5, 2) := by decide +kernel
theorem dX10_pulls_58 : decode cX10_pulls 58 = .ok (.iadd, 1) := by decide +kernel
theorem dX10_pulls_59 : decode cX10_pulls 59 = .ok (.aload_n 0, 1) := by decide +kernel
theorem dX10_pulls_60 : decode cX10_pulls 60 = .ok (.getfield 7, 3) := by decide +kernel
theorem dX10_pulls_63 : decode cX10_pulls 63 = .ok (.iload_n 3, 1) := by decide +kernel
theorem dX10_pulls_64 : decode cX10_pulls 64 = .ok (.iload 5, 2) := by decide +kernel
theorem dX10_pulls_66 : decode cX10_pulls 66 = .ok (.iadd, 1) := by decide +kernel
theorem dX10_pulls_67 : decode cX10_pulls 67 = .ok (.iconst 1, 1) := by decide +kernel
theorem dX10_pulls_68 : decode cX10_pulls 68 = .ok (.iadd, 1) := by decide +kernel
theorem dX10_pulls_69 : decode cX10_pulls 69 = .ok (.iaload, 1) := by decide +kernel
theorem dX10_pulls_70 : decode cX10_pulls 70 = .ok (.iastore, 1) := by decide +kernel
theorem dX10_pulls_71 : decode cX10_pulls 71 = .ok (.iinc 5 1, 3) := by decide +kernel
theorem dX10_pulls_74 : decode cX10_pulls 74 = .ok (.goto (-38), 3) := by decide +kernel
theorem dX10_pulls_77 : decode cX10_pulls 77 = .ok (.iload 4, 2) := by decide +kernel
theorem dX10_pulls_79 : decode cX10_pulls 79 = .ok (.ireturn, 1) := by decide +kernel
theorem dX10_items_0 : decode cX10_items 0 = .ok (.iconst 0, 1) := by decide +kernel
theorem dX10_items_1 : decode cX10_items 1 = .ok (.istore_n 1, 1) := by decide +kernel
theorem dX10_items_2 : decode cX10_items 2 = .ok (.iconst 0, 1) := by decide +kernel
theorem dX10_items_3 : decode cX10_items 3 = .ok (.istore_n 2, 1) := by decide +kernel
theorem dX10_items_4 : decode cX10_items 4 = .ok (.iload_n 2, 1) := by decide +kernel
theorem dX10_items_5 : decode cX10_items 5 = .ok (.bipush 61, 2) := by decide +kernel
theorem dX10_items_7 : decode cX10_items 7 = .ok (.if_icmp .ge 20, 3) := by decide +kernel
theorem dX10_items_10 : decode cX10_items 10 = .ok (.iload_n 1, 1) := by decide +kernel
theorem dX10_items_11 : decode cX10_items 11 = .ok (.aload_n 0, 1) := by decide +kernel
theorem dX10_items_12 : decode cX10_items 12 = .ok (.getfield 7, 3) := by decide +kernel
theorem dX10_items_15 : decode cX10_items 15 = .ok (.iconst 1, 1) := by decide +kernel
theorem dX10_items_16 : decode cX10_items 16 = .ok (.iload_n 2, 1) := by decide +kernel
theorem dX10_items_17 : decode cX10_items 17 = .ok (.iadd, 1) := by decide +kernel
theorem dX10_items_18 : decode cX10_items 18 = .ok (.iaload, 1) := by decide +kernel
theorem dX10_items_19 : decode cX10_items 19 = .ok (.iadd, 1) := by decide +kernel
theorem dX10_items_20 : decode cX10_items 20 = .ok (.istore_n 1, 1) := by decide +kernel
theorem dX10_items_21 : decode cX10_items 21 = .ok (.iinc 2 1, 3) := by decide +kernel
theorem dX10_items_24 : decode cX10_items 24 = .ok (.goto (-20), 3) := by decide +kernel
theorem dX10_items_27 : decode cX10_items 27 = .ok (.iload_n 1, 1) := by decide +kernel
theorem dX10_items_28 : decode cX10_items 28 = .ok (.ireturn, 1) := by decide +kernel
theorem dX10_clear_0 : decode cX10_clear 0 = .ok (.aload_n 0, 1) := by decide +kernel
theorem dX10_clear_1 : decode cX10_clear 1 = .ok (.iconst 0, 1) := by decide +kernel
theorem dX10_clear_2 : decode cX10_clear 2 = .ok (.putfield 139, 3) := by decide +kernel
theorem dX10_clear_5 : decode cX10_clear 5 = .ok (.aload_n 0, 1) := by decide +kernel
theorem dX10_clear_6 : decode cX10_clear 6 = .ok (.invokevirtual 190, 3) := by decide +kernel
theorem dX10_clear_9 : decode cX10_clear 9 = .ok (.istore_n 1, 1) := by decide +kernel
theorem dX10_clear_10 : decode cX10_clear 10 = .ok (.aload_n 0, 1) := by decide +kernel
theorem dX10_clear_11 : decode cX10_clear 11 = .ok (.invokevirtual 136, 3) := by decide +kernel
theorem dX10_clear_14 : decode cX10_clear 14 = .ok (.aload_n 0, 1) := by decide +kernel
theorem dX10_clear_15 : decode cX10_clear 15 = .ok (.iconst 0, 1) := by decide +kernel
theorem dX10_clear_16 : decode cX10_clear 16 = .ok (.putfield 157, 3) := by decide +kernel
theorem dX10_clear_19 : decode cX10_clear 19 = .ok (.aload_n 0, 1) := by decide +kernel
theorem dX10_clear_20 : decode cX10_clear 20 = .ok (.iconst 0, 1) := by decide +kernel
theorem dX10_clear_21 : decode cX10_clear 21 = .ok (.putfield 154, 3) := by decide +kernel
theorem dX10_clear_24 : decode cX10_clear 24 = .ok (.aload_n 0, 1) := by decide +kernel
theorem dX10_clear_25 : decode cX10_clear 25 = .ok (.iconst 0, 1) := by decide +kernel
theorem dX10_clear_26 : decode cX10_clear 26 = .ok (.putfield 193, 3) := by decide +kernel
theorem dX10_clear_29 : decode cX10_clear 29 = .ok (.iload_n 1, 1) := by decide +kernel
theorem dX10_clear_30 : decode cX10_clear 30 = .ok (.ireturn, 1) := by decide +kernel
theorem dX10_append_0 : decode cX10_append 0 = .ok (.aload_n 0, 1) := by decide +kernel
theorem dX10_append_1 : decode cX10_append 1 = .ok (.iconst 0, 1) := by decide +kernel
theorem dX10_append_2 : decode cX10_append 2 = .ok (.putfield 139, 3) := by decide +kernel
theorem dX10_append_5 : decode cX10_append 5 = .ok (.iconst 0, 1) := by decide +kernel
theorem dX10_append_6 : decode cX10_append 6 = .ok (.istore_n 2, 1) := by decide +kernel
theorem dX10_append_7 : decode cX10_append 7 = .ok (.iconst 1, 1) := by decide +kernel
theorem dX10_append_8 : decode cX10_append 8 = .ok (.istore_n 3, 1) := by decide +kernel
theorem dX10_append_9 : decode cX10_append 9 = .ok (.iconst 3, 1) := by decide +kernel
theorem dX10_append_10 : decode cX10_append 10 = .ok (.istore 4, 2) := by decide +kernel
theorem dX10_append_12 : decode cX10_append 12 = .ok (.iload 4, 2) := by decide +kernel
theorem dX10_append_14 : decode cX10_append 14 = .ok (.ifCond .lt 62, 3) := by decide +kernel
theorem dX10_append_17 : decode cX10_append 17 = .ok (.iload_n 1, 1) := by decide +kernel
theorem dX10_append_18 : decode cX10_append 18 = .ok (.bipush 8, 2) := by decide +kernel
theorem dX10_append_20 : decode cX10_append 20 = .ok (.iload 4, 2) := by decide +kernel
theorem dX10_append_22 : decode cX10_append 22 = .ok (.imul, 1) := by decide +kernel
theorem dX10_append_23 : decode cX10_append 23 = .ok (.ishr, 1) := by decide +kernel
theorem dX10_append_24 : decode cX10_append 24 = .ok (.sipush 255, 3) := by decide +kernel
theorem dX10_append_27 : decode cX10_append 27 = .ok (.iand, 1) := by decide +kernel
theorem dX10_append_28 : decode cX10_append 28 = .ok (.istore 5, 2) := by decide +kernel
theorem dX10_append_30 : decode cX10_append 30 = .ok (.iload_n 2, 1) := by decide +kernel
theorem dX10_append_31 : decode cX10_append 31 = .ok (.iload 5, 2) := by decide +kernel
theorem dX10_append_33 : decode cX10_append 33 = .ok (.ifCond .ne 7, 3) := by decide +kernel
theorem dX10_append_36 : decode cX10_append 36 = .ok (.iconst 0, 1) := by decide +kernel
theorem dX10_append_37 : decode cX10_append 37 = .ok (.goto 4, 3) := by decide +kernel
theorem dX10_append_40 : decode cX10_append 40 = .ok (.iconst 1, 1) := by decide +kernel
theorem dX10_append_41 : decode cX10_append 41 = .ok (.iadd, 1) := by decide +kernel
theorem dX10_append_42 : decode cX10_append 42 = .ok (.istore_n 2, 1) := by decide +kernel
theorem dX10_append_43 : decode cX10_append 43 = .ok (.iload_n 3, 1) := by decide +kernel
theorem dX10_append_44 : decode cX10_append 44 = .ok (.ifCond .eq 24, 3) := by decide +kernel
theorem dX10_append_47 : decode cX10_append 47 = .ok (.iload 5, 2) := by decide +kernel
theorem dX10_append_49 : decode cX10_append 49 = .ok (.ifCond .eq 15, 3) := by decide +kernel
theorem dX10_append_52 : decode cX10_append 52 = .ok (.iload 5, 2) := by decide +kernel
theorem dX10_append_54 : decode cX10_append 54 = .ok (.bipush 32, 2) := by decide +kernel
theorem dX10_append_56 : decode cX10_append 56 = .ok (.bipush 126, 2) := by decide +kernel
theorem dX10_append_58 : decode cX10_append 58 = .ok (.invokestatic 142, 3) := by decide +kernel
theorem dX10_append_61 : decode cX10_append 61 = .ok (.ifCond .eq 7, 3) := by decide +kernel
theorem dX10_append_64 : decode cX10_append 64 = .ok (.iconst 1, 1) := by decide +kernel
theorem dX10_append_65 : decode cX10_append 65 = .ok (.goto 4, 3) := by decide +kernel
theorem dX10_append_68 : decode cX10_append 68 = .ok (.iconst 0, 1) := by decide +kernel
theorem dX10_append_69 : decode cX10_append 69 = .ok (.istore_n 3, 1) := by decide +kernel
theorem dX10_append_70 : decode cX10_append 70 = .ok (.iinc 4 (-1), 3) := by decide +kernel
theorem dX10_append_73 : decode cX10_append 73 = .ok (.goto (-61), 3) := by decide +kernel
theorem dX10_append_76 : decode cX10_append 76 = .ok (.iload_n 3, 1) := by decide +kernel
theorem dX10_append_77 : decode cX10_append 77 = .ok (.ifCond .ne 9, 3) := by decide +kernel
theorem dX10_append_80 : decode cX10_append 80 = .ok (.aload_n 0, 1) := by decide +kernel
theorem dX10_append_81 : decode cX10_append 81 = .ok (.iconst 1, 1) := by decide +kernel
theorem dX10_append_82 : decode cX10_append 82 = .ok (.invokevirtual 186, 3) := by decide +kernel
theorem dX10_append_85 : decode cX10_append 85 = .ok (.ireturn, 1) := by decide +kernel
theorem dX10_append_86 : decode cX10_append 86 = .ok (.aload_n 0, 1) := by decide +kernel
theorem dX10_append_87 : decode cX10_append 87 = .ok (.getfield 196, 3) := by decide +kernel
theorem dX10_append_90 : decode cX10_append 90 = .ok (.iload_n 2, 1) := by decide +kernel
theorem dX10_append_91 : decode cX10_append 91 = .ok (.iadd, 1) := by decide +kernel
theorem dX10_append_92 : decode cX10_append 92 = .ok (.bipush 80, 2) := by decide +kernel
theorem dX10_append_94 : decode cX10_append 94 = .ok (.if_icmp .le 9, 3) := by decide +kernel
theorem dX10_append_97 : decode cX10_append 97 = .ok (.aload_n 0, 1) := by decide +kernel
theorem dX10_append_98 : decode cX10_append 98 = .ok (.iconst 2, 1) := by decide +kernel
theorem dX10_append_99 : decode cX10_append 99 = .ok (.invokevirtual 186, 3) := by decide +kernel
theorem dX10_append_102 : decode cX10_append 102 = .ok (.ireturn, 1) := by decide +kernel
theorem dX10_append_103 : decode cX10_append 103 = .ok (.iconst 3, 1) := by decide +kernel
theorem dX10_append_104 : decode cX10_append 104 = .ok (.istore 4, 2) := by decide +kernel
theorem dX10_append_106 : decode cX10_append 106 = .ok (.iload 4, 2) := by decide +kernel
theorem dX10_append_108 : decode cX10_append 108 = .ok (.ifCond .lt 48, 3) := by decide +kernel
theorem dX10_append_111 : decode cX10_append 111 = .ok (.iload_n 1, 1) := by decide +kernel
theorem dX10_append_112 : decode cX10_append 112 = .ok (.bipush 8, 2) := by decide +kernel
theorem dX10_append_114 : decode cX10_append 114 = .ok (.iload 4, 2) := by decide +kernel
theorem dX10_append_116 : decode cX10_append 116 = .ok (.imul, 1) := by decide +kernel
theorem dX10_append_117 : decode cX10_append 117 = .ok (.ishr, 1) := by decide +kernel
theorem dX10_append_118 : decode cX10_append 118 = .ok (.sipush 255, 3) := by decide +kernel
theorem dX10_append_121 : decode cX10_append 121 = .ok (.iand, 1) := by decide +kernel
theorem dX10_append_122 : decode cX10_append 122 = .ok (.istore 5, 2) := by decide +kernel
theorem dX10_append_124 : decode cX10_append 124 = .ok (.iload 5, 2) := by decide +kernel
theorem dX10_append_126 : decode cX10_append 126 = .ok (.ifCond .eq 24, 3) := by decide +kernel
theorem dX10_append_129 : decode cX10_append 129 = .ok (.aload_n 0, 1) := by decide +kernel
theorem dX10_append_130 : decode cX10_append 130 = .ok (.getfield 25, 3) := by decide +kernel
theorem dX10_append_133 : decode cX10_append 133 = .ok (.aload_n 0, 1) := by decide +kernel
theorem dX10_append_134 : decode cX10_append 134 = .ok (.getfield 196, 3) := by decide +kernel
theorem dX10_append_137 : decode cX10_append 137 = .ok (.iload 5, 2) := by decide +kernel
theorem dX10_append_139 : decode cX10_append 139 = .ok (.iastore, 1) := by decide +kernel
theorem dX10_append_140 : decode cX10_append 140 = .ok (.aload_n 0, 1) := by decide +kernel
theorem dX10_append_141 : decode cX10_append 141 = .ok (.dup, 1) := by decide +kernel
theorem dX10_append_142 : decode cX10_append 142 = .ok (.getfield 196, 3) := by decide +kernel
theorem dX10_append_145 : decode cX10_append 145 = .ok (.iconst 1, 1) := by decide +kernel
theorem dX10_append_146 : decode cX10_append 146 = .ok (.iadd, 1) := by decide +kernel
theorem dX10_append_147 : decode cX10_append 147 = .ok (.putfield 196, 3) := by decide +kernel
theorem dX10_append_150 : decode cX10_append 150 = .ok (.iinc 4 (-1), 3) := by decide +kernel
theorem dX10_append_153 : decode cX10_append 153 = .ok (.goto (-47), 3) := by decide +kernel
theorem dX10_append_156 : decode cX10_append 156 = .ok (.aload_n 0, 1) := by decide +kernel
theorem dX10_append_157 : decode cX10_append 157 = .ok (.getfield 196, 3) := by decide +kernel
theorem dX10_append_160 : decode cX10_append 160 = .ok (.ireturn, 1) := by decide +kernel
theorem dX10_here_0 : decode cX10_here 0 = .ok (.aload_n 0, 1) := by decide +kernel
theorem dX10_here_1 : decode cX10_here 1 = .ok (.getfield 199, 3) := by decide +kernel
theorem dX10_here_4 : decode cX10_here 4 = .ok (.aload_n 0, 1) := by decide +kernel
theorem dX10_here_5 : decode cX10_here 5 = .ok (.getfield 202, 3) := by decide +kernel
theorem dX10_here_8 : decode cX10_here 8 = .ok (.if_icmp .ge 15, 3) := by decide +kernel
theorem dX10_here_11 : decode cX10_here 11 = .ok (.aload_n 0, 1) := by decide +kernel
theorem dX10_here_12 : decode cX10_here 12 = .ok (.getfield 25, 3) := by decide +kernel
theorem dX10_here_15 : decode cX10_here 15 = .ok (.aload_n 0, 1) := by decide +kernel
theorem dX10_here_16 : decode cX10_here 16 = .ok (.getfield 199, 3) := by decide +kernel
theorem dX10_here_19 : decode cX10_here 19 = .ok (.iaload, 1) := by decide +kernel
theorem dX10_here_20 : decode cX10_here 20 = .ok (.goto 4, 3) := by decide +kernel
theorem dX10_here_23 : decode cX10_here 23 = .ok (.iconst (-1), 1) := by decide +kernel
theorem dX10_here_24 : decode cX10_here 24 = .ok (.ireturn, 1) := by decide +kernel
theorem dX10_begins_0 : decode cX10_begins 0 = .ok (.aload_n 0, 1) := by decide +kernel
theorem dX10_begins_1 : decode cX10_begins 1 = .ok (.iconst 0, 1) := by decide +kernel
theorem dX10_begins_2 : decode cX10_begins 2 = .ok (.putfield 199, 3) := by decide +kernel
theorem dX10_begins_5 : decode cX10_begins 5 = .ok (.aload_n 0, 1) := by decide +kernel
theorem dX10_begins_6 : decode cX10_begins 6 = .ok (.aload_n 0, 1) := by decide +kernel
theorem dX10_begins_7 : decode cX10_begins 7 = .ok (.getfield 196, 3) := by decide +kernel
theorem dX10_begins_10 : decode cX10_begins 10 = .ok (.putfield 202, 3) := by decide +kernel
theorem dX10_begins_13 : decode cX10_begins 13 = .ok (.aload_n 0, 1) := by decide +kernel
theorem dX10_begins_14 : decode cX10_begins 14 = .ok (.iconst 0, 1) := by decide +kernel
theorem dX10_begins_15 : decode cX10_begins 15 = .ok (.putfield 196, 3) := by decide +kernel
theorem dX10_begins_18 : decode cX10_begins 18 = .ok (.aload_n 0, 1) := by decide +kernel
theorem dX10_begins_19 : decode cX10_begins 19 = .ok (.iconst 1, 1) := by decide +kernel
theorem dX10_begins_20 : decode cX10_begins 20 = .ok (.putfield 205, 3) := by decide +kernel
theorem dX10_begins_23 : decode cX10_begins 23 = .ok (.return_, 1) := by decide +kernel
theorem dX10_skips_0 : decode cX10_skips 0 = .ok (.aload_n 0, 1) := by decide +kernel
theorem dX10_skips_1 : decode cX10_skips 1 = .ok (.getfield 205, 3) := by decide +kernel
theorem dX10_skips_4 : decode cX10_skips 4 = .ok (.ifCond .eq 15, 3) := by decide +kernel
theorem dX10_skips_7 : decode cX10_skips 7 = .ok (.aload_n 0, 1) := by decide +kernel
theorem dX10_skips_8 : decode cX10_skips 8 = .ok (.invokevirtual 209, 3) := by decide +kernel
theorem dX10_skips_11 : decode cX10_skips 11 = .ok (.iload_n 1, 1) := by decide +kernel
theorem dX10_skips_12 : decode cX10_skips 12 = .ok (.if_icmp .ne 7, 3) := by decide +kernel
theorem dX10_skips_15 : decode cX10_skips 15 = .ok (.iconst 1, 1) := by decide +kernel
theorem dX10_skips_16 : decode cX10_skips 16 = .ok (.goto 4, 3) := by decide +kernel
theorem dX10_skips_19 : decode cX10_skips 19 = .ok (.iconst 0, 1) := by decide +kernel
theorem dX10_skips_20 : decode cX10_skips 20 = .ok (.istore_n 2, 1) := by decide +kernel
theorem dX10_skips_21 : decode cX10_skips 21 = .ok (.aload_n 0, 1) := by decide +kernel
theorem dX10_skips_22 : decode cX10_skips 22 = .ok (.dup, 1) := by decide +kernel
theorem dX10_skips_23 : decode cX10_skips 23 = .ok (.getfield 199, 3) := by decide +kernel
theorem dX10_skips_26 : decode cX10_skips 26 = .ok (.iload_n 2, 1) := by decide +kernel
theorem dX10_skips_27 : decode cX10_skips 27 = .ok (.ifCond .eq 7, 3) := by decide +kernel
theorem dX10_skips_30 : decode cX10_skips 30 = .ok (.iconst 1, 1) := by decide +kernel
theorem dX10_skips_31 : decode cX10_skips 31 = .ok (.goto 4, 3) := by decide +kernel
theorem dX10_skips_34 : decode cX10_skips 34 = .ok (.iconst 0, 1) := by decide +kernel
theorem dX10_skips_35 : decode cX10_skips 35 = .ok (.iadd, 1) := by decide +kernel
theorem dX10_skips_36 : decode cX10_skips 36 = .ok (.putfield 199, 3) := by decide +kernel
theorem dX10_skips_39 : decode cX10_skips 39 = .ok (.iload_n 2, 1) := by decide +kernel
theorem dX10_skips_40 : decode cX10_skips 40 = .ok (.ireturn, 1) := by decide +kernel
theorem dX10_letters_0 : decode cX10_letters 0 = .ok (.aload_n 0, 1) := by decide +kernel
theorem dX10_letters_1 : decode cX10_letters 1 = .ok (.getfield 199, 3) := by decide +kernel
theorem dX10_letters_4 : decode cX10_letters 4 = .ok (.istore_n 1, 1) := by decide +kernel
theorem dX10_letters_5 : decode cX10_letters 5 = .ok (.aload_n 0, 1) := by decide +kernel
theorem dX10_letters_6 : decode cX10_letters 6 = .ok (.getfield 205, 3) := by decide +kernel
theorem dX10_letters_9 : decode cX10_letters 9 = .ok (.ifCond .eq 61, 3) := by decide +kernel
theorem dX10_letters_12 : decode cX10_letters 12 = .ok (.aload_n 0, 1) := by decide +kernel
theorem dX10_letters_13 : decode cX10_letters 13 = .ok (.invokevirtual 209, 3) := by decide +kernel
theorem dX10_letters_16 : decode cX10_letters 16 = .ok (.bipush 97, 2) := by decide +kernel
theorem dX10_letters_18 : decode cX10_letters 18 = .ok (.bipush 122, 2) := by decide +kernel
theorem dX10_letters_20 : decode cX10_letters 20 = .ok (.invokestatic 142, 3) := by decide +kernel
theorem dX10_letters_23 : decode cX10_letters 23 = .ok (.ifCond .eq 47, 3) := by decide +kernel
theorem dX10_letters_26 : decode cX10_letters 26 = .ok (.aload_n 0, 1) := by decide +kernel
theorem dX10_letters_27 : decode cX10_letters 27 = .ok (.aload_n 0, 1) := by decide +kernel
theorem dX10_letters_28 : decode cX10_letters 28 = .ok (.getfield 199, 3) := by decide +kernel
theorem dX10_letters_31 : decode cX10_letters 31 = .ok (.iload_n 1, 1) := by decide +kernel
theorem dX10_letters_32 : decode cX10_letters 32 = .ok (.isub, 1) := by decide +kernel
theorem dX10_letters_33 : decode cX10_letters 33 = .ok (.bipush 10, 2) := by decide +kernel
theorem dX10_letters_35 : decode cX10_letters 35 = .ok (.if_icmp .ge 7, 3) := by decide +kernel
theorem dX10_letters_38 : decode cX10_letters 38 = .ok (.iconst 1, 1) := by decide +kernel
theorem dX10_letters_39 : decode cX10_letters 39 = .ok (.goto 4, 3) := by decide +kernel
theorem dX10_letters_42 : decode cX10_letters 42 = .ok (.iconst 0, 1) := by decide +kernel
theorem dX10_letters_43 : decode cX10_letters 43 = .ok (.putfield 205, 3) := by decide +kernel
theorem dX10_letters_46 : decode cX10_letters 46 = .ok (.aload_n 0, 1) := by decide +kernel
theorem dX10_letters_47 : decode cX10_letters 47 = .ok (.dup, 1) := by decide +kernel
theorem dX10_letters_48 : decode cX10_letters 48 = .ok (.getfield 199, 3) := by decide +kernel
theorem dX10_letters_51 : decode cX10_letters 51 = .ok (.aload_n 0, 1) := by decide +kernel
theorem dX10_letters_52 : decode cX10_letters 52 = .ok (.getfield 205, 3) := by decide +kernel
theorem dX10_letters_55 : decode cX10_letters 55 = .ok (.ifCond .eq 7, 3) := by decide +kernel
theorem dX10_letters_58 : decode cX10_letters 58 = .ok (.iconst 1, 1) := by decide +kernel
theorem dX10_letters_59 : decode cX10_letters 59 = .ok (.goto 4, 3) := by decide +kernel
theorem dX10_letters_62 : decode cX10_letters 62 = .ok (.iconst 0, 1) := by decide +kernel
theorem dX10_letters_63 : decode cX10_letters 63 = .ok (.iadd, 1) := by decide +kernel
theorem dX10_letters_64 : decode cX10_letters 64 = .ok (.putfield 199, 3) := by decide +kernel
theorem dX10_letters_67 : decode cX10_letters 67 = .ok (.goto (-62), 3) := by decide +kernel
theorem dX10_letters_70 : decode cX10_letters 70 = .ok (.aload_n 0, 1) := by decide +kernel
theorem dX10_letters_71 : decode cX10_letters 71 = .ok (.aload_n 0, 1) := by decide +kernel
theorem dX10_letters_72 : decode cX10_letters 72 = .ok (.getfield 205, 3) := by decide +kernel
theorem dX10_letters_75 : decode cX10_letters 75 = .ok (.ifCond .eq 15, 3) := by decide +kernel
theorem dX10_letters_78 : decode cX10_letters 78 = .ok (.aload_n 0, 1) := by decide +kernel
theorem dX10_letters_79 : decode cX10_letters 79 = .ok (.getfield 199, 3) := by decide +kernel
theorem dX10_letters_82 : decode cX10_letters 82 = .ok (.iload_n 1, 1) := by decide +kernel
theorem dX10_letters_83 : decode cX10_letters 83 = .ok (.if_icmp .le 7, 3) := by decide +kernel
theorem dX10_letters_86 : decode cX10_letters 86 = .ok (.iconst 1, 1) := by decide +kernel
theorem dX10_letters_87 : decode cX10_letters 87 = .ok (.goto 4, 3) := by decide +kernel
theorem dX10_letters_90 : decode cX10_letters 90 = .ok (.iconst 0, 1) := by decide +kernel
theorem dX10_letters_91 : decode cX10_letters 91 = .ok (.putfield 205, 3) := by decide +kernel
theorem dX10_letters_94 : decode cX10_letters 94 = .ok (.iload_n 1, 1) := by decide +kernel
theorem dX10_letters_95 : decode cX10_letters 95 = .ok (.ireturn, 1) := by decide +kernel
theorem dX10_isName_0 : decode cX10_isName 0 = .ok (.aload_n 0, 1) := by decide +kernel
theorem dX10_isName_1 : decode cX10_isName 1 = .ok (.invokevirtual 212, 3) := by decide +kernel
theorem dX10_isName_4 : decode cX10_isName 4 = .ok (.aload_n 0, 1) := by decide +kernel
theorem dX10_isName_5 : decode cX10_isName 5 = .ok (.invokevirtual 215, 3) := by decide +kernel
theorem dX10_isName_8 : decode cX10_isName 8 = .ok (.pop, 1) := by decide +kernel
theorem dX10_isName_9 : decode cX10_isName 9 = .ok (.aload_n 0, 1) := by decide +kernel
theorem dX10_isName_10 : decode cX10_isName 10 = .ok (.aload_n 0, 1) := by decide +kernel
theorem dX10_isName_11 : decode cX10_isName 11 = .ok (.getfield 205, 3) := by decide +kernel
theorem dX10_isName_14 : decode cX10_isName 14 = .ok (.ifCond .eq 18, 3) := by decide +kernel
theorem dX10_isName_17 : decode cX10_isName 17 = .ok (.aload_n 0, 1) := by decide +kernel
theorem dX10_isName_18 : decode cX10_isName 18 = .ok (.getfield 199, 3) := by decide +kernel
theorem dX10_isName_21 : decode cX10_isName 21 = .ok (.aload_n 0, 1) := by decide +kernel
theorem dX10_isName_22 : decode cX10_isName 22 = .ok (.getfield 202, 3) := by decide +kernel
theorem dX10_isName_25 : decode cX10_isName 25 = .ok (.if_icmp .ne 7, 3) := by decide +kernel
theorem dX10_isName_28 : decode cX10_isName 28 = .ok (.iconst 1, 1) := by decide +kernel
theorem dX10_isName_29 : decode cX10_isName 29 = .ok (.goto 4, 3) := by decide +kernel
theorem dX10_isName_32 : decode cX10_isName 32 = .ok (.iconst 0, 1) := by decide +kernel
theorem dX10_isName_33 : decode cX10_isName 33 = .ok (.putfield 205, 3) := by decide +kernel
theorem dX10_isName_36 : decode cX10_isName 36 = .ok (.aload_n 0, 1) := by decide +kernel
theorem dX10_isName_37 : decode cX10_isName 37 = .ok (.aload_n 0, 1) := by decide +kernel
theorem dX10_isName_38 : decode cX10_isName 38 = .ok (.getfield 205, 3) := by decide +kernel
theorem dX10_isName_41 : decode cX10_isName 41 = .ok (.ifCond .eq 10, 3) := by decide +kernel
theorem dX10_isName_44 : decode cX10_isName 44 = .ok (.aload_n 0, 1) := by decide +kernel
theorem dX10_isName_45 : decode cX10_isName 45 = .ok (.getfield 28, 3) := by decide +kernel
theorem dX10_isName_48 : decode cX10_isName 48 = .ok (.goto 7, 3) := by decide +kernel
theorem dX10_isName_51 : decode cX10_isName 51 = .ok (.aload_n 0, 1) := by decide +kernel
theorem dX10_isName_52 : decode cX10_isName 52 = .ok (.getfield 199, 3) := by decide +kernel
theorem dX10_isName_55 : decode cX10_isName 55 = .ok (.putfield 28, 3) := by decide +kernel
theorem dX10_isName_58 : decode cX10_isName 58 = .ok (.aload_n 0, 1) := by decide +kernel
theorem dX10_isName_59 : decode cX10_isName 59 = .ok (.getfield 205, 3) := by decide +kernel
theorem dX10_isName_62 : decode cX10_isName 62 = .ok (.ireturn, 1) := by decide +kernel
theorem dX10_names_0 : decode cX10_names 0 = .ok (.aload_n 0, 1) := by decide +kernel
theorem dX10_names_1 : decode cX10_names 1 = .ok (.getfield 7, 3) := by decide +kernel
theorem dX10_names_4 : decode cX10_names 4 = .ok (.sipush 245, 3) := by decide +kernel
theorem dX10_names_7 : decode cX10_names 7 = .ok (.iload_n 1, 1) := by decide +kernel
theorem dX10_names_8 : decode cX10_names 8 = .ok (.iadd, 1) := by decide +kernel
theorem dX10_names_9 : decode cX10_names 9 = .ok (.iload_n 3, 1) := by decide +kernel
theorem dX10_names_10 : decode cX10_names 10 = .ok (.iload_n 2, 1) := by decide +kernel
theorem dX10_names_11 : decode cX10_names 11 = .ok (.isub, 1) := by decide +kernel
theorem dX10_names_12 : decode cX10_names 12 = .ok (.iastore, 1) := by decide +kernel
theorem dX10_names_13 : decode cX10_names 13 = .ok (.iload_n 2, 1) := by decide +kernel
theorem dX10_names_14 : decode cX10_names 14 = .ok (.istore 4, 2) := by decide +kernel
theorem dX10_names_16 : decode cX10_names 16 = .ok (.iload 4, 2) := by decide +kernel
theorem dX10_names_18 : decode cX10_names 18 = .ok (.iload_n 3, 1) := by decide +kernel
theorem dX10_names_19 : decode cX10_names 19 = .ok (.if_icmp .ge 34, 3) := by decide +kernel
theorem dX10_names_22 : decode cX10_names 22 = .ok (.aload_n 0, 1) := by decide +kernel
theorem dX10_names_23 : decode cX10_names 23 = .ok (.getfield 7, 3) := by decide +kernel
theorem dX10_names_26 : decode cX10_names 26 = .ok (.sipush 306, 3) := by decide +kernel
theorem dX10_names_29 : decode cX10_names 29 = .ok (.bipush 10, 2) := by decide +kernel
theorem dX10_names_31 : decode cX10_names 31 = .ok (.iload_n 1, 1) := by decide +kernel
theorem dX10_names_32 : decode cX10_names 32 = .ok (.imul, 1) := by decide +kernel
theorem dX10_names_33 : decode cX10_names 33 = .ok (.iadd, 1) := by decide +kernel
theorem dX10_names_34 : decode cX10_names 34 = .ok (.iload 4, 2) := by decide +kernel
theorem dX10_names_36 : decode cX10_names 36 = .ok (.iadd, 1) := by decide +kernel
theorem dX10_names_37 : decode cX10_names 37 = .ok (.iload_n 2, 1) := by decide +kernel
theorem dX10_names_38 : decode cX10_names 38 = .ok (.isub, 1) := by decide +kernel
theorem dX10_names_39 : decode cX10_names 39 = .ok (.aload_n 0, 1) := by decide +kernel
theorem dX10_names_40 : decode cX10_names 40 = .ok (.getfield 25, 3) := by decide +kernel
theorem dX10_names_43 : decode cX10_names 43 = .ok (.iload 4, 2) := by decide +kernel
theorem dX10_names_45 : decode cX10_names 45 = .ok (.iaload, 1) := by decide +kernel
theorem dX10_names_46 : decode cX10_names 46 = .ok (.iastore, 1) := by decide +kernel
theorem dX10_names_47 : decode cX10_names 47 = .ok (.iinc 4 1, 3) := by decide +kernel
theorem dX10_names_50 : decode cX10_names 50 = .ok (.goto (-34), 3) := by decide +kernel
theorem dX10_names_53 : decode cX10_names 53 = .ok (.return_, 1) := by decide +kernel
theorem dX10_makes_0 : decode cX10_makes 0 = .ok (.aload_n 0, 1) := by decide +kernel
theorem dX10_makes_1 : decode cX10_makes 1 = .ok (.getfield 7, 3) := by decide +kernel
theorem dX10_makes_4 : decode cX10_makes 4 = .ok (.iconst 0, 1) := by decide +kernel
theorem dX10_makes_5 : decode cX10_makes 5 = .ok (.dup2, 1) := by decide +kernel
theorem dX10_makes_6 : decode cX10_makes 6 = .ok (.iaload, 1) := by decide +kernel
theorem dX10_makes_7 : decode cX10_makes 7 = .ok (.iconst 1, 1) := by decide +kernel
theorem dX10_makes_8 : decode cX10_makes 8 = .ok (.iadd, 1) := by decide +kernel
theorem dX10_makes_9 : decode cX10_makes 9 = .ok (.iastore, 1) := by decide +kernel
theorem dX10_makes_10 : decode cX10_makes 10 = .ok (.aload_n 0, 1) := by decide +kernel
theorem dX10_makes_11 : decode cX10_makes 11 = .ok (.getfield 7, 3) := by decide +kernel
theorem dX10_makes_14 : decode cX10_makes 14 = .ok (.iconst 0, 1) := by decide +kernel
theorem dX10_makes_15 : decode cX10_makes 15 = .ok (.iaload, 1) := by decide +kernel
theorem dX10_makes_16 : decode cX10_makes 16 = .ok (.istore_n 1, 1) := by decide +kernel
theorem dX10_makes_17 : decode cX10_makes 17 = .ok (.aload_n 0, 1) := by decide +kernel
theorem dX10_makes_18 : decode cX10_makes 18 = .ok (.getfield 7, 3) := by decide +kernel
theorem dX10_makes_21 : decode cX10_makes 21 = .ok (.iconst 1, 1) := by decide +kernel
theorem dX10_makes_22 : decode cX10_makes 22 = .ok (.iload_n 1, 1) := by decide +kernel
theorem dX10_makes_23 : decode cX10_makes 23 = .ok (.iadd, 1) := by decide +kernel
theorem dX10_makes_24 : decode cX10_makes 24 = .ok (.iconst 1, 1) := by decide +kernel
theorem dX10_makes_25 : decode cX10_makes 25 = .ok (.iastore, 1) := by decide +kernel
theorem dX10_makes_26 : decode cX10_makes 26 = .ok (.aload_n 0, 1) := by decide +kernel
theorem dX10_makes_27 : decode cX10_makes 27 = .ok (.getfield 7, 3) := by decide +kernel
theorem dX10_makes_30 : decode cX10_makes 30 = .ok (.bipush 62, 2) := by decide +kernel
theorem dX10_makes_32 : decode cX10_makes 32 = .ok (.iload_n 1, 1) := by decide +kernel
theorem dX10_makes_33 : decode cX10_makes 33 = .ok (.iadd, 1) := by decide +kernel
theorem dX10_makes_34 : decode cX10_makes 34 = .ok (.iconst 0, 1) := by decide +kernel
theorem dX10_makes_35 : decode cX10_makes 35 = .ok (.iastore, 1) := by decide +kernel
theorem dX10_makes_36 : decode cX10_makes 36 = .ok (.aload_n 0, 1) := by decide +kernel
theorem dX10_makes_37 : decode cX10_makes 37 = .ok (.getfield 7, 3) := by decide +kernel
theorem dX10_makes_40 : decode cX10_makes 40 = .ok (.bipush 123, 2) := by decide +kernel
theorem dX10_makes_42 : decode cX10_makes 42 = .ok (.iload_n 1, 1) := by decide +kernel
theorem dX10_makes_43 : decode cX10_makes 43 = .ok (.iadd, 1) := by decide +kernel
theorem dX10_makes_44 : decode cX10_makes 44 = .ok (.iconst (-1), 1) := by decide +kernel
theorem dX10_makes_45 : decode cX10_makes 45 = .ok (.iastore, 1) := by decide +kernel
theorem dX10_makes_46 : decode cX10_makes 46 = .ok (.aload_n 0, 1) := by decide +kernel
theorem dX10_makes_47 : decode cX10_makes 47 = .ok (.getfield 7, 3) := by decide +kernel
theorem dX10_makes_50 : decode cX10_makes 50 = .ok (.sipush 184, 3) := by decide +kernel
theorem dX10_makes_53 : decode cX10_makes 53 = .ok (.iload_n 1, 1) := by decide +kernel
theorem dX10_makes_54 : decode cX10_makes 54 = .ok (.iadd, 1) := by decide +kernel
theorem dX10_makes_55 : decode cX10_makes 55 = .ok (.iconst 0, 1) := by decide +kernel
theorem dX10_makes_56 : decode cX10_makes 56 = .ok (.iastore, 1) := by decide +kernel
theorem dX10_makes_57 : decode cX10_makes 57 = .ok (.aload_n 0, 1) := by decide +kernel
theorem dX10_makes_58 : decode cX10_makes 58 = .ok (.getfield 7, 3) := by decide +kernel
theorem dX10_makes_61 : decode cX10_makes 61 = .ok (.sipush 916, 3) := by decide +kernel
theorem dX10_makes_64 : decode cX10_makes 64 = .ok (.iload_n 1, 1) := by decide +kernel
theorem dX10_makes_65 : decode cX10_makes 65 = .ok (.iadd, 1) := by decide +kernel
theorem dX10_makes_66 : decode cX10_makes 66 = .ok (.iconst 0, 1) := by decide +kernel
theorem dX10_makes_67 : decode cX10_makes 67 = .ok (.iastore, 1) := by decide +kernel
theorem dX10_makes_68 : decode cX10_makes 68 = .ok (.iload_n 1, 1) := by decide +kernel
theorem dX10_makes_69 : decode cX10_makes 69 = .ok (.ireturn, 1) := by decide +kernel
theorem dX10_add_0 : decode cX10_add 0 = .ok (.aload_n 0, 1) := by decide +kernel
theorem dX10_add_1 : decode cX10_add 1 = .ok (.iconst 0, 1) := by decide +kernel
theorem dX10_add_2 : decode cX10_add 2 = .ok (.putfield 139, 3) := by decide +kernel
theorem dX10_add_5 : decode cX10_add 5 = .ok (.aload_n 0, 1) := by decide +kernel
theorem dX10_add_6 : decode cX10_add 6 = .ok (.invokevirtual 218, 3) := by decide +kernel
theorem dX10_add_9 : decode cX10_add 9 = .ok (.aload_n 0, 1) := by decide +kernel
theorem dX10_add_10 : decode cX10_add 10 = .ok (.iload_n 1, 1) := by decide +kernel
theorem dX10_add_11 : decode cX10_add 11 = .ok (.invokevirtual 146, 3) := by decide +kernel
theorem dX10_add_14 : decode cX10_add 14 = .ok (.ifCond .ne 9, 3) := by decide +kernel
theorem dX10_add_17 : decode cX10_add 17 = .ok (.aload_n 0, 1) := by decide +kernel
theorem dX10_add_18 : decode cX10_add 18 = .ok (.iconst 1, 1) := by decide +kernel
theorem dX10_add_19 : decode cX10_add 19 = .ok (.invokevirtual 186, 3) := by decide +kernel
theorem dX10_add_22 : decode cX10_add 22 = .ok (.ireturn, 1) := by decide +kernel
theorem dX10_add_23 : decode cX10_add 23 = .ok (.iload_n 2, 1) := by decide +kernel
theorem dX10_add_24 : decode cX10_add 24 = .ok (.iconst 0, 1) := by decide +kernel
theorem dX10_add_25 : decode cX10_add 25 = .ok (.aload_n 0, 1) := by decide +kernel
theorem dX10_add_26 : decode cX10_add 26 = .ok (.getfield 7, 3) := by decide +kernel
theorem dX10_add_29 : decode cX10_add 29 = .ok (.sipush 916, 3) := by decide +kernel
theorem dX10_add_32 : decode cX10_add 32 = .ok (.iload_n 1, 1) := by decide +kernel
theorem dX10_add_33 : decode cX10_add 33 = .ok (.iadd, 1) := by decide +kernel
theorem dX10_add_34 : decode cX10_add 34 = .ok (.iaload, 1) := by decide +kernel
theorem dX10_add_35 : decode cX10_add 35 = .ok (.invokestatic 142, 3) := by decide +kernel
theorem dX10_add_38 : decode cX10_add 38 = .ok (.ifCond .ne 9, 3) := by decide +kernel
theorem dX10_add_41 : decode cX10_add 41 = .ok (.aload_n 0, 1) := by decide +kernel
theorem dX10_add_42 : decode cX10_add 42 = .ok (.iconst 2, 1) := by decide +kernel
theorem dX10_add_43 : decode cX10_add 43 = .ok (.invokevirtual 186, 3) := by decide +kernel
theorem dX10_add_46 : decode cX10_add 46 = .ok (.ireturn, 1) := by decide +kernel
theorem dX10_add_47 : decode cX10_add 47 = .ok (.aload_n 0, 1) := by decide +kernel
theorem dX10_add_48 : decode cX10_add 48 = .ok (.invokevirtual 221, 3) := by decide +kernel
theorem dX10_add_51 : decode cX10_add 51 = .ok (.ifCond .ne 9, 3) := by decide +kernel
theorem dX10_add_54 : decode cX10_add 54 = .ok (.aload_n 0, 1) := by decide +kernel
theorem dX10_add_55 : decode cX10_add 55 = .ok (.iconst 3, 1) := by decide +kernel
theorem dX10_add_56 : decode cX10_add 56 = .ok (.invokevirtual 186, 3) := by decide +kernel
theorem dX10_add_59 : decode cX10_add 59 = .ok (.ireturn, 1) := by decide +kernel
theorem dX10_add_60 : decode cX10_add 60 = .ok (.aload_n 0, 1) := by decide +kernel
theorem dX10_add_61 : decode cX10_add 61 = .ok (.iconst (-1), 1) := by decide +kernel
theorem dX10_add_62 : decode cX10_add 62 = .ok (.iload_n 1, 1) := by decide +kernel
theorem dX10_add_63 : decode cX10_add 63 = .ok (.invokevirtual 225, 3) := by decide +kernel
theorem dX10_add_66 : decode cX10_add 66 = .ok (.istore_n 3, 1) := by decide +kernel
theorem dX10_add_67 : decode cX10_add 67 = .ok (.iload_n 3, 1) := by decide +kernel
theorem dX10_add_68 : decode cX10_add 68 = .ok (.ifCond .le 12, 3) := by decide +kernel
theorem dX10_add_71 : decode cX10_add 71 = .ok (.aload_n 0, 1) := by decide +kernel
theorem dX10_add_72 : decode cX10_add 72 = .ok (.bipush 10, 2) := by decide +kernel
theorem dX10_add_74 : decode cX10_add 74 = .ok (.iconst (-1), 1) := by decide +kernel
theorem dX10_add_75 : decode cX10_add 75 = .ok (.iload_n 3, 1) := by decide +kernel
theorem dX10_add_76 : decode cX10_add 76 = .ok (.invokevirtual 228, 3) := by decide +kernel
theorem dX10_add_79 : decode cX10_add 79 = .ok (.ireturn, 1) := by decide +kernel
theorem dX10_add_80 : decode cX10_add 80 = .ok (.aload_n 0, 1) := by decide +kernel
theorem dX10_add_81 : decode cX10_add 81 = .ok (.invokevirtual 232, 3) := by decide +kernel
theorem dX10_add_84 : decode cX10_add 84 = .ok (.istore 4, 2) := by decide +kernel
theorem dX10_add_86 : decode cX10_add 86 = .ok (.aload_n 0, 1) := by decide +kernel
theorem dX10_add_87 : decode cX10_add 87 = .ok (.iload 4, 2) := by decide +kernel
theorem dX10_add_89 : decode cX10_add 89 = .ok (.iconst 0, 1) := by decide +kernel
theorem dX10_add_90 : decode cX10_add 90 = .ok (.aload_n 0, 1) := by decide +kernel
theorem dX10_add_91 : decode cX10_add 91 = .ok (.getfield 202, 3) := by decide +kernel
theorem dX10_add_94 : decode cX10_add 94 = .ok (.invokevirtual 235, 3) := by decide +kernel
theorem dX10_add_97 : decode cX10_add 97 = .ok (.aload_n 0, 1) := by decide +kernel
theorem dX10_add_98 : decode cX10_add 98 = .ok (.iload_n 1, 1) := by decide +kernel
theorem dX10_add_99 : decode cX10_add 99 = .ok (.iload_n 2, 1) := by decide +kernel
theorem dX10_add_100 : decode cX10_add 100 = .ok (.iload 4, 2) := by decide +kernel
theorem dX10_add_102 : decode cX10_add 102 = .ok (.invokevirtual 239, 3) := by decide +kernel
theorem dX10_add_105 : decode cX10_add 105 = .ok (.aload_n 0, 1) := by decide +kernel
theorem dX10_add_106 : decode cX10_add 106 = .ok (.invokevirtual 242, 3) := by decide +kernel
theorem dX10_add_109 : decode cX10_add 109 = .ok (.iload 4, 2) := by decide +kernel
theorem dX10_add_111 : decode cX10_add 111 = .ok (.ireturn, 1) := by decide +kernel
theorem dX10_clone_0 : decode cX10_clone 0 = .ok (.aload_n 0, 1) := by decide +kernel
theorem dX10_clone_1 : decode cX10_clone 1 = .ok (.iconst 0, 1) := by decide +kernel
theorem dX10_clone_2 : decode cX10_clone 2 = .ok (.putfield 139, 3) := by decide +kernel
theorem dX10_clone_5 : decode cX10_clone 5 = .ok (.aload_n 0, 1) := by decide +kernel
theorem dX10_clone_6 : decode cX10_clone 6 = .ok (.invokevirtual 218, 3) := by decide +kernel
theorem dX10_clone_9 : decode cX10_clone 9 = .ok (.aload_n 0, 1) := by decide +kernel
theorem dX10_clone_10 : decode cX10_clone 10 = .ok (.iload_n 1, 1) := by decide +kernel
theorem dX10_clone_11 : decode cX10_clone 11 = .ok (.invokevirtual 245, 3) := by decide +kernel
theorem dX10_clone_14 : decode cX10_clone 14 = .ok (.ifCond .eq 11, 3) := by decide +kernel
theorem dX10_clone_17 : decode cX10_clone 17 = .ok (.aload_n 0, 1) := by decide +kernel
theorem dX10_clone_18 : decode cX10_clone 18 = .ok (.iload_n 2, 1) := by decide +kernel
theorem dX10_clone_19 : decode cX10_clone 19 = .ok (.invokevirtual 146, 3) := by decide +kernel
theorem dX10_clone_22 : decode cX10_clone 22 = .ok (.ifCond .ne 9, 3) := by decide +kernel
theorem dX10_clone_25 : decode cX10_clone 25 = .ok (.aload_n 0, 1) := by decide +kernel
theorem dX10_clone_26 : decode cX10_clone 26 = .ok (.iconst 1, 1) := by decide +kernel
theorem dX10_clone_27 : decode cX10_clone 27 = .ok (.invokevirtual 186, 3) := by decide +kernel
theorem dX10_clone_30 : decode cX10_clone 30 = .ok (.ireturn, 1) := by decide +kernel
theorem dX10_clone_31 : decode cX10_clone 31 = .ok (.iload_n 3, 1) := by decide +kernel
theorem dX10_clone_32 : decode cX10_clone 32 = .ok (.iconst 0, 1) := by decide +kernel
theorem dX10_clone_33 : decode cX10_clone 33 = .ok (.aload_n 0, 1) := by decide +kernel
theorem dX10_clone_34 : decode cX10_clone 34 = .ok (.getfield 7, 3) := by decide +kernel
theorem dX10_clone_37 : decode cX10_clone 37 = .ok (.sipush 916, 3) := by decide +kernel
theorem dX10_clone_40 : decode cX10_clone 40 = .ok (.iload_n 2, 1) := by decide +kernel
theorem dX10_clone_41 : decode cX10_clone 41 = .ok (.iadd, 1) := by decide +kernel
theorem dX10_clone_42 : decode cX10_clone 42 = .ok (.iaload, 1) := by decide +kernel
theorem dX10_clone_43 : decode cX10_clone 43 = .ok (.invokestatic 142, 3) := by decide +kernel
theorem dX10_clone_46 : decode cX10_clone 46 = .ok (.ifCond .ne 9, 3) := by decide +kernel
theorem dX10_clone_49 : decode cX10_clone 49 = .ok (.aload_n 0, 1) := by decide +kernel
theorem dX10_clone_50 : decode cX10_clone 50 = .ok (.iconst 2, 1) := by decide +kernel
theorem dX10_clone_51 : decode cX10_clone 51 = .ok (.invokevirtual 186, 3) := by decide +kernel
theorem dX10_clone_54 : decode cX10_clone 54 = .ok (.ireturn, 1) := by decide +kernel
theorem dX10_clone_55 : decode cX10_clone 55 = .ok (.aload_n 0, 1) := by decide +kernel
theorem dX10_clone_56 : decode cX10_clone 56 = .ok (.iload_n 1, 1) := by decide +kernel
theorem dX10_clone_57 : decode cX10_clone 57 = .ok (.iload_n 2, 1) := by decide +kernel
theorem dX10_clone_58 : decode cX10_clone 58 = .ok (.invokevirtual 225, 3) := by decide +kernel
theorem dX10_clone_61 : decode cX10_clone 61 = .ok (.istore 4, 2) := by decide +kernel
theorem dX10_clone_63 : decode cX10_clone 63 = .ok (.iload 4, 2) := by decide +kernel
theorem dX10_clone_65 : decode cX10_clone 65 = .ok (.ifCond .le 19, 3) := by decide +kernel
theorem dX10_clone_68 : decode cX10_clone 68 = .ok (.aload_n 0, 1) := by decide +kernel
theorem dX10_clone_69 : decode cX10_clone 69 = .ok (.bipush 20, 2) := by decide +kernel
theorem dX10_clone_71 : decode cX10_clone 71 = .ok (.iconst (-1), 1) := by decide +kernel
theorem dX10_clone_72 : decode cX10_clone 72 = .ok (.iload 4, 2) := by decide +kernel
theorem dX10_clone_74 : decode cX10_clone 74 = .ok (.invokevirtual 228, 3) := by decide +kernel
theorem dX10_clone_77 : decode cX10_clone 77 = .ok (.pop, 1) := by decide +kernel
theorem dX10_clone_78 : decode cX10_clone 78 = .ok (.aload_n 0, 1) := by decide +kernel
theorem dX10_clone_79 : decode cX10_clone 79 = .ok (.iconst 3, 1) := by decide +kernel
theorem dX10_clone_80 : decode cX10_clone 80 = .ok (.invokevirtual 186, 3) := by decide +kernel
theorem dX10_clone_83 : decode cX10_clone 83 = .ok (.ireturn, 1) := by decide +kernel
theorem dX10_clone_84 : decode cX10_clone 84 = .ok (.aload_n 0, 1) := by decide +kernel
theorem dX10_clone_85 : decode cX10_clone 85 = .ok (.iload_n 2, 1) := by decide +kernel
theorem dX10_clone_86 : decode cX10_clone 86 = .ok (.iload_n 3, 1) := by decide +kernel
theorem dX10_clone_87 : decode cX10_clone 87 = .ok (.iload_n 1, 1) := by decide +kernel
theorem dX10_clone_88 : decode cX10_clone 88 = .ok (.invokevirtual 239, 3) := by decide +kernel
theorem dX10_clone_91 : decode cX10_clone 91 = .ok (.aload_n 0, 1) := by decide +kernel
theorem dX10_clone_92 : decode cX10_clone 92 = .ok (.invokevirtual 242, 3) := by decide +kernel
theorem dX10_clone_95 : decode cX10_clone 95 = .ok (.aload_n 0, 1) := by decide +kernel
theorem dX10_clone_96 : decode cX10_clone 96 = .ok (.invokevirtual 169, 3) := by decide +kernel
theorem dX10_clone_99 : decode cX10_clone 99 = .ok (.aload_n 0, 1) := by decide +kernel
theorem dX10_clone_100 : decode cX10_clone 100 = .ok (.getfield 41, 3) := by decide +kernel
theorem dX10_clone_103 : decode cX10_clone 103 = .ok (.iload_n 1, 1) := by decide +kernel
theorem dX10_clone_104 : decode cX10_clone 104 = .ok (.iaload, 1) := by decide +kernel
theorem dX10_clone_105 : decode cX10_clone 105 = .ok (.ireturn, 1) := by decide +kernel
theorem dX10_removes_0 : decode cX10_removes 0 = .ok (.aload_n 0, 1) := by decide +kernel
theorem dX10_removes_1 : decode cX10_removes 1 = .ok (.invokevirtual 169, 3) := by decide +kernel
theorem dX10_removes_4 : decode cX10_removes 4 = .ok (.iconst 0, 1) := by decide +kernel
theorem dX10_removes_5 : decode cX10_removes 5 = .ok (.istore_n 1, 1) := by decide +kernel
theorem dX10_removes_6 : decode cX10_removes 6 = .ok (.iconst 1, 1) := by decide +kernel
theorem dX10_removes_7 : decode cX10_removes 7 = .ok (.istore_n 2, 1) := by decide +kernel
theorem dX10_removes_8 : decode cX10_removes 8 = .ok (.iload_n 2, 1) := by decide +kernel
theorem dX10_removes_9 : decode cX10_removes 9 = .ok (.bipush 61, 2) := by decide +kernel
theorem dX10_removes_11 : decode cX10_removes 11 = .ok (.if_icmp .ge 42, 3) := by decide +kernel
theorem dX10_removes_14 : decode cX10_removes 14 = .ok (.aload_n 0, 1) := by decide +kernel
theorem dX10_removes_15 : decode cX10_removes 15 = .ok (.getfield 7, 3) := by decide +kernel
theorem dX10_removes_18 : decode cX10_removes 18 = .ok (.iconst 1, 1) := by decide +kernel
theorem dX10_removes_19 : decode cX10_removes 19 = .ok (.iload_n 2, 1) := by decide +kernel
theorem dX10_removes_20 : decode cX10_removes 20 = .ok (.iadd, 1) := by decide +kernel
theorem dX10_removes_21 : decode cX10_removes 21 = .ok (.iaload, 1) := by decide +kernel
theorem dX10_removes_22 : decode cX10_removes 22 = .ok (.iconst 1, 1) := by decide +kernel
theorem dX10_removes_23 : decode cX10_removes 23 = .ok (.if_icmp .ne 24, 3) := by decide +kernel
theorem dX10_removes_26 : decode cX10_removes 26 = .ok (.aload_n 0, 1) := by decide +kernel
theorem dX10_removes_27 : decode cX10_removes 27 = .ok (.iload_n 2, 1) := by decide +kernel
theorem dX10_removes_28 : decode cX10_removes 28 = .ok (.iconst 0, 1) := by decide +kernel
theorem dX10_removes_29 : decode cX10_removes 29 = .ok (.invokevirtual 175, 3) := by decide +kernel
theorem dX10_removes_32 : decode cX10_removes 32 = .ok (.ifCond .ne 15, 3) := by decide +kernel
theorem dX10_removes_35 : decode cX10_removes 35 = .ok (.aload_n 0, 1) := by decide +kernel
theorem dX10_removes_36 : decode cX10_removes 36 = .ok (.getfield 7, 3) := by decide +kernel
theorem dX10_removes_39 : decode cX10_removes 39 = .ok (.iconst 1, 1) := by decide +kernel
theorem dX10_removes_40 : decode cX10_removes 40 = .ok (.iload_n 2, 1) := by decide +kernel
theorem dX10_removes_41 : decode cX10_removes 41 = .ok (.iadd, 1) := by decide +kernel
theorem dX10_removes_42 : decode cX10_removes 42 = .ok (.iconst 0, 1) := by decide +kernel
theorem dX10_removes_43 : decode cX10_removes 43 = .ok (.iastore, 1) := by decide +kernel
theorem dX10_removes_44 : decode cX10_removes 44 = .ok (.iinc 1 1, 3) := by decide +kernel
theorem dX10_removes_47 : decode cX10_removes 47 = .ok (.iinc 2 1, 3) := by decide +kernel
theorem dX10_removes_50 : decode cX10_removes 50 = .ok (.goto (-42), 3) := by decide +kernel
theorem dX10_removes_53 : decode cX10_removes 53 = .ok (.iload_n 1, 1) := by decide +kernel
theorem dX10_removes_54 : decode cX10_removes 54 = .ok (.ireturn, 1) := by decide +kernel
theorem dX10_detach_0 : decode cX10_detach 0 = .ok (.aload_n 0, 1) := by decide +kernel
theorem dX10_detach_1 : decode cX10_detach 1 = .ok (.iconst 0, 1) := by decide +kernel
theorem dX10_detach_2 : decode cX10_detach 2 = .ok (.putfield 139, 3) := by decide +kernel
theorem dX10_detach_5 : decode cX10_detach 5 = .ok (.aload_n 0, 1) := by decide +kernel
theorem dX10_detach_6 : decode cX10_detach 6 = .ok (.invokevirtual 218, 3) := by decide +kernel
theorem dX10_detach_9 : decode cX10_detach 9 = .ok (.aload_n 0, 1) := by decide +kernel
theorem dX10_detach_10 : decode cX10_detach 10 = .ok (.iload_n 1, 1) := by decide +kernel
theorem dX10_detach_11 : decode cX10_detach 11 = .ok (.invokevirtual 146, 3) := by decide +kernel
theorem dX10_detach_14 : decode cX10_detach 14 = .ok (.ifCond .ne 9, 3) := by decide +kernel
theorem dX10_detach_17 : decode cX10_detach 17 = .ok (.aload_n 0, 1) := by decide +kernel
theorem dX10_detach_18 : decode cX10_detach 18 = .ok (.iconst 1, 1) := by decide +kernel
theorem dX10_detach_19 : decode cX10_detach 19 = .ok (.invokevirtual 186, 3) := by decide +kernel
theorem dX10_detach_22 : decode cX10_detach 22 = .ok (.ireturn, 1) := by decide +kernel
theorem dX10_detach_23 : decode cX10_detach 23 = .ok (.iload_n 2, 1) := by decide +kernel
theorem dX10_detach_24 : decode cX10_detach 24 = .ok (.iconst 0, 1) := by decide +kernel
theorem dX10_detach_25 : decode cX10_detach 25 = .ok (.aload_n 0, 1) := by decide +kernel
theorem dX10_detach_26 : decode cX10_detach 26 = .ok (.getfield 7, 3) := by decide +kernel
theorem dX10_detach_29 : decode cX10_detach 29 = .ok (.sipush 916, 3) := by decide +kernel
theorem dX10_detach_32 : decode cX10_detach 32 = .ok (.iload_n 1, 1) := by decide +kernel
theorem dX10_detach_33 : decode cX10_detach 33 = .ok (.iadd, 1) := by decide +kernel
theorem dX10_detach_34 : decode cX10_detach 34 = .ok (.iaload, 1) := by decide +kernel
theorem dX10_detach_35 : decode cX10_detach 35 = .ok (.iconst 1, 1) := by decide +kernel
theorem dX10_detach_36 : decode cX10_detach 36 = .ok (.isub, 1) := by decide +kernel
theorem dX10_detach_37 : decode cX10_detach 37 = .ok (.invokestatic 142, 3) := by decide +kernel
theorem dX10_detach_40 : decode cX10_detach 40 = .ok (.ifCond .ne 9, 3) := by decide +kernel
theorem dX10_detach_43 : decode cX10_detach 43 = .ok (.aload_n 0, 1) := by decide +kernel
theorem dX10_detach_44 : decode cX10_detach 44 = .ok (.iconst 2, 1) := by decide +kernel
theorem dX10_detach_45 : decode cX10_detach 45 = .ok (.invokevirtual 186, 3) := by decide +kernel
theorem dX10_detach_48 : decode cX10_detach 48 = .ok (.ireturn, 1) := by decide +kernel
theorem dX10_detach_49 : decode cX10_detach 49 = .ok (.aload_n 0, 1) := by decide +kernel
theorem dX10_detach_50 : decode cX10_detach 50 = .ok (.iload_n 1, 1) := by decide +kernel
theorem dX10_detach_51 : decode cX10_detach 51 = .ok (.iload_n 2, 1) := by decide +kernel
theorem dX10_detach_52 : decode cX10_detach 52 = .ok (.invokevirtual 248, 3) := by decide +kernel
theorem dX10_detach_55 : decode cX10_detach 55 = .ok (.pop, 1) := by decide +kernel
theorem dX10_detach_56 : decode cX10_detach 56 = .ok (.aload_n 0, 1) := by decide +kernel
theorem dX10_detach_57 : decode cX10_detach 57 = .ok (.invokevirtual 251, 3) := by decide +kernel
theorem dX10_detach_60 : decode cX10_detach 60 = .ok (.istore_n 3, 1) := by decide +kernel
theorem dX10_detach_61 : decode cX10_detach 61 = .ok (.aload_n 0, 1) := by decide +kernel
theorem dX10_detach_62 : decode cX10_detach 62 = .ok (.invokevirtual 242, 3) := by decide +kernel
theorem dX10_detach_65 : decode cX10_detach 65 = .ok (.iload_n 3, 1) := by decide +kernel
theorem dX10_detach_66 : decode cX10_detach 66 = .ok (.ireturn, 1) := by decide +kernel
theorem dX10_moveBlock_0 : decode cX10_moveBlock 0 = .ok (.aload_n 0, 1) := by decide +kernel
theorem dX10_moveBlock_1 : decode cX10_moveBlock 1 = .ok (.iconst 0, 1) := by decide +kernel
theorem dX10_moveBlock_2 : decode cX10_moveBlock 2 = .ok (.putfield 139, 3) := by decide +kernel
theorem dX10_moveBlock_5 : decode cX10_moveBlock 5 = .ok (.aload_n 0, 1) := by decide +kernel
theorem dX10_moveBlock_6 : decode cX10_moveBlock 6 = .ok (.invokevirtual 218, 3) := by decide +kernel
theorem dX10_moveBlock_9 : decode cX10_moveBlock 9 = .ok (.aload_n 0, 1) := by decide +kernel
theorem dX10_moveBlock_10 : decode cX10_moveBlock 10 = .ok (.iload_n 1, 1) := by decide +kernel
theorem dX10_moveBlock_11 : decode cX10_moveBlock 11 = .ok (.invokevirtual 146, 3) := by decide +kernel
theorem dX10_moveBlock_14 : decode cX10_moveBlock 14 = .ok (.ifCond .eq 12, 3) := by decide +kernel
theorem dX10_moveBlock_17 : decode cX10_moveBlock 17 = .ok (.aload_n 0, 1) := by decide +kernel
theorem dX10_moveBlock_18 : decode cX10_moveBlock 18 = .ok (.iload 4, 2) := by decide +kernel
theorem dX10_moveBlock_20 : decode cX10_moveBlock 20 = .ok (.invokevirtual 146, 3) := by decide +kernel
theorem dX10_moveBlock_23 : decode cX10_moveBlock 23 = .ok (.ifCond .ne 9, 3) := by decide +kernel
theorem dX10_moveBlock_26 : decode cX10_moveBlock 26 = .ok (.aload_n 0, 1) := by decide +kernel
theorem dX10_moveBlock_27 : decode cX10_moveBlock 27 = .ok (.iconst 1, 1) := by decide +kernel
theorem dX10_moveBlock_28 : decode cX10_moveBlock 28 = .ok (.invokevirtual 186, 3) := by decide +kernel
theorem dX10_moveBlock_31 : decode cX10_moveBlock 31 = .ok (.ireturn, 1) := by decide +kernel
theorem dX10_moveBlock_32 : decode cX10_moveBlock 32 = .ok (.iload_n 2, 1) := by decide +kernel
theorem dX10_moveBlock_33 : decode cX10_moveBlock 33 = .ok (.iconst 0, 1) := by decide +kernel
theorem dX10_moveBlock_34 : decode cX10_moveBlock 34 = .ok (.iload_n 3, 1) := by decide +kernel
theorem dX10_moveBlock_35 : decode cX10_moveBlock 35 = .ok (.invokestatic 142, 3) := by decide +kernel
theorem dX10_moveBlock_38 : decode cX10_moveBlock 38 = .ok (.ifCond .eq 17, 3) := by decide +kernel
theorem dX10_moveBlock_41 : decode cX10_moveBlock 41 = .ok (.iload_n 3, 1) := by decide +kernel
theorem dX10_moveBlock_42 : decode cX10_moveBlock 42 = .ok (.aload_n 0, 1) := by decide +kernel
theorem dX10_moveBlock_43 : decode cX10_moveBlock 43 = .ok (.getfield 7, 3) := by decide +kernel
theorem dX10_moveBlock_46 : decode cX10_moveBlock 46 = .ok (.sipush 916, 3) := by decide +kernel
theorem dX10_moveBlock_49 : decode cX10_moveBlock 49 = .ok (.iload_n 1, 1) := by decide +kernel
theorem dX10_moveBlock_50 : decode cX10_moveBlock 50 = .ok (.iadd, 1) := by decide +kernel
theorem dX10_moveBlock_51 : decode cX10_moveBlock 51 = .ok (.iaload, 1) := by decide +kernel
theorem dX10_moveBlock_52 : decode cX10_moveBlock 52 = .ok (.if_icmp .lt 9, 3) := by decide +kernel
theorem dX10_moveBlock_55 : decode cX10_moveBlock 55 = .ok (.aload_n 0, 1) := by decide +kernel
theorem dX10_moveBlock_56 : decode cX10_moveBlock 56 = .ok (.iconst 2, 1) := by decide +kernel
theorem dX10_moveBlock_57 : decode cX10_moveBlock 57 = .ok (.invokevirtual 186, 3) := by decide +kernel
theorem dX10_moveBlock_60 : decode cX10_moveBlock 60 = .ok (.ireturn, 1) := by decide +kernel
theorem dX10_moveBlock_61 : decode cX10_moveBlock 61 = .ok (.iload_n 3, 1) := by decide +kernel
theorem dX10_moveBlock_62 : decode cX10_moveBlock 62 = .ok (.iload_n 2, 1) := by decide +kernel
theorem dX10_moveBlock_63 : decode cX10_moveBlock 63 = .ok (.isub, 1) := by decide +kernel
theorem dX10_moveBlock_64 : decode cX10_moveBlock 64 = .ok (.iconst 1, 1) := by decide +kernel
theorem dX10_moveBlock_65 : decode cX10_moveBlock 65 = .ok (.iadd, 1) := by decide +kernel
theorem dX10_moveBlock_66 : decode cX10_moveBlock 66 = .ok (.istore 6, 2) := by decide +kernel
theorem dX10_moveBlock_68 : decode cX10_moveBlock 68 = .ok (.iload 5, 2) := by decide +kernel
theorem dX10_moveBlock_70 : decode cX10_moveBlock 70 = .ok (.iconst 0, 1) := by decide +kernel
theorem dX10_moveBlock_71 : decode cX10_moveBlock 71 = .ok (.aload_n 0, 1) := by decide +kernel
theorem dX10_moveBlock_72 : decode cX10_moveBlock 72 = .ok (.getfield 7, 3) := by decide +kernel
theorem dX10_moveBlock_75 : decode cX10_moveBlock 75 = .ok (.sipush 916, 3) := by decide +kernel
theorem dX10_moveBlock_78 : decode cX10_moveBlock 78 = .ok (.iload 4, 2) := by decide +kernel
theorem dX10_moveBlock_80 : decode cX10_moveBlock 80 = .ok (.iadd, 1) := by decide +kernel
theorem dX10_moveBlock_81 : decode cX10_moveBlock 81 = .ok (.iaload, 1) := by decide +kernel
theorem dX10_moveBlock_82 : decode cX10_moveBlock 82 = .ok (.iload 4, 2) := by decide +kernel
theorem dX10_moveBlock_84 : decode cX10_moveBlock 84 = .ok (.iload_n 1, 1) := by decide +kernel
theorem dX10_moveBlock_85 : decode cX10_moveBlock 85 = .ok (.if_icmp .ne 8, 3) := by decide +kernel
theorem dX10_moveBlock_88 : decode cX10_moveBlock 88 = .ok (.iload 6, 2) := by decide +kernel
theorem dX10_moveBlock_90 : decode cX10_moveBlock 90 = .ok (.goto 4, 3) := by decide +kernel
theorem dX10_moveBlock_93 : decode cX10_moveBlock 93 = .ok (.iconst 0, 1) := by decide +kernel
theorem dX10_moveBlock_94 : decode cX10_moveBlock 94 = .ok (.isub, 1) := by decide +kernel
theorem dX10_moveBlock_95 : decode cX10_moveBlock 95 = .ok (.invokestatic 142, 3) := by decide +kernel
theorem dX10_moveBlock_98 : decode cX10_moveBlock 98 = .ok (.ifCond .ne 9, 3) := by decide +kernel
theorem dX10_moveBlock_101 : decode cX10_moveBlock 101 = .ok (.aload_n 0, 1) := by decide +kernel
theorem dX10_moveBlock_102 : decode cX10_moveBlock 102 = .ok (.iconst 2, 1) := by decide +kernel
theorem dX10_moveBlock_103 : decode cX10_moveBlock 103 = .ok (.invokevirtual 186, 3) := by decide +kernel
theorem dX10_moveBlock_106 : decode cX10_moveBlock 106 = .ok (.ireturn, 1) := by decide +kernel
theorem dX10_moveBlock_107 : decode cX10_moveBlock 107 = .ok (.iconst 0, 1) := by decide +kernel
theorem dX10_moveBlock_108 : decode cX10_moveBlock 108 = .ok (.istore 7, 2) := by decide +kernel
theorem dX10_moveBlock_110 : decode cX10_moveBlock 110 = .ok (.iload 7, 2) := by decide +kernel
theorem dX10_moveBlock_112 : decode cX10_moveBlock 112 = .ok (.iload 6, 2) := by decide +kernel
theorem dX10_moveBlock_114 : decode cX10_moveBlock 114 = .ok (.if_icmp .ge 22, 3) := by decide +kernel
theorem dX10_moveBlock_117 : decode cX10_moveBlock 117 = .ok (.aload_n 0, 1) := by decide +kernel
theorem dX10_moveBlock_118 : decode cX10_moveBlock 118 = .ok (.getfield 54, 3) := by decide +kernel
theorem dX10_moveBlock_121 : decode cX10_moveBlock 121 = .ok (.iload 7, 2) := by decide +kernel
theorem dX10_moveBlock_123 : decode cX10_moveBlock 123 = .ok (.aload_n 0, 1) := by decide +kernel
theorem dX10_moveBlock_124 : decode cX10_moveBlock 124 = .ok (.iload_n 1, 1) := by decide +kernel
theorem dX10_moveBlock_125 : decode cX10_moveBlock 125 = .ok (.iload_n 2, 1) := by decide +kernel
theorem dX10_moveBlock_126 : decode cX10_moveBlock 126 = .ok (.invokevirtual 248, 3) := by decide +kernel
theorem dX10_moveBlock_129 : decode cX10_moveBlock 129 = .ok (.iastore, 1) := by decide +kernel
theorem dX10_moveBlock_130 : decode cX10_moveBlock 130 = .ok (.iinc 7 1, 3) := by decide +kernel
theorem dX10_moveBlock_133 : decode cX10_moveBlock 133 = .ok (.goto (-23), 3) := by decide +kernel
theorem dX10_moveBlock_136 : decode cX10_moveBlock 136 = .ok (.iconst 0, 1) := by decide +kernel
theorem dX10_moveBlock_137 : decode cX10_moveBlock 137 = .ok (.istore 7, 2) := by decide +kernel
theorem dX10_moveBlock_139 : decode cX10_moveBlock 139 = .ok (.iload 7, 2) := by decide +kernel
theorem dX10_moveBlock_141 : decode cX10_moveBlock 141 = .ok (.iload 6, 2) := by decide +kernel
theorem dX10_moveBlock_143 : decode cX10_moveBlock 143 = .ok (.if_icmp .ge 68, 3) := by decide +kernel
theorem dX10_moveBlock_146 : decode cX10_moveBlock 146 = .ok (.aload_n 0, 1) := by decide +kernel
theorem dX10_moveBlock_147 : decode cX10_moveBlock 147 = .ok (.aload_n 0, 1) := by decide +kernel
theorem dX10_moveBlock_148 : decode cX10_moveBlock 148 = .ok (.getfield 54, 3) := by decide +kernel
theorem dX10_moveBlock_151 : decode cX10_moveBlock 151 = .ok (.iload 7, 2) := by decide +kernel
theorem dX10_moveBlock_153 : decode cX10_moveBlock 153 = .ok (.iaload, 1) := by decide +kernel
theorem dX10_moveBlock_154 : decode cX10_moveBlock 154 = .ok (.iload 4, 2) := by decide +kernel
theorem dX10_moveBlock_156 : decode cX10_moveBlock 156 = .ok (.invokevirtual 225, 3) := by decide +kernel
theorem dX10_moveBlock_159 : decode cX10_moveBlock 159 = .ok (.istore 8, 2) := by decide +kernel
theorem dX10_moveBlock_161 : decode cX10_moveBlock 161 = .ok (.iload 8, 2) := by decide +kernel
theorem dX10_moveBlock_163 : decode cX10_moveBlock 163 = .ok (.ifCond .le 24, 3) := by decide +kernel
theorem dX10_moveBlock_166 : decode cX10_moveBlock 166 = .ok (.aload_n 0, 1) := by decide +kernel
theorem dX10_moveBlock_167 : decode cX10_moveBlock 167 = .ok (.invokevirtual 254, 3) := by decide +kernel
theorem dX10_moveBlock_170 : decode cX10_moveBlock 170 = .ok (.aload_n 0, 1) := by decide +kernel
theorem dX10_moveBlock_171 : decode cX10_moveBlock 171 = .ok (.bipush 30, 2) := by decide +kernel
theorem dX10_moveBlock_173 : decode cX10_moveBlock 173 = .ok (.iload 7, 2) := by decide +kernel
theorem dX10_moveBlock_175 : decode cX10_moveBlock 175 = .ok (.iload 8, 2) := by decide +kernel
theorem dX10_moveBlock_177 : decode cX10_moveBlock 177 = .ok (.invokevirtual 228, 3) := by decide +kernel
theorem dX10_moveBlock_180 : decode cX10_moveBlock 180 = .ok (.pop, 1) := by decide +kernel
theorem dX10_moveBlock_181 : decode cX10_moveBlock 181 = .ok (.aload_n 0, 1) := by decide +kernel
theorem dX10_moveBlock_182 : decode cX10_moveBlock 182 = .ok (.iconst 3, 1) := by decide +kernel
theorem dX10_moveBlock_183 : decode cX10_moveBlock 183 = .ok (.invokevirtual 186, 3) := by decide +kernel
theorem dX10_moveBlock_186 : decode cX10_moveBlock 186 = .ok (.ireturn, 1) := by decide +kernel
theorem dX10_moveBlock_187 : decode cX10_moveBlock 187 = .ok (.aload_n 0, 1) := by decide +kernel
theorem dX10_moveBlock_188 : decode cX10_moveBlock 188 = .ok (.iload 4, 2) := by decide +kernel
theorem dX10_moveBlock_190 : decode cX10_moveBlock 190 = .ok (.iload 5, 2) := by decide +kernel
theorem dX10_moveBlock_192 : decode cX10_moveBlock 192 = .ok (.iload 7, 2) := by decide +kernel
theorem dX10_moveBlock_194 : decode cX10_moveBlock 194 = .ok (.iadd, 1) := by decide +kernel
theorem dX10_moveBlock_195 : decode cX10_moveBlock 195 = .ok (.aload_n 0, 1) := by decide +kernel
theorem dX10_moveBlock_196 : decode cX10_moveBlock 196 = .ok (.getfield 54, 3) := by decide +kernel
theorem dX10_moveBlock_199 : decode cX10_moveBlock 199 = .ok (.iload 7, 2) := by decide +kernel
theorem dX10_moveBlock_201 : decode cX10_moveBlock 201 = .ok (.iaload, 1) := by decide +kernel
theorem dX10_moveBlock_202 : decode cX10_moveBlock 202 = .ok (.invokevirtual 239, 3) := by decide +kernel
theorem dX10_moveBlock_205 : decode cX10_moveBlock 205 = .ok (.iinc 7 1, 3) := by decide +kernel
theorem dX10_moveBlock_208 : decode cX10_moveBlock 208 = .ok (.goto (-69), 3) := by decide +kernel
theorem dX10_moveBlock_211 : decode cX10_moveBlock 211 = .ok (.aload_n 0, 1) := by decide +kernel
theorem dX10_moveBlock_212 : decode cX10_moveBlock 212 = .ok (.invokevirtual 242, 3) := by decide +kernel
theorem dX10_moveBlock_215 : decode cX10_moveBlock 215 = .ok (.iload 6, 2) := by decide +kernel
theorem dX10_moveBlock_217 : decode cX10_moveBlock 217 = .ok (.ireturn, 1) := by decide +kernel
theorem dX10_moves_0 : decode cX10_moves 0 = .ok (.aload_n 0, 1) := by decide +kernel
theorem dX10_moves_1 : decode cX10_moves 1 = .ok (.iload_n 1, 1) := by decide +kernel
theorem dX10_moves_2 : decode cX10_moves 2 = .ok (.iload_n 2, 1) := by decide +kernel
theorem dX10_moves_3 : decode cX10_moves 3 = .ok (.invokevirtual 248, 3) := by decide +kernel
theorem dX10_moves_6 : decode cX10_moves 6 = .ok (.istore 6, 2) := by decide +kernel
theorem dX10_moves_8 : decode cX10_moves 8 = .ok (.aload_n 0, 1) := by decide +kernel
theorem dX10_moves_9 : decode cX10_moves 9 = .ok (.iload 6, 2) := by decide +kernel
theorem dX10_moves_11 : decode cX10_moves 11 = .ok (.iload_n 3, 1) := by decide +kernel
theorem dX10_moves_12 : decode cX10_moves 12 = .ok (.invokevirtual 225, 3) := by decide +kernel
theorem dX10_moves_15 : decode cX10_moves 15 = .ok (.istore 7, 2) := by decide +kernel
theorem dX10_moves_17 : decode cX10_moves 17 = .ok (.iload 7, 2) := by decide +kernel
theorem dX10_moves_19 : decode cX10_moves 19 = .ok (.ifCond .le 23, 3) := by decide +kernel
theorem dX10_moves_22 : decode cX10_moves 22 = .ok (.aload_n 0, 1) := by decide +kernel
theorem dX10_moves_23 : decode cX10_moves 23 = .ok (.invokevirtual 254, 3) := by decide +kernel
theorem dX10_moves_26 : decode cX10_moves 26 = .ok (.aload_n 0, 1) := by decide +kernel
theorem dX10_moves_27 : decode cX10_moves 27 = .ok (.iload 5, 2) := by decide +kernel
theorem dX10_moves_29 : decode cX10_moves 29 = .ok (.iconst (-1), 1) := by decide +kernel
theorem dX10_moves_30 : decode cX10_moves 30 = .ok (.iload 7, 2) := by decide +kernel
theorem dX10_moves_32 : decode cX10_moves 32 = .ok (.invokevirtual 228, 3) := by decide +kernel
theorem dX10_moves_35 : decode cX10_moves 35 = .ok (.pop, 1) := by decide +kernel
theorem dX10_moves_36 : decode cX10_moves 36 = .ok (.aload_n 0, 1) := by decide +kernel
theorem dX10_moves_37 : decode cX10_moves 37 = .ok (.iconst 3, 1) := by decide +kernel
theorem dX10_moves_38 : decode cX10_moves 38 = .ok (.invokevirtual 186, 3) := by decide +kernel
theorem dX10_moves_41 : decode cX10_moves 41 = .ok (.ireturn, 1) := by decide +kernel
theorem dX10_moves_42 : decode cX10_moves 42 = .ok (.aload_n 0, 1) := by decide +kernel
theorem dX10_moves_43 : decode cX10_moves 43 = .ok (.iload_n 3, 1) := by decide +kernel
theorem dX10_moves_44 : decode cX10_moves 44 = .ok (.iload 4, 2) := by decide +kernel
theorem dX10_moves_46 : decode cX10_moves 46 = .ok (.iconst (-1), 1) := by decide +kernel
theorem dX10_moves_47 : decode cX10_moves 47 = .ok (.if_icmp .ne 16, 3) := by decide +kernel
theorem dX10_moves_50 : decode cX10_moves 50 = .ok (.aload_n 0, 1) := by decide +kernel
theorem dX10_moves_51 : decode cX10_moves 51 = .ok (.getfield 7, 3) := by decide +kernel
theorem dX10_moves_54 : decode cX10_moves 54 = .ok (.sipush 916, 3) := by decide +kernel
theorem dX10_moves_57 : decode cX10_moves 57 = .ok (.iload_n 3, 1) := by decide +kernel
theorem dX10_moves_58 : decode cX10_moves 58 = .ok (.iadd, 1) := by decide +kernel
theorem dX10_moves_59 : decode cX10_moves 59 = .ok (.iaload, 1) := by decide +kernel
theorem dX10_moves_60 : decode cX10_moves 60 = .ok (.goto 5, 3) := by decide +kernel
theorem dX10_moves_63 : decode cX10_moves 63 = .ok (.iload 4, 2) := by decide +kernel
theorem dX10_moves_65 : decode cX10_moves 65 = .ok (.iload 6, 2) := by decide +kernel
theorem dX10_moves_67 : decode cX10_moves 67 = .ok (.invokevirtual 239, 3) := by decide +kernel
theorem dX10_moves_70 : decode cX10_moves 70 = .ok (.aload_n 0, 1) := by decide +kernel
theorem dX10_moves_71 : decode cX10_moves 71 = .ok (.invokevirtual 242, 3) := by decide +kernel
theorem dX10_moves_74 : decode cX10_moves 74 = .ok (.iload_n 3, 1) := by decide +kernel
theorem dX10_moves_75 : decode cX10_moves 75 = .ok (.ireturn, 1) := by decide +kernel
theorem dX10_indent_0 : decode cX10_indent 0 = .ok (.aload_n 0, 1) := by decide +kernel
theorem dX10_indent_1 : decode cX10_indent 1 = .ok (.iconst 0, 1) := by decide +kernel
theorem dX10_indent_2 : decode cX10_indent 2 = .ok (.putfield 139, 3) := by decide +kernel
theorem dX10_indent_5 : decode cX10_indent 5 = .ok (.aload_n 0, 1) := by decide +kernel
theorem dX10_indent_6 : decode cX10_indent 6 = .ok (.invokevirtual 218, 3) := by decide +kernel
theorem dX10_indent_9 : decode cX10_indent 9 = .ok (.aload_n 0, 1) := by decide +kernel
theorem dX10_indent_10 : decode cX10_indent 10 = .ok (.invokevirtual 257, 3) := by decide +kernel
theorem dX10_indent_13 : decode cX10_indent 13 = .ok (.iload_n 1, 1) := by decide +kernel
theorem dX10_indent_14 : decode cX10_indent 14 = .ok (.iconst 0, 1) := by decide +kernel
theorem dX10_indent_15 : decode cX10_indent 15 = .ok (.aload_n 0, 1) := by decide +kernel
theorem dX10_indent_16 : decode cX10_indent 16 = .ok (.getfield 260, 3) := by decide +kernel
theorem dX10_indent_19 : decode cX10_indent 19 = .ok (.iconst 1, 1) := by decide +kernel
theorem dX10_indent_20 : decode cX10_indent 20 = .ok (.isub, 1) := by decide +kernel
theorem dX10_indent_21 : decode cX10_indent 21 = .ok (.invokestatic 142, 3) := by decide +kernel
theorem dX10_indent_24 : decode cX10_indent 24 = .ok (.ifCond .ne 9, 3) := by decide +kernel
theorem dX10_indent_27 : decode cX10_indent 27 = .ok (.aload_n 0, 1) := by decide +kernel
theorem dX10_indent_28 : decode cX10_indent 28 = .ok (.iconst 1, 1) := by decide +kernel
