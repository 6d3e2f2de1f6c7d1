theorem dX6_measureDownwards_51 : decode cX6_measureDownwards 51 = .ok (.iaload, 1) := by decide +kernel
theorem dX6_measureDownwards_52 : decode cX6_measureDownwards 52 = .ok (.istore_n 3, 1) := by decide +kernel
theorem dX6_measureDownwards_53 : decode cX6_measureDownwards 53 = .ok (.iconst 0, 1) := by decide +kernel
theorem dX6_measureDownwards_54 : decode cX6_measureDownwards 54 = .ok (.istore 4, 2) := by decide +kernel
theorem dX6_measureDownwards_56 : decode cX6_measureDownwards 56 = .ok (.iload 4, 2) := by decide +kernel
theorem dX6_measureDownwards_58 : decode cX6_measureDownwards 58 = .ok (.aload_n 1, 1) := by decide +kernel
theorem dX6_measureDownwards_59 : decode cX6_measureDownwards 59 = .ok (.iload_n 3, 1) := by decide +kernel
theorem dX6_measureDownwards_60 : decode cX6_measureDownwards 60 = .ok (.invokevirtual 57, 3) := by decide +kernel
theorem dX6_measureDownwards_63 : decode cX6_measureDownwards 63 = .ok (.if_icmp .ge 59, 3) := by decide +kernel
theorem dX6_measureDownwards_66 : decode cX6_measureDownwards 66 = .ok (.aload_n 1, 1) := by decide +kernel
theorem dX6_measureDownwards_67 : decode cX6_measureDownwards 67 = .ok (.iload_n 3, 1) := by decide +kernel
theorem dX6_measureDownwards_68 : decode cX6_measureDownwards 68 = .ok (.iload 4, 2) := by decide +kernel
theorem dX6_measureDownwards_70 : decode cX6_measureDownwards 70 = .ok (.invokevirtual 61, 3) := by decide +kernel
theorem dX6_measureDownwards_73 : decode cX6_measureDownwards 73 = .ok (.istore 5, 2) := by decide +kernel
theorem dX6_measureDownwards_75 : decode cX6_measureDownwards 75 = .ok (.aload_n 0, 1) := by decide +kernel
theorem dX6_measureDownwards_76 : decode cX6_measureDownwards 76 = .ok (.getfield 25, 3) := by decide +kernel
theorem dX6_measureDownwards_79 : decode cX6_measureDownwards 79 = .ok (.iload 5, 2) := by decide +kernel
theorem dX6_measureDownwards_81 : decode cX6_measureDownwards 81 = .ok (.dup2, 1) := by decide +kernel
theorem dX6_measureDownwards_82 : decode cX6_measureDownwards 82 = .ok (.iaload, 1) := by decide +kernel
theorem dX6_measureDownwards_83 : decode cX6_measureDownwards 83 = .ok (.aload_n 0, 1) := by decide +kernel
theorem dX6_measureDownwards_84 : decode cX6_measureDownwards 84 = .ok (.getfield 25, 3) := by decide +kernel
theorem dX6_measureDownwards_87 : decode cX6_measureDownwards 87 = .ok (.iload_n 3, 1) := by decide +kernel
theorem dX6_measureDownwards_88 : decode cX6_measureDownwards 88 = .ok (.iaload, 1) := by decide +kernel
theorem dX6_measureDownwards_89 : decode cX6_measureDownwards 89 = .ok (.iadd, 1) := by decide +kernel
theorem dX6_measureDownwards_90 : decode cX6_measureDownwards 90 = .ok (.iastore, 1) := by decide +kernel
theorem dX6_measureDownwards_91 : decode cX6_measureDownwards 91 = .ok (.aload_n 0, 1) := by decide +kernel
theorem dX6_measureDownwards_92 : decode cX6_measureDownwards 92 = .ok (.getfield 28, 3) := by decide +kernel
theorem dX6_measureDownwards_95 : decode cX6_measureDownwards 95 = .ok (.iload 5, 2) := by decide +kernel
theorem dX6_measureDownwards_97 : decode cX6_measureDownwards 97 = .ok (.aload_n 0, 1) := by decide +kernel
theorem dX6_measureDownwards_98 : decode cX6_measureDownwards 98 = .ok (.getfield 28, 3) := by decide +kernel
theorem dX6_measureDownwards_101 : decode cX6_measureDownwards 101 = .ok (.iload 5, 2) := by decide +kernel
theorem dX6_measureDownwards_103 : decode cX6_measureDownwards 103 = .ok (.iaload, 1) := by decide +kernel
theorem dX6_measureDownwards_104 : decode cX6_measureDownwards 104 = .ok (.aload_n 0, 1) := by decide +kernel
theorem dX6_measureDownwards_105 : decode cX6_measureDownwards 105 = .ok (.getfield 28, 3) := by decide +kernel
theorem dX6_measureDownwards_108 : decode cX6_measureDownwards 108 = .ok (.iload_n 3, 1) := by decide +kernel
theorem dX6_measureDownwards_109 : decode cX6_measureDownwards 109 = .ok (.iaload, 1) := by decide +kernel
theorem dX6_measureDownwards_110 : decode cX6_measureDownwards 110 = .ok (.iconst 1, 1) := by decide +kernel
theorem dX6_measureDownwards_111 : decode cX6_measureDownwards 111 = .ok (.iadd, 1) := by decide +kernel
theorem dX6_measureDownwards_112 : decode cX6_measureDownwards 112 = .ok (.invokestatic 69, 3) := by decide +kernel
theorem dX6_measureDownwards_115 : decode cX6_measureDownwards 115 = .ok (.iastore, 1) := by decide +kernel
theorem dX6_measureDownwards_116 : decode cX6_measureDownwards 116 = .ok (.iinc 4 1, 3) := by decide +kernel
theorem dX6_measureDownwards_119 : decode cX6_measureDownwards 119 = .ok (.goto (-63), 3) := by decide +kernel
theorem dX6_measureDownwards_122 : decode cX6_measureDownwards 122 = .ok (.iinc 2 1, 3) := by decide +kernel
theorem dX6_measureDownwards_125 : decode cX6_measureDownwards 125 = .ok (.goto (-87), 3) := by decide +kernel
theorem dX6_measureDownwards_128 : decode cX6_measureDownwards 128 = .ok (.return_, 1) := by decide +kernel
theorem dX6_measureUpwards_0 : decode cX6_measureUpwards 0 = .ok (.aload_n 0, 1) := by decide +kernel
theorem dX6_measureUpwards_1 : decode cX6_measureUpwards 1 = .ok (.getfield 21, 3) := by decide +kernel
theorem dX6_measureUpwards_4 : decode cX6_measureUpwards 4 = .ok (.iconst 1, 1) := by decide +kernel
theorem dX6_measureUpwards_5 : decode cX6_measureUpwards 5 = .ok (.isub, 1) := by decide +kernel
theorem dX6_measureUpwards_6 : decode cX6_measureUpwards 6 = .ok (.istore_n 2, 1) := by decide +kernel
theorem dX6_measureUpwards_7 : decode cX6_measureUpwards 7 = .ok (.iload_n 2, 1) := by decide +kernel
theorem dX6_measureUpwards_8 : decode cX6_measureUpwards 8 = .ok (.ifCond .lt 94, 3) := by decide +kernel
theorem dX6_measureUpwards_11 : decode cX6_measureUpwards 11 = .ok (.aload_n 0, 1) := by decide +kernel
theorem dX6_measureUpwards_12 : decode cX6_measureUpwards 12 = .ok (.getfield 18, 3) := by decide +kernel
theorem dX6_measureUpwards_15 : decode cX6_measureUpwards 15 = .ok (.iload_n 2, 1) := by decide +kernel
theorem dX6_measureUpwards_16 : decode cX6_measureUpwards 16 = .ok (.iaload, 1) := by decide +kernel
theorem dX6_measureUpwards_17 : decode cX6_measureUpwards 17 = .ok (.istore_n 3, 1) := by decide +kernel
theorem dX6_measureUpwards_18 : decode cX6_measureUpwards 18 = .ok (.aload_n 0, 1) := by decide +kernel
theorem dX6_measureUpwards_19 : decode cX6_measureUpwards 19 = .ok (.getfield 31, 3) := by decide +kernel
theorem dX6_measureUpwards_22 : decode cX6_measureUpwards 22 = .ok (.iload_n 3, 1) := by decide +kernel
theorem dX6_measureUpwards_23 : decode cX6_measureUpwards 23 = .ok (.iconst 0, 1) := by decide +kernel
theorem dX6_measureUpwards_24 : decode cX6_measureUpwards 24 = .ok (.iastore, 1) := by decide +kernel
theorem dX6_measureUpwards_25 : decode cX6_measureUpwards 25 = .ok (.aload_n 0, 1) := by decide +kernel
theorem dX6_measureUpwards_26 : decode cX6_measureUpwards 26 = .ok (.getfield 34, 3) := by decide +kernel
theorem dX6_measureUpwards_29 : decode cX6_measureUpwards 29 = .ok (.iload_n 3, 1) := by decide +kernel
theorem dX6_measureUpwards_30 : decode cX6_measureUpwards 30 = .ok (.lconst 1, 1) := by decide +kernel
theorem dX6_measureUpwards_31 : decode cX6_measureUpwards 31 = .ok (.iload_n 3, 1) := by decide +kernel
theorem dX6_measureUpwards_32 : decode cX6_measureUpwards 32 = .ok (.lshl, 1) := by decide +kernel
theorem dX6_measureUpwards_33 : decode cX6_measureUpwards 33 = .ok (.lastore, 1) := by decide +kernel
theorem dX6_measureUpwards_34 : decode cX6_measureUpwards 34 = .ok (.iconst 0, 1) := by decide +kernel
theorem dX6_measureUpwards_35 : decode cX6_measureUpwards 35 = .ok (.istore 4, 2) := by decide +kernel
theorem dX6_measureUpwards_37 : decode cX6_measureUpwards 37 = .ok (.iload 4, 2) := by decide +kernel
theorem dX6_measureUpwards_39 : decode cX6_measureUpwards 39 = .ok (.aload_n 1, 1) := by decide +kernel
theorem dX6_measureUpwards_40 : decode cX6_measureUpwards 40 = .ok (.iload_n 3, 1) := by decide +kernel
theorem dX6_measureUpwards_41 : decode cX6_measureUpwards 41 = .ok (.invokevirtual 57, 3) := by decide +kernel
theorem dX6_measureUpwards_44 : decode cX6_measureUpwards 44 = .ok (.if_icmp .ge 52, 3) := by decide +kernel
theorem dX6_measureUpwards_47 : decode cX6_measureUpwards 47 = .ok (.aload_n 1, 1) := by decide +kernel
theorem dX6_measureUpwards_48 : decode cX6_measureUpwards 48 = .ok (.iload_n 3, 1) := by decide +kernel
theorem dX6_measureUpwards_49 : decode cX6_measureUpwards 49 = .ok (.iload 4, 2) := by decide +kernel
theorem dX6_measureUpwards_51 : decode cX6_measureUpwards 51 = .ok (.invokevirtual 61, 3) := by decide +kernel
theorem dX6_measureUpwards_54 : decode cX6_measureUpwards 54 = .ok (.istore 5, 2) := by decide +kernel
theorem dX6_measureUpwards_56 : decode cX6_measureUpwards 56 = .ok (.aload_n 0, 1) := by decide +kernel
theorem dX6_measureUpwards_57 : decode cX6_measureUpwards 57 = .ok (.getfield 31, 3) := by decide +kernel
theorem dX6_measureUpwards_60 : decode cX6_measureUpwards 60 = .ok (.iload_n 3, 1) := by decide +kernel
theorem dX6_measureUpwards_61 : decode cX6_measureUpwards 61 = .ok (.dup2, 1) := by decide +kernel
theorem dX6_measureUpwards_62 : decode cX6_measureUpwards 62 = .ok (.iaload, 1) := by decide +kernel
theorem dX6_measureUpwards_63 : decode cX6_measureUpwards 63 = .ok (.iconst 1, 1) := by decide +kernel
theorem dX6_measureUpwards_64 : decode cX6_measureUpwards 64 = .ok (.aload_n 0, 1) := by decide +kernel
theorem dX6_measureUpwards_65 : decode cX6_measureUpwards 65 = .ok (.getfield 31, 3) := by decide +kernel
theorem dX6_measureUpwards_68 : decode cX6_measureUpwards 68 = .ok (.iload 5, 2) := by decide +kernel
theorem dX6_measureUpwards_70 : decode cX6_measureUpwards 70 = .ok (.iaload, 1) := by decide +kernel
theorem dX6_measureUpwards_71 : decode cX6_measureUpwards 71 = .ok (.iadd, 1) := by decide +kernel
theorem dX6_measureUpwards_72 : decode cX6_measureUpwards 72 = .ok (.iadd, 1) := by decide +kernel
theorem dX6_measureUpwards_73 : decode cX6_measureUpwards 73 = .ok (.iastore, 1) := by decide +kernel
theorem dX6_measureUpwards_74 : decode cX6_measureUpwards 74 = .ok (.aload_n 0, 1) := by decide +kernel
theorem dX6_measureUpwards_75 : decode cX6_measureUpwards 75 = .ok (.getfield 34, 3) := by decide +kernel
theorem dX6_measureUpwards_78 : decode cX6_measureUpwards 78 = .ok (.iload_n 3, 1) := by decide +kernel
theorem dX6_measureUpwards_79 : decode cX6_measureUpwards 79 = .ok (.dup2, 1) := by decide +kernel
theorem dX6_measureUpwards_80 : decode cX6_measureUpwards 80 = .ok (.laload, 1) := by decide +kernel
theorem dX6_measureUpwards_81 : decode cX6_measureUpwards 81 = .ok (.aload_n 0, 1) := by decide +kernel
theorem dX6_measureUpwards_82 : decode cX6_measureUpwards 82 = .ok (.getfield 34, 3) := by decide +kernel
theorem dX6_measureUpwards_85 : decode cX6_measureUpwards 85 = .ok (.iload 5, 2) := by decide +kernel
theorem dX6_measureUpwards_87 : decode cX6_measureUpwards 87 = .ok (.laload, 1) := by decide +kernel
theorem dX6_measureUpwards_88 : decode cX6_measureUpwards 88 = .ok (.lor, 1) := by decide +kernel
theorem dX6_measureUpwards_89 : decode cX6_measureUpwards 89 = .ok (.lastore, 1) := by decide +kernel
theorem dX6_measureUpwards_90 : decode cX6_measureUpwards 90 = .ok (.iinc 4 1, 3) := by decide +kernel
theorem dX6_measureUpwards_93 : decode cX6_measureUpwards 93 = .ok (.goto (-56), 3) := by decide +kernel
theorem dX6_measureUpwards_96 : decode cX6_measureUpwards 96 = .ok (.iinc 2 (-1), 3) := by decide +kernel
theorem dX6_measureUpwards_99 : decode cX6_measureUpwards 99 = .ok (.goto (-92), 3) := by decide +kernel
theorem dX6_measureUpwards_102 : decode cX6_measureUpwards 102 = .ok (.return_, 1) := by decide +kernel
theorem dX6_parentsOf_0 : decode cX6_parentsOf 0 = .ok (.aload_n 0, 1) := by decide +kernel
theorem dX6_parentsOf_1 : decode cX6_parentsOf 1 = .ok (.getfield 9, 3) := by decide +kernel
theorem dX6_parentsOf_4 : decode cX6_parentsOf 4 = .ok (.iload_n 1, 1) := by decide +kernel
theorem dX6_parentsOf_5 : decode cX6_parentsOf 5 = .ok (.iaload, 1) := by decide +kernel
theorem dX6_parentsOf_6 : decode cX6_parentsOf 6 = .ok (.ireturn, 1) := by decide +kernel
theorem dX6_placesOf_0 : decode cX6_placesOf 0 = .ok (.aload_n 0, 1) := by decide +kernel
theorem dX6_placesOf_1 : decode cX6_placesOf 1 = .ok (.getfield 25, 3) := by decide +kernel
theorem dX6_placesOf_4 : decode cX6_placesOf 4 = .ok (.iload_n 1, 1) := by decide +kernel
theorem dX6_placesOf_5 : decode cX6_placesOf 5 = .ok (.iaload, 1) := by decide +kernel
theorem dX6_placesOf_6 : decode cX6_placesOf 6 = .ok (.ireturn, 1) := by decide +kernel
theorem dX6_placesBelow_0 : decode cX6_placesBelow 0 = .ok (.aload_n 0, 1) := by decide +kernel
theorem dX6_placesBelow_1 : decode cX6_placesBelow 1 = .ok (.getfield 31, 3) := by decide +kernel
theorem dX6_placesBelow_4 : decode cX6_placesBelow 4 = .ok (.iload_n 1, 1) := by decide +kernel
theorem dX6_placesBelow_5 : decode cX6_placesBelow 5 = .ok (.iaload, 1) := by decide +kernel
theorem dX6_placesBelow_6 : decode cX6_placesBelow 6 = .ok (.ireturn, 1) := by decide +kernel
theorem dX6_familyOf_0 : decode cX6_familyOf 0 = .ok (.aload_n 0, 1) := by decide +kernel
theorem dX6_familyOf_1 : decode cX6_familyOf 1 = .ok (.getfield 34, 3) := by decide +kernel
theorem dX6_familyOf_4 : decode cX6_familyOf 4 = .ok (.iload_n 1, 1) := by decide +kernel
theorem dX6_familyOf_5 : decode cX6_familyOf 5 = .ok (.laload, 1) := by decide +kernel
theorem dX6_familyOf_6 : decode cX6_familyOf 6 = .ok (.lreturn, 1) := by decide +kernel
theorem dX6_greatestDepth_0 : decode cX6_greatestDepth 0 = .ok (.iconst 0, 1) := by decide +kernel
theorem dX6_greatestDepth_1 : decode cX6_greatestDepth 1 = .ok (.istore_n 1, 1) := by decide +kernel
theorem dX6_greatestDepth_2 : decode cX6_greatestDepth 2 = .ok (.iconst 0, 1) := by decide +kernel
theorem dX6_greatestDepth_3 : decode cX6_greatestDepth 3 = .ok (.istore_n 2, 1) := by decide +kernel
theorem dX6_greatestDepth_4 : decode cX6_greatestDepth 4 = .ok (.iload_n 2, 1) := by decide +kernel
theorem dX6_greatestDepth_5 : decode cX6_greatestDepth 5 = .ok (.aload_n 0, 1) := by decide +kernel
theorem dX6_greatestDepth_6 : decode cX6_greatestDepth 6 = .ok (.getfield 21, 3) := by decide +kernel
theorem dX6_greatestDepth_9 : decode cX6_greatestDepth 9 = .ok (.if_icmp .ge 25, 3) := by decide +kernel
theorem dX6_greatestDepth_12 : decode cX6_greatestDepth 12 = .ok (.iload_n 1, 1) := by decide +kernel
theorem dX6_greatestDepth_13 : decode cX6_greatestDepth 13 = .ok (.aload_n 0, 1) := by decide +kernel
theorem dX6_greatestDepth_14 : decode cX6_greatestDepth 14 = .ok (.getfield 28, 3) := by decide +kernel
theorem dX6_greatestDepth_17 : decode cX6_greatestDepth 17 = .ok (.aload_n 0, 1) := by decide +kernel
theorem dX6_greatestDepth_18 : decode cX6_greatestDepth 18 = .ok (.getfield 18, 3) := by decide +kernel
theorem dX6_greatestDepth_21 : decode cX6_greatestDepth 21 = .ok (.iload_n 2, 1) := by decide +kernel
theorem dX6_greatestDepth_22 : decode cX6_greatestDepth 22 = .ok (.iaload, 1) := by decide +kernel
theorem dX6_greatestDepth_23 : decode cX6_greatestDepth 23 = .ok (.iaload, 1) := by decide +kernel
theorem dX6_greatestDepth_24 : decode cX6_greatestDepth 24 = .ok (.invokestatic 69, 3) := by decide +kernel
theorem dX6_greatestDepth_27 : decode cX6_greatestDepth 27 = .ok (.istore_n 1, 1) := by decide +kernel
theorem dX6_greatestDepth_28 : decode cX6_greatestDepth 28 = .ok (.iinc 2 1, 3) := by decide +kernel
theorem dX6_greatestDepth_31 : decode cX6_greatestDepth 31 = .ok (.goto (-27), 3) := by decide +kernel
theorem dX6_greatestDepth_34 : decode cX6_greatestDepth 34 = .ok (.iload_n 1, 1) := by decide +kernel
theorem dX6_greatestDepth_35 : decode cX6_greatestDepth 35 = .ok (.ireturn, 1) := by decide +kernel
theorem dX6_itemsWithManyPlaces_0 : decode cX6_itemsWithManyPlaces 0 = .ok (.lconst 0, 1) := by decide +kernel
theorem dX6_itemsWithManyPlaces_1 : decode cX6_itemsWithManyPlaces 1 = .ok (.lstore_n 1, 1) := by decide +kernel
theorem dX6_itemsWithManyPlaces_2 : decode cX6_itemsWithManyPlaces 2 = .ok (.iconst 0, 1) := by decide +kernel
theorem dX6_itemsWithManyPlaces_3 : decode cX6_itemsWithManyPlaces 3 = .ok (.istore_n 3, 1) := by decide +kernel
theorem dX6_itemsWithManyPlaces_4 : decode cX6_itemsWithManyPlaces 4 = .ok (.iload_n 3, 1) := by decide +kernel
theorem dX6_itemsWithManyPlaces_5 : decode cX6_itemsWithManyPlaces 5 = .ok (.aload_n 0, 1) := by decide +kernel
theorem dX6_itemsWithManyPlaces_6 : decode cX6_itemsWithManyPlaces 6 = .ok (.getfield 21, 3) := by decide +kernel
theorem dX6_itemsWithManyPlaces_9 : decode cX6_itemsWithManyPlaces 9 = .ok (.if_icmp .ge 40, 3) := by decide +kernel
theorem dX6_itemsWithManyPlaces_12 : decode cX6_itemsWithManyPlaces 12 = .ok (.lload_n 1, 1) := by decide +kernel
theorem dX6_itemsWithManyPlaces_13 : decode cX6_itemsWithManyPlaces 13 = .ok (.aload_n 0, 1) := by decide +kernel
theorem dX6_itemsWithManyPlaces_14 : decode cX6_itemsWithManyPlaces 14 = .ok (.getfield 18, 3) := by decide +kernel
theorem dX6_itemsWithManyPlaces_17 : decode cX6_itemsWithManyPlaces 17 = .ok (.iload_n 3, 1) := by decide +kernel
theorem dX6_itemsWithManyPlaces_18 : decode cX6_itemsWithManyPlaces 18 = .ok (.iaload, 1) := by decide +kernel
theorem dX6_itemsWithManyPlaces_19 : decode cX6_itemsWithManyPlaces 19 = .ok (.aload_n 0, 1) := by decide +kernel
theorem dX6_itemsWithManyPlaces_20 : decode cX6_itemsWithManyPlaces 20 = .ok (.getfield 25, 3) := by decide +kernel
theorem dX6_itemsWithManyPlaces_23 : decode cX6_itemsWithManyPlaces 23 = .ok (.aload_n 0, 1) := by decide +kernel
theorem dX6_itemsWithManyPlaces_24 : decode cX6_itemsWithManyPlaces 24 = .ok (.getfield 18, 3) := by decide +kernel
theorem dX6_itemsWithManyPlaces_27 : decode cX6_itemsWithManyPlaces 27 = .ok (.iload_n 3, 1) := by decide +kernel
theorem dX6_itemsWithManyPlaces_28 : decode cX6_itemsWithManyPlaces 28 = .ok (.iaload, 1) := by decide +kernel
theorem dX6_itemsWithManyPlaces_29 : decode cX6_itemsWithManyPlaces 29 = .ok (.iaload, 1) := by decide +kernel
theorem dX6_itemsWithManyPlaces_30 : decode cX6_itemsWithManyPlaces 30 = .ok (.iconst 1, 1) := by decide +kernel
theorem dX6_itemsWithManyPlaces_31 : decode cX6_itemsWithManyPlaces 31 = .ok (.if_icmp .le 7, 3) := by decide +kernel
theorem dX6_itemsWithManyPlaces_34 : decode cX6_itemsWithManyPlaces 34 = .ok (.iconst 1, 1) := by decide +kernel
theorem dX6_itemsWithManyPlaces_35 : decode cX6_itemsWithManyPlaces 35 = .ok (.goto 4, 3) := by decide +kernel
theorem dX6_itemsWithManyPlaces_38 : decode cX6_itemsWithManyPlaces 38 = .ok (.iconst 0, 1) := by decide +kernel
theorem dX6_itemsWithManyPlaces_39 : decode cX6_itemsWithManyPlaces 39 = .ok (.invokestatic 74, 3) := by decide +kernel
theorem dX6_itemsWithManyPlaces_42 : decode cX6_itemsWithManyPlaces 42 = .ok (.lstore_n 1, 1) := by decide +kernel
theorem dX6_itemsWithManyPlaces_43 : decode cX6_itemsWithManyPlaces 43 = .ok (.iinc 3 1, 3) := by decide +kernel
theorem dX6_itemsWithManyPlaces_46 : decode cX6_itemsWithManyPlaces 46 = .ok (.goto (-42), 3) := by decide +kernel
theorem dX6_itemsWithManyPlaces_49 : decode cX6_itemsWithManyPlaces 49 = .ok (.lload_n 1, 1) := by decide +kernel
theorem dX6_itemsWithManyPlaces_50 : decode cX6_itemsWithManyPlaces 50 = .ok (.lreturn, 1) := by decide +kernel
theorem dX6_itemsAtOrAbove_0 : decode cX6_itemsAtOrAbove 0 = .ok (.lconst 0, 1) := by decide +kernel
theorem dX6_itemsAtOrAbove_1 : decode cX6_itemsAtOrAbove 1 = .ok (.lstore_n 3, 1) := by decide +kernel
theorem dX6_itemsAtOrAbove_2 : decode cX6_itemsAtOrAbove 2 = .ok (.iconst 0, 1) := by decide +kernel
theorem dX6_itemsAtOrAbove_3 : decode cX6_itemsAtOrAbove 3 = .ok (.istore 5, 2) := by decide +kernel
theorem dX6_itemsAtOrAbove_5 : decode cX6_itemsAtOrAbove 5 = .ok (.iload 5, 2) := by decide +kernel
theorem dX6_itemsAtOrAbove_7 : decode cX6_itemsAtOrAbove 7 = .ok (.aload_n 0, 1) := by decide +kernel
theorem dX6_itemsAtOrAbove_8 : decode cX6_itemsAtOrAbove 8 = .ok (.getfield 21, 3) := by decide +kernel
theorem dX6_itemsAtOrAbove_11 : decode cX6_itemsAtOrAbove 11 = .ok (.if_icmp .ge 45, 3) := by decide +kernel
theorem dX6_itemsAtOrAbove_14 : decode cX6_itemsAtOrAbove 14 = .ok (.lload_n 3, 1) := by decide +kernel
theorem dX6_itemsAtOrAbove_15 : decode cX6_itemsAtOrAbove 15 = .ok (.aload_n 0, 1) := by decide +kernel
theorem dX6_itemsAtOrAbove_16 : decode cX6_itemsAtOrAbove 16 = .ok (.getfield 18, 3) := by decide +kernel
theorem dX6_itemsAtOrAbove_19 : decode cX6_itemsAtOrAbove 19 = .ok (.iload 5, 2) := by decide +kernel
theorem dX6_itemsAtOrAbove_21 : decode cX6_itemsAtOrAbove 21 = .ok (.iaload, 1) := by decide +kernel
theorem dX6_itemsAtOrAbove_22 : decode cX6_itemsAtOrAbove 22 = .ok (.aload_n 0, 1) := by decide +kernel
theorem dX6_itemsAtOrAbove_23 : decode cX6_itemsAtOrAbove 23 = .ok (.getfield 34, 3) := by decide +kernel
theorem dX6_itemsAtOrAbove_26 : decode cX6_itemsAtOrAbove 26 = .ok (.aload_n 0, 1) := by decide +kernel
theorem dX6_itemsAtOrAbove_27 : decode cX6_itemsAtOrAbove 27 = .ok (.getfield 18, 3) := by decide +kernel
theorem dX6_itemsAtOrAbove_30 : decode cX6_itemsAtOrAbove 30 = .ok (.iload 5, 2) := by decide +kernel
theorem dX6_itemsAtOrAbove_32 : decode cX6_itemsAtOrAbove 32 = .ok (.iaload, 1) := by decide +kernel
theorem dX6_itemsAtOrAbove_33 : decode cX6_itemsAtOrAbove 33 = .ok (.laload, 1) := by decide +kernel
theorem dX6_itemsAtOrAbove_34 : decode cX6_itemsAtOrAbove 34 = .ok (.lload_n 1, 1) := by decide +kernel
theorem dX6_itemsAtOrAbove_35 : decode cX6_itemsAtOrAbove 35 = .ok (.land, 1) := by decide +kernel
theorem dX6_itemsAtOrAbove_36 : decode cX6_itemsAtOrAbove 36 = .ok (.lconst 0, 1) := by decide +kernel
theorem dX6_itemsAtOrAbove_37 : decode cX6_itemsAtOrAbove 37 = .ok (.lcmp, 1) := by decide +kernel
theorem dX6_itemsAtOrAbove_38 : decode cX6_itemsAtOrAbove 38 = .ok (.ifCond .eq 7, 3) := by decide +kernel
theorem dX6_itemsAtOrAbove_41 : decode cX6_itemsAtOrAbove 41 = .ok (.iconst 1, 1) := by decide +kernel
theorem dX6_itemsAtOrAbove_42 : decode cX6_itemsAtOrAbove 42 = .ok (.goto 4, 3) := by decide +kernel
theorem dX6_itemsAtOrAbove_45 : decode cX6_itemsAtOrAbove 45 = .ok (.iconst 0, 1) := by decide +kernel
theorem dX6_itemsAtOrAbove_46 : decode cX6_itemsAtOrAbove 46 = .ok (.invokestatic 74, 3) := by decide +kernel
theorem dX6_itemsAtOrAbove_49 : decode cX6_itemsAtOrAbove 49 = .ok (.lstore_n 3, 1) := by decide +kernel
theorem dX6_itemsAtOrAbove_50 : decode cX6_itemsAtOrAbove 50 = .ok (.iinc 5 1, 3) := by decide +kernel
theorem dX6_itemsAtOrAbove_53 : decode cX6_itemsAtOrAbove 53 = .ok (.goto (-48), 3) := by decide +kernel
theorem dX6_itemsAtOrAbove_56 : decode cX6_itemsAtOrAbove 56 = .ok (.lload_n 3, 1) := by decide +kernel
theorem dX6_itemsAtOrAbove_57 : decode cX6_itemsAtOrAbove 57 = .ok (.lreturn, 1) := by decide +kernel
theorem dX6_reasonAgainstNew_0 : decode cX6_reasonAgainstNew 0 = .ok (.aload_n 1, 1) := by decide +kernel
theorem dX6_reasonAgainstNew_1 : decode cX6_reasonAgainstNew 1 = .ok (.invokevirtual 78, 3) := by decide +kernel
theorem dX6_reasonAgainstNew_4 : decode cX6_reasonAgainstNew 4 = .ok (.bipush 60, 2) := by decide +kernel
theorem dX6_reasonAgainstNew_6 : decode cX6_reasonAgainstNew 6 = .ok (.if_icmp .ge 13, 3) := by decide +kernel
theorem dX6_reasonAgainstNew_9 : decode cX6_reasonAgainstNew 9 = .ok (.aload_n 1, 1) := by decide +kernel
theorem dX6_reasonAgainstNew_10 : decode cX6_reasonAgainstNew 10 = .ok (.iload_n 2, 1) := by decide +kernel
theorem dX6_reasonAgainstNew_11 : decode cX6_reasonAgainstNew 11 = .ok (.invokevirtual 57, 3) := by decide +kernel
theorem dX6_reasonAgainstNew_14 : decode cX6_reasonAgainstNew 14 = .ok (.bipush 12, 2) := by decide +kernel
theorem dX6_reasonAgainstNew_16 : decode cX6_reasonAgainstNew 16 = .ok (.if_icmp .lt 5, 3) := by decide +kernel
theorem dX6_reasonAgainstNew_19 : decode cX6_reasonAgainstNew 19 = .ok (.iconst 1, 1) := by decide +kernel
theorem dX6_reasonAgainstNew_20 : decode cX6_reasonAgainstNew 20 = .ok (.ireturn, 1) := by decide +kernel
theorem dX6_reasonAgainstNew_21 : decode cX6_reasonAgainstNew 21 = .ok (.aload_n 0, 1) := by decide +kernel
theorem dX6_reasonAgainstNew_22 : decode cX6_reasonAgainstNew 22 = .ok (.getfield 31, 3) := by decide +kernel
theorem dX6_reasonAgainstNew_25 : decode cX6_reasonAgainstNew 25 = .ok (.iconst 0, 1) := by decide +kernel
theorem dX6_reasonAgainstNew_26 : decode cX6_reasonAgainstNew 26 = .ok (.iaload, 1) := by decide +kernel
theorem dX6_reasonAgainstNew_27 : decode cX6_reasonAgainstNew 27 = .ok (.aload_n 0, 1) := by decide +kernel
theorem dX6_reasonAgainstNew_28 : decode cX6_reasonAgainstNew 28 = .ok (.getfield 25, 3) := by decide +kernel
theorem dX6_reasonAgainstNew_31 : decode cX6_reasonAgainstNew 31 = .ok (.iload_n 2, 1) := by decide +kernel
theorem dX6_reasonAgainstNew_32 : decode cX6_reasonAgainstNew 32 = .ok (.iaload, 1) := by decide +kernel
theorem dX6_reasonAgainstNew_33 : decode cX6_reasonAgainstNew 33 = .ok (.iadd, 1) := by decide +kernel
theorem dX6_reasonAgainstNew_34 : decode cX6_reasonAgainstNew 34 = .ok (.sipush 300, 3) := by decide +kernel
theorem dX6_reasonAgainstNew_37 : decode cX6_reasonAgainstNew 37 = .ok (.if_icmp .le 7, 3) := by decide +kernel
theorem dX6_reasonAgainstNew_40 : decode cX6_reasonAgainstNew 40 = .ok (.iconst 4, 1) := by decide +kernel
theorem dX6_reasonAgainstNew_41 : decode cX6_reasonAgainstNew 41 = .ok (.goto 4, 3) := by decide +kernel
theorem dX6_reasonAgainstNew_44 : decode cX6_reasonAgainstNew 44 = .ok (.iconst 0, 1) := by decide +kernel
theorem dX6_reasonAgainstNew_45 : decode cX6_reasonAgainstNew 45 = .ok (.ireturn, 1) := by decide +kernel
theorem dX6_reasonAgainst_0 : decode cX6_reasonAgainst 0 = .ok (.aload_n 1, 1) := by decide +kernel
theorem dX6_reasonAgainst_1 : decode cX6_reasonAgainst 1 = .ok (.iload_n 3, 1) := by decide +kernel
theorem dX6_reasonAgainst_2 : decode cX6_reasonAgainst 2 = .ok (.invokevirtual 57, 3) := by decide +kernel
theorem dX6_reasonAgainst_5 : decode cX6_reasonAgainst 5 = .ok (.bipush 12, 2) := by decide +kernel
theorem dX6_reasonAgainst_7 : decode cX6_reasonAgainst 7 = .ok (.if_icmp .lt 5, 3) := by decide +kernel
theorem dX6_reasonAgainst_10 : decode cX6_reasonAgainst 10 = .ok (.iconst 1, 1) := by decide +kernel
theorem dX6_reasonAgainst_11 : decode cX6_reasonAgainst 11 = .ok (.ireturn, 1) := by decide +kernel
theorem dX6_reasonAgainst_12 : decode cX6_reasonAgainst 12 = .ok (.aload_n 1, 1) := by decide +kernel
theorem dX6_reasonAgainst_13 : decode cX6_reasonAgainst 13 = .ok (.iload_n 3, 1) := by decide +kernel
theorem dX6_reasonAgainst_14 : decode cX6_reasonAgainst 14 = .ok (.iload_n 2, 1) := by decide +kernel
theorem dX6_reasonAgainst_15 : decode cX6_reasonAgainst 15 = .ok (.invokevirtual 82, 3) := by decide +kernel
theorem dX6_reasonAgainst_18 : decode cX6_reasonAgainst 18 = .ok (.ifCond .eq 5, 3) := by decide +kernel
theorem dX6_reasonAgainst_21 : decode cX6_reasonAgainst 21 = .ok (.iconst 2, 1) := by decide +kernel
theorem dX6_reasonAgainst_22 : decode cX6_reasonAgainst 22 = .ok (.ireturn, 1) := by decide +kernel
theorem dX6_reasonAgainst_23 : decode cX6_reasonAgainst 23 = .ok (.aload_n 0, 1) := by decide +kernel
theorem dX6_reasonAgainst_24 : decode cX6_reasonAgainst 24 = .ok (.getfield 34, 3) := by decide +kernel
theorem dX6_reasonAgainst_27 : decode cX6_reasonAgainst 27 = .ok (.iload_n 2, 1) := by decide +kernel
theorem dX6_reasonAgainst_28 : decode cX6_reasonAgainst 28 = .ok (.laload, 1) := by decide +kernel
theorem dX6_reasonAgainst_29 : decode cX6_reasonAgainst 29 = .ok (.iload_n 3, 1) := by decide +kernel
theorem dX6_reasonAgainst_30 : decode cX6_reasonAgainst 30 = .ok (.invokestatic 86, 3) := by decide +kernel
theorem dX6_reasonAgainst_33 : decode cX6_reasonAgainst 33 = .ok (.ifCond .eq 5, 3) := by decide +kernel
theorem dX6_reasonAgainst_36 : decode cX6_reasonAgainst 36 = .ok (.iconst 3, 1) := by decide +kernel
theorem dX6_reasonAgainst_37 : decode cX6_reasonAgainst 37 = .ok (.ireturn, 1) := by decide +kernel
theorem dX6_reasonAgainst_38 : decode cX6_reasonAgainst 38 = .ok (.aload_n 0, 1) := by decide +kernel
theorem dX6_reasonAgainst_39 : decode cX6_reasonAgainst 39 = .ok (.getfield 25, 3) := by decide +kernel
theorem dX6_reasonAgainst_42 : decode cX6_reasonAgainst 42 = .ok (.iload_n 3, 1) := by decide +kernel
theorem dX6_reasonAgainst_43 : decode cX6_reasonAgainst 43 = .ok (.iaload, 1) := by decide +kernel
theorem dX6_reasonAgainst_44 : decode cX6_reasonAgainst 44 = .ok (.iconst 1, 1) := by decide +kernel
theorem dX6_reasonAgainst_45 : decode cX6_reasonAgainst 45 = .ok (.aload_n 0, 1) := by decide +kernel
theorem dX6_reasonAgainst_46 : decode cX6_reasonAgainst 46 = .ok (.getfield 31, 3) := by decide +kernel
theorem dX6_reasonAgainst_49 : decode cX6_reasonAgainst 49 = .ok (.iload_n 2, 1) := by decide +kernel
theorem dX6_reasonAgainst_50 : decode cX6_reasonAgainst 50 = .ok (.iaload, 1) := by decide +kernel
theorem dX6_reasonAgainst_51 : decode cX6_reasonAgainst 51 = .ok (.iadd, 1) := by decide +kernel
theorem dX6_reasonAgainst_52 : decode cX6_reasonAgainst 52 = .ok (.imul, 1) := by decide +kernel
theorem dX6_reasonAgainst_53 : decode cX6_reasonAgainst 53 = .ok (.istore 4, 2) := by decide +kernel
theorem dX6_reasonAgainst_55 : decode cX6_reasonAgainst 55 = .ok (.aload_n 0, 1) := by decide +kernel
theorem dX6_reasonAgainst_56 : decode cX6_reasonAgainst 56 = .ok (.getfield 31, 3) := by decide +kernel
theorem dX6_reasonAgainst_59 : decode cX6_reasonAgainst 59 = .ok (.iconst 0, 1) := by decide +kernel
theorem dX6_reasonAgainst_60 : decode cX6_reasonAgainst 60 = .ok (.iaload, 1) := by decide +kernel
theorem dX6_reasonAgainst_61 : decode cX6_reasonAgainst 61 = .ok (.iload 4, 2) := by decide +kernel
theorem dX6_reasonAgainst_63 : decode cX6_reasonAgainst 63 = .ok (.iadd, 1) := by decide +kernel
theorem dX6_reasonAgainst_64 : decode cX6_reasonAgainst 64 = .ok (.sipush 300, 3) := by decide +kernel
theorem dX6_reasonAgainst_67 : decode cX6_reasonAgainst 67 = .ok (.if_icmp .le 7, 3) := by decide +kernel
theorem dX6_reasonAgainst_70 : decode cX6_reasonAgainst 70 = .ok (.iconst 4, 1) := by decide +kernel
theorem dX6_reasonAgainst_71 : decode cX6_reasonAgainst 71 = .ok (.goto 4, 3) := by decide +kernel
theorem dX6_reasonAgainst_74 : decode cX6_reasonAgainst 74 = .ok (.iconst 0, 1) := by decide +kernel
theorem dX6_reasonAgainst_75 : decode cX6_reasonAgainst 75 = .ok (.ireturn, 1) := by decide +kernel
theorem dX6_ordersAll_0 : decode cX6_ordersAll 0 = .ok (.aload_n 0, 1) := by decide +kernel
theorem dX6_ordersAll_1 : decode cX6_ordersAll 1 = .ok (.getfield 21, 3) := by decide +kernel
theorem dX6_ordersAll_4 : decode cX6_ordersAll 4 = .ok (.aload_n 1, 1) := by decide +kernel
theorem dX6_ordersAll_5 : decode cX6_ordersAll 5 = .ok (.invokevirtual 90, 3) := by decide +kernel
theorem dX6_ordersAll_8 : decode cX6_ordersAll 8 = .ok (.if_icmp .ne 7, 3) := by decide +kernel
theorem dX6_ordersAll_11 : decode cX6_ordersAll 11 = .ok (.iconst 1, 1) := by decide +kernel
theorem dX6_ordersAll_12 : decode cX6_ordersAll 12 = .ok (.goto 4, 3) := by decide +kernel
theorem dX6_ordersAll_15 : decode cX6_ordersAll 15 = .ok (.iconst 0, 1) := by decide +kernel
theorem dX6_ordersAll_16 : decode cX6_ordersAll 16 = .ok (.ireturn, 1) := by decide +kernel
theorem dX6_sumOfPlaces_0 : decode cX6_sumOfPlaces 0 = .ok (.iconst 0, 1) := by decide +kernel
theorem dX6_sumOfPlaces_1 : decode cX6_sumOfPlaces 1 = .ok (.istore_n 2, 1) := by decide +kernel
theorem dX6_sumOfPlaces_2 : decode cX6_sumOfPlaces 2 = .ok (.iconst 1, 1) := by decide +kernel
theorem dX6_sumOfPlaces_3 : decode cX6_sumOfPlaces 3 = .ok (.istore_n 3, 1) := by decide +kernel
theorem dX6_sumOfPlaces_4 : decode cX6_sumOfPlaces 4 = .ok (.iload_n 3, 1) := by decide +kernel
theorem dX6_sumOfPlaces_5 : decode cX6_sumOfPlaces 5 = .ok (.bipush 61, 2) := by decide +kernel
theorem dX6_sumOfPlaces_7 : decode cX6_sumOfPlaces 7 = .ok (.if_icmp .ge 30, 3) := by decide +kernel
theorem dX6_sumOfPlaces_10 : decode cX6_sumOfPlaces 10 = .ok (.iload_n 2, 1) := by decide +kernel
theorem dX6_sumOfPlaces_11 : decode cX6_sumOfPlaces 11 = .ok (.aload_n 1, 1) := by decide +kernel
theorem dX6_sumOfPlaces_12 : decode cX6_sumOfPlaces 12 = .ok (.iload_n 3, 1) := by decide +kernel
theorem dX6_sumOfPlaces_13 : decode cX6_sumOfPlaces 13 = .ok (.invokevirtual 51, 3) := by decide +kernel
theorem dX6_sumOfPlaces_16 : decode cX6_sumOfPlaces 16 = .ok (.ifCond .eq 12, 3) := by decide +kernel
theorem dX6_sumOfPlaces_19 : decode cX6_sumOfPlaces 19 = .ok (.aload_n 0, 1) := by decide +kernel
theorem dX6_sumOfPlaces_20 : decode cX6_sumOfPlaces 20 = .ok (.getfield 25, 3) := by decide +kernel
theorem dX6_sumOfPlaces_23 : decode cX6_sumOfPlaces 23 = .ok (.iload_n 3, 1) := by decide +kernel
theorem dX6_sumOfPlaces_24 : decode cX6_sumOfPlaces 24 = .ok (.iaload, 1) := by decide +kernel
theorem dX6_sumOfPlaces_25 : decode cX6_sumOfPlaces 25 = .ok (.goto 4, 3) := by decide +kernel
theorem dX6_sumOfPlaces_28 : decode cX6_sumOfPlaces 28 = .ok (.iconst 0, 1) := by decide +kernel
theorem dX6_sumOfPlaces_29 : decode cX6_sumOfPlaces 29 = .ok (.iadd, 1) := by decide +kernel
theorem dX6_sumOfPlaces_30 : decode cX6_sumOfPlaces 30 = .ok (.istore_n 2, 1) := by decide +kernel
theorem dX6_sumOfPlaces_31 : decode cX6_sumOfPlaces 31 = .ok (.iinc 3 1, 3) := by decide +kernel
theorem dX6_sumOfPlaces_34 : decode cX6_sumOfPlaces 34 = .ok (.goto (-30), 3) := by decide +kernel
theorem dX6_sumOfPlaces_37 : decode cX6_sumOfPlaces 37 = .ok (.iload_n 2, 1) := by decide +kernel
theorem dX6_sumOfPlaces_38 : decode cX6_sumOfPlaces 38 = .ok (.ireturn, 1) := by decide +kernel
theorem dX7_init_0 : decode cX7_init 0 = .ok (.aload_n 0, 1) := by decide +kernel
theorem dX7_init_1 : decode cX7_init 1 = .ok (.invokespecial 3, 3) := by decide +kernel
theorem dX7_init_4 : decode cX7_init 4 = .ok (.aload_n 0, 1) := by decide +kernel
theorem dX7_init_5 : decode cX7_init 5 = .ok (.bipush 80, 2) := by decide +kernel
theorem dX7_init_7 : decode cX7_init 7 = .ok (.newarray .char, 2) := by decide +kernel
theorem dX7_init_9 : decode cX7_init 9 = .ok (.putfield 9, 3) := by decide +kernel
theorem dX7_init_12 : decode cX7_init 12 = .ok (.aload_n 0, 1) := by decide +kernel
theorem dX7_init_13 : decode cX7_init 13 = .ok (.iconst 0, 1) := by decide +kernel
theorem dX7_init_14 : decode cX7_init 14 = .ok (.putfield 15, 3) := by decide +kernel
theorem dX7_init_17 : decode cX7_init 17 = .ok (.aload_n 0, 1) := by decide +kernel
theorem dX7_init_18 : decode cX7_init 18 = .ok (.iconst 0, 1) := by decide +kernel
theorem dX7_init_19 : decode cX7_init 19 = .ok (.putfield 19, 3) := by decide +kernel
theorem dX7_init_22 : decode cX7_init 22 = .ok (.return_, 1) := by decide +kernel
theorem dX7_size_0 : decode cX7_size 0 = .ok (.aload_n 0, 1) := by decide +kernel
theorem dX7_size_1 : decode cX7_size 1 = .ok (.getfield 15, 3) := by decide +kernel
theorem dX7_size_4 : decode cX7_size 4 = .ok (.ireturn, 1) := by decide +kernel
theorem dX7_hasRoomFor_0 : decode cX7_hasRoomFor 0 = .ok (.aload_n 0, 1) := by decide +kernel
theorem dX7_hasRoomFor_1 : decode cX7_hasRoomFor 1 = .ok (.getfield 15, 3) := by decide +kernel
theorem dX7_hasRoomFor_4 : decode cX7_hasRoomFor 4 = .ok (.iload_n 1, 1) := by decide +kernel
theorem dX7_hasRoomFor_5 : decode cX7_hasRoomFor 5 = .ok (.iadd, 1) := by decide +kernel
theorem dX7_hasRoomFor_6 : decode cX7_hasRoomFor 6 = .ok (.bipush 80, 2) := by decide +kernel
theorem dX7_hasRoomFor_8 : decode cX7_hasRoomFor 8 = .ok (.if_icmp .gt 7, 3) := by decide +kernel
theorem dX7_hasRoomFor_11 : decode cX7_hasRoomFor 11 = .ok (.iconst 1, 1) := by decide +kernel
theorem dX7_hasRoomFor_12 : decode cX7_hasRoomFor 12 = .ok (.goto 4, 3) := by decide +kernel
theorem dX7_hasRoomFor_15 : decode cX7_hasRoomFor 15 = .ok (.iconst 0, 1) := by decide +kernel
theorem dX7_hasRoomFor_16 : decode cX7_hasRoomFor 16 = .ok (.ireturn, 1) := by decide +kernel
theorem dX7_put_0 : decode cX7_put 0 = .ok (.aload_n 0, 1) := by decide +kernel
theorem dX7_put_1 : decode cX7_put 1 = .ok (.getfield 15, 3) := by decide +kernel
theorem dX7_put_4 : decode cX7_put 4 = .ok (.bipush 80, 2) := by decide +kernel
theorem dX7_put_6 : decode cX7_put 6 = .ok (.if_icmp .ge 23, 3) := by decide +kernel
theorem dX7_put_9 : decode cX7_put 9 = .ok (.aload_n 0, 1) := by decide +kernel
theorem dX7_put_10 : decode cX7_put 10 = .ok (.getfield 9, 3) := by decide +kernel
theorem dX7_put_13 : decode cX7_put 13 = .ok (.aload_n 0, 1) := by decide +kernel
theorem dX7_put_14 : decode cX7_put 14 = .ok (.getfield 15, 3) := by decide +kernel
theorem dX7_put_17 : decode cX7_put 17 = .ok (.iload_n 1, 1) := by decide +kernel
theorem dX7_put_18 : decode cX7_put 18 = .ok (.castore, 1) := by decide +kernel
theorem dX7_put_19 : decode cX7_put 19 = .ok (.aload_n 0, 1) := by decide +kernel
theorem dX7_put_20 : decode cX7_put 20 = .ok (.dup, 1) := by decide +kernel
theorem dX7_put_21 : decode cX7_put 21 = .ok (.getfield 15, 3) := by decide +kernel
theorem dX7_put_24 : decode cX7_put 24 = .ok (.iconst 1, 1) := by decide +kernel
theorem dX7_put_25 : decode cX7_put 25 = .ok (.iadd, 1) := by decide +kernel
theorem dX7_put_26 : decode cX7_put 26 = .ok (.putfield 15, 3) := by decide +kernel
theorem dX7_put_29 : decode cX7_put 29 = .ok (.return_, 1) := by decide +kernel
theorem dX7_forget_0 : decode cX7_forget 0 = .ok (.aload_n 0, 1) := by decide +kernel
theorem dX7_forget_1 : decode cX7_forget 1 = .ok (.iconst 0, 1) := by decide +kernel
theorem dX7_forget_2 : decode cX7_forget 2 = .ok (.putfield 15, 3) := by decide +kernel
theorem dX7_forget_5 : decode cX7_forget 5 = .ok (.return_, 1) := by decide +kernel
theorem dX7_start_0 : decode cX7_start 0 = .ok (.aload_n 0, 1) := by decide +kernel
theorem dX7_start_1 : decode cX7_start 1 = .ok (.iconst 0, 1) := by decide +kernel
theorem dX7_start_2 : decode cX7_start 2 = .ok (.putfield 19, 3) := by decide +kernel
theorem dX7_start_5 : decode cX7_start 5 = .ok (.return_, 1) := by decide +kernel
theorem dX7_position_0 : decode cX7_position 0 = .ok (.aload_n 0, 1) := by decide +kernel
theorem dX7_position_1 : decode cX7_position 1 = .ok (.getfield 19, 3) := by decide +kernel
theorem dX7_position_4 : decode cX7_position 4 = .ok (.ireturn, 1) := by decide +kernel
theorem dX7_goTo_0 : decode cX7_goTo 0 = .ok (.aload_n 0, 1) := by decide +kernel
theorem dX7_goTo_1 : decode cX7_goTo 1 = .ok (.iload_n 1, 1) := by decide +kernel
theorem dX7_goTo_2 : decode cX7_goTo 2 = .ok (.putfield 19, 3) := by decide +kernel
theorem dX7_goTo_5 : decode cX7_goTo 5 = .ok (.return_, 1) := by decide +kernel
theorem dX7_isAtEnd_0 : decode cX7_isAtEnd 0 = .ok (.aload_n 0, 1) := by decide +kernel
theorem dX7_isAtEnd_1 : decode cX7_isAtEnd 1 = .ok (.getfield 19, 3) := by decide +kernel
theorem dX7_isAtEnd_4 : decode cX7_isAtEnd 4 = .ok (.aload_n 0, 1) := by decide +kernel
theorem dX7_isAtEnd_5 : decode cX7_isAtEnd 5 = .ok (.getfield 15, 3) := by decide +kernel
theorem dX7_isAtEnd_8 : decode cX7_isAtEnd 8 = .ok (.if_icmp .lt 7, 3) := by decide +kernel
theorem dX7_isAtEnd_11 : decode cX7_isAtEnd 11 = .ok (.iconst 1, 1) := by decide +kernel
theorem dX7_isAtEnd_12 : decode cX7_isAtEnd 12 = .ok (.goto 4, 3) := by decide +kernel
theorem dX7_isAtEnd_15 : decode cX7_isAtEnd 15 = .ok (.iconst 0, 1) := by decide +kernel
theorem dX7_isAtEnd_16 : decode cX7_isAtEnd 16 = .ok (.ireturn, 1) := by decide +kernel
theorem dX7_next_0 : decode cX7_next 0 = .ok (.aload_n 0, 1) := by decide +kernel
theorem dX7_next_1 : decode cX7_next 1 = .ok (.getfield 19, 3) := by decide +kernel
theorem dX7_next_4 : decode cX7_next 4 = .ok (.aload_n 0, 1) := by decide +kernel
theorem dX7_next_5 : decode cX7_next 5 = .ok (.getfield 15, 3) := by decide +kernel
theorem dX7_next_8 : decode cX7_next 8 = .ok (.if_icmp .ge 15, 3) := by decide +kernel
theorem dX7_next_11 : decode cX7_next 11 = .ok (.aload_n 0, 1) := by decide +kernel
theorem dX7_next_12 : decode cX7_next 12 = .ok (.getfield 9, 3) := by decide +kernel
theorem dX7_next_15 : decode cX7_next 15 = .ok (.aload_n 0, 1) := by decide +kernel
theorem dX7_next_16 : decode cX7_next 16 = .ok (.getfield 19, 3) := by decide +kernel
theorem dX7_next_19 : decode cX7_next 19 = .ok (.caload, 1) := by decide +kernel
theorem dX7_next_20 : decode cX7_next 20 = .ok (.goto 4, 3) := by decide +kernel
theorem dX7_next_23 : decode cX7_next 23 = .ok (.iconst 0, 1) := by decide +kernel
theorem dX7_next_24 : decode cX7_next 24 = .ok (.ireturn, 1) := by decide +kernel
theorem dX7_take_0 : decode cX7_take 0 = .ok (.aload_n 0, 1) := by decide +kernel
theorem dX7_take_1 : decode cX7_take 1 = .ok (.invokevirtual 22, 3) := by decide +kernel
theorem dX7_take_4 : decode cX7_take 4 = .ok (.iload_n 1, 1) := by decide +kernel
theorem dX7_take_5 : decode cX7_take 5 = .ok (.if_icmp .eq 5, 3) := by decide +kernel
theorem dX7_take_8 : decode cX7_take 8 = .ok (.iconst 0, 1) := by decide +kernel
theorem dX7_take_9 : decode cX7_take 9 = .ok (.ireturn, 1) := by decide +kernel
theorem dX7_take_10 : decode cX7_take 10 = .ok (.aload_n 0, 1) := by decide +kernel
theorem dX7_take_11 : decode cX7_take 11 = .ok (.dup, 1) := by decide +kernel
theorem dX7_take_12 : decode cX7_take 12 = .ok (.getfield 19, 3) := by decide +kernel
theorem dX7_take_15 : decode cX7_take 15 = .ok (.iconst 1, 1) := by decide +kernel
theorem dX7_take_16 : decode cX7_take 16 = .ok (.iadd, 1) := by decide +kernel
theorem dX7_take_17 : decode cX7_take 17 = .ok (.putfield 19, 3) := by decide +kernel
theorem dX7_take_20 : decode cX7_take 20 = .ok (.iconst 1, 1) := by decide +kernel
theorem dX7_take_21 : decode cX7_take 21 = .ok (.ireturn, 1) := by decide +kernel
theorem dX7_takeWord_0 : decode cX7_takeWord 0 = .ok (.iconst 0, 1) := by decide +kernel
theorem dX7_takeWord_1 : decode cX7_takeWord 1 = .ok (.istore_n 2, 1) := by decide +kernel
theorem dX7_takeWord_2 : decode cX7_takeWord 2 = .ok (.iload_n 2, 1) := by decide +kernel
theorem dX7_takeWord_3 : decode cX7_takeWord 3 = .ok (.aload_n 1, 1) := by decide +kernel
theorem dX7_takeWord_4 : decode cX7_takeWord 4 = .ok (.invokevirtual 26, 3) := by decide +kernel
theorem dX7_takeWord_7 : decode cX7_takeWord 7 = .ok (.if_icmp .ge 23, 3) := by decide +kernel
theorem dX7_takeWord_10 : decode cX7_takeWord 10 = .ok (.aload_n 0, 1) := by decide +kernel
theorem dX7_takeWord_11 : decode cX7_takeWord 11 = .ok (.aload_n 1, 1) := by decide +kernel
theorem dX7_takeWord_12 : decode cX7_takeWord 12 = .ok (.iload_n 2, 1) := by decide +kernel
theorem dX7_takeWord_13 : decode cX7_takeWord 13 = .ok (.invokevirtual 32, 3) := by decide +kernel
theorem dX7_takeWord_16 : decode cX7_takeWord 16 = .ok (.invokevirtual 36, 3) := by decide +kernel
theorem dX7_takeWord_19 : decode cX7_takeWord 19 = .ok (.ifCond .ne 5, 3) := by decide +kernel
theorem dX7_takeWord_22 : decode cX7_takeWord 22 = .ok (.iconst 0, 1) := by decide +kernel
theorem dX7_takeWord_23 : decode cX7_takeWord 23 = .ok (.ireturn, 1) := by decide +kernel
theorem dX7_takeWord_24 : decode cX7_takeWord 24 = .ok (.iinc 2 1, 3) := by decide +kernel
theorem dX7_takeWord_27 : decode cX7_takeWord 27 = .ok (.goto (-25), 3) := by decide +kernel
theorem dX7_takeWord_30 : decode cX7_takeWord 30 = .ok (.iconst 1, 1) := by decide +kernel
theorem dX7_takeWord_31 : decode cX7_takeWord 31 = .ok (.ireturn, 1) := by decide +kernel
theorem dX7_takeLetters_0 : decode cX7_takeLetters 0 = .ok (.iconst 0, 1) := by decide +kernel
theorem dX7_takeLetters_1 : decode cX7_takeLetters 1 = .ok (.istore_n 3, 1) := by decide +kernel
theorem dX7_takeLetters_2 : decode cX7_takeLetters 2 = .ok (.iload_n 3, 1) := by decide +kernel
theorem dX7_takeLetters_3 : decode cX7_takeLetters 3 = .ok (.bipush 10, 2) := by decide +kernel
theorem dX7_takeLetters_5 : decode cX7_takeLetters 5 = .ok (.if_icmp .ge 46, 3) := by decide +kernel
theorem dX7_takeLetters_8 : decode cX7_takeLetters 8 = .ok (.aload_n 0, 1) := by decide +kernel
theorem dX7_takeLetters_9 : decode cX7_takeLetters 9 = .ok (.invokevirtual 22, 3) := by decide +kernel
theorem dX7_takeLetters_12 : decode cX7_takeLetters 12 = .ok (.bipush 97, 2) := by decide +kernel
theorem dX7_takeLetters_14 : decode cX7_takeLetters 14 = .ok (.if_icmp .lt 37, 3) := by decide +kernel
theorem dX7_takeLetters_17 : decode cX7_takeLetters 17 = .ok (.aload_n 0, 1) := by decide +kernel
theorem dX7_takeLetters_18 : decode cX7_takeLetters 18 = .ok (.invokevirtual 22, 3) := by decide +kernel
theorem dX7_takeLetters_21 : decode cX7_takeLetters 21 = .ok (.bipush 122, 2) := by decide +kernel
theorem dX7_takeLetters_23 : decode cX7_takeLetters 23 = .ok (.if_icmp .gt 28, 3) := by decide +kernel
theorem dX7_takeLetters_26 : decode cX7_takeLetters 26 = .ok (.aload_n 1, 1) := by decide +kernel
theorem dX7_takeLetters_27 : decode cX7_takeLetters 27 = .ok (.iload_n 2, 1) := by decide +kernel
theorem dX7_takeLetters_28 : decode cX7_takeLetters 28 = .ok (.iload_n 3, 1) := by decide +kernel
theorem dX7_takeLetters_29 : decode cX7_takeLetters 29 = .ok (.iadd, 1) := by decide +kernel
theorem dX7_takeLetters_30 : decode cX7_takeLetters 30 = .ok (.aload_n 0, 1) := by decide +kernel
theorem dX7_takeLetters_31 : decode cX7_takeLetters 31 = .ok (.invokevirtual 22, 3) := by decide +kernel
theorem dX7_takeLetters_34 : decode cX7_takeLetters 34 = .ok (.castore, 1) := by decide +kernel
theorem dX7_takeLetters_35 : decode cX7_takeLetters 35 = .ok (.iinc 3 1, 3) := by decide +kernel
theorem dX7_takeLetters_38 : decode cX7_takeLetters 38 = .ok (.aload_n 0, 1) := by decide +kernel
theorem dX7_takeLetters_39 : decode cX7_takeLetters 39 = .ok (.dup, 1) := by decide +kernel
theorem dX7_takeLetters_40 : decode cX7_takeLetters 40 = .ok (.getfield 19, 3) := by decide +kernel
theorem dX7_takeLetters_43 : decode cX7_takeLetters 43 = .ok (.iconst 1, 1) := by decide +kernel
theorem dX7_takeLetters_44 : decode cX7_takeLetters 44 = .ok (.iadd, 1) := by decide +kernel
theorem dX7_takeLetters_45 : decode cX7_takeLetters 45 = .ok (.putfield 19, 3) := by decide +kernel
theorem dX7_takeLetters_48 : decode cX7_takeLetters 48 = .ok (.goto (-46), 3) := by decide +kernel
theorem dX7_takeLetters_51 : decode cX7_takeLetters 51 = .ok (.iload_n 3, 1) := by decide +kernel
theorem dX7_takeLetters_52 : decode cX7_takeLetters 52 = .ok (.ireturn, 1) := by decide +kernel
theorem dX7_takeNumber_0 : decode cX7_takeNumber 0 = .ok (.aload_n 0, 1) := by decide +kernel
theorem dX7_takeNumber_1 : decode cX7_takeNumber 1 = .ok (.bipush 48, 2) := by decide +kernel
theorem dX7_takeNumber_3 : decode cX7_takeNumber 3 = .ok (.invokevirtual 36, 3) := by decide +kernel
theorem dX7_takeNumber_6 : decode cX7_takeNumber 6 = .ok (.ifCond .eq 5, 3) := by decide +kernel
theorem dX7_takeNumber_9 : decode cX7_takeNumber 9 = .ok (.iconst 0, 1) := by decide +kernel
theorem dX7_takeNumber_10 : decode cX7_takeNumber 10 = .ok (.ireturn, 1) := by decide +kernel
theorem dX7_takeNumber_11 : decode cX7_takeNumber 11 = .ok (.iconst 0, 1) := by decide +kernel
theorem dX7_takeNumber_12 : decode cX7_takeNumber 12 = .ok (.istore_n 2, 1) := by decide +kernel
theorem dX7_takeNumber_13 : decode cX7_takeNumber 13 = .ok (.iconst 0, 1) := by decide +kernel
theorem dX7_takeNumber_14 : decode cX7_takeNumber 14 = .ok (.istore_n 3, 1) := by decide +kernel
theorem dX7_takeNumber_15 : decode cX7_takeNumber 15 = .ok (.iload_n 3, 1) := by decide +kernel
theorem dX7_takeNumber_16 : decode cX7_takeNumber 16 = .ok (.iload_n 1, 1) := by decide +kernel
theorem dX7_takeNumber_17 : decode cX7_takeNumber 17 = .ok (.if_icmp .ge 50, 3) := by decide +kernel
theorem dX7_takeNumber_20 : decode cX7_takeNumber 20 = .ok (.aload_n 0, 1) := by decide +kernel
theorem dX7_takeNumber_21 : decode cX7_takeNumber 21 = .ok (.invokevirtual 22, 3) := by decide +kernel
theorem dX7_takeNumber_24 : decode cX7_takeNumber 24 = .ok (.bipush 48, 2) := by decide +kernel
theorem dX7_takeNumber_26 : decode cX7_takeNumber 26 = .ok (.if_icmp .lt 41, 3) := by decide +kernel
theorem dX7_takeNumber_29 : decode cX7_takeNumber 29 = .ok (.aload_n 0, 1) := by decide +kernel
theorem dX7_takeNumber_30 : decode cX7_takeNumber 30 = .ok (.invokevirtual 22, 3) := by decide +kernel
theorem dX7_takeNumber_33 : decode cX7_takeNumber 33 = .ok (.bipush 57, 2) := by decide +kernel
theorem dX7_takeNumber_35 : decode cX7_takeNumber 35 = .ok (.if_icmp .gt 32, 3) := by decide +kernel
theorem dX7_takeNumber_38 : decode cX7_takeNumber 38 = .ok (.iload_n 2, 1) := by decide +kernel
theorem dX7_takeNumber_39 : decode cX7_takeNumber 39 = .ok (.bipush 10, 2) := by decide +kernel
theorem dX7_takeNumber_41 : decode cX7_takeNumber 41 = .ok (.imul, 1) := by decide +kernel
theorem dX7_takeNumber_42 : decode cX7_takeNumber 42 = .ok (.aload_n 0, 1) := by decide +kernel
theorem dX7_takeNumber_43 : decode cX7_takeNumber 43 = .ok (.invokevirtual 22, 3) := by decide +kernel
theorem dX7_takeNumber_46 : decode cX7_takeNumber 46 = .ok (.bipush 48, 2) := by decide +kernel
theorem dX7_takeNumber_48 : decode cX7_takeNumber 48 = .ok (.isub, 1) := by decide +kernel
theorem dX7_takeNumber_49 : decode cX7_takeNumber 49 = .ok (.iadd, 1) := by decide +kernel
theorem dX7_takeNumber_50 : decode cX7_takeNumber 50 = .ok (.istore_n 2, 1) := by decide +kernel
theorem dX7_takeNumber_51 : decode cX7_takeNumber 51 = .ok (.iinc 3 1, 3) := by decide +kernel
theorem dX7_takeNumber_54 : decode cX7_takeNumber 54 = .ok (.aload_n 0, 1) := by decide +kernel
theorem dX7_takeNumber_55 : decode cX7_takeNumber 55 = .ok (.dup, 1) := by decide +kernel
theorem dX7_takeNumber_56 : decode cX7_takeNumber 56 = .ok (.getfield 19, 3) := by decide +kernel
theorem dX7_takeNumber_59 : decode cX7_takeNumber 59 = .ok (.iconst 1, 1) := by decide +kernel
theorem dX7_takeNumber_60 : decode cX7_takeNumber 60 = .ok (.iadd, 1) := by decide +kernel
theorem dX7_takeNumber_61 : decode cX7_takeNumber 61 = .ok (.putfield 19, 3) := by decide +kernel
theorem dX7_takeNumber_64 : decode cX7_takeNumber 64 = .ok (.goto (-49), 3) := by decide +kernel
theorem dX7_takeNumber_67 : decode cX7_takeNumber 67 = .ok (.iload_n 3, 1) := by decide +kernel
theorem dX7_takeNumber_68 : decode cX7_takeNumber 68 = .ok (.ifCond .ne 8, 3) := by decide +kernel
theorem dX7_takeNumber_71 : decode cX7_takeNumber 71 = .ok (.ldc 40, 2) := by decide +kernel
theorem dX7_takeNumber_73 : decode cX7_takeNumber 73 = .ok (.goto 4, 3) := by decide +kernel
theorem dX7_takeNumber_76 : decode cX7_takeNumber 76 = .ok (.iload_n 2, 1) := by decide +kernel
theorem dX7_takeNumber_77 : decode cX7_takeNumber 77 = .ok (.ireturn, 1) := by decide +kernel
theorem dX7_takeValue_0 : decode cX7_takeValue 0 = .ok (.aload_n 0, 1) := by decide +kernel
theorem dX7_takeValue_1 : decode cX7_takeValue 1 = .ok (.bipush 45, 2) := by decide +kernel
theorem dX7_takeValue_3 : decode cX7_takeValue 3 = .ok (.invokevirtual 36, 3) := by decide +kernel
theorem dX7_takeValue_6 : decode cX7_takeValue 6 = .ok (.istore_n 1, 1) := by decide +kernel
theorem dX7_takeValue_7 : decode cX7_takeValue 7 = .ok (.aload_n 0, 1) := by decide +kernel
theorem dX7_takeValue_8 : decode cX7_takeValue 8 = .ok (.iconst 3, 1) := by decide +kernel
theorem dX7_takeValue_9 : decode cX7_takeValue 9 = .ok (.invokevirtual 41, 3) := by decide +kernel
theorem dX7_takeValue_12 : decode cX7_takeValue 12 = .ok (.istore_n 2, 1) := by decide +kernel
theorem dX7_takeValue_13 : decode cX7_takeValue 13 = .ok (.iload_n 1, 1) := by decide +kernel
theorem dX7_takeValue_14 : decode cX7_takeValue 14 = .ok (.ifCond .eq 14, 3) := by decide +kernel
theorem dX7_takeValue_17 : decode cX7_takeValue 17 = .ok (.iload_n 2, 1) := by decide +kernel
theorem dX7_takeValue_18 : decode cX7_takeValue 18 = .ok (.ldc 40, 2) := by decide +kernel
theorem dX7_takeValue_20 : decode cX7_takeValue 20 = .ok (.if_icmp .eq 8, 3) := by decide +kernel
theorem dX7_takeValue_23 : decode cX7_takeValue 23 = .ok (.iload_n 2, 1) := by decide +kernel
theorem dX7_takeValue_24 : decode cX7_takeValue 24 = .ok (.ineg, 1) := by decide +kernel
theorem dX7_takeValue_25 : decode cX7_takeValue 25 = .ok (.goto 4, 3) := by decide +kernel
theorem dX7_takeValue_28 : decode cX7_takeValue 28 = .ok (.iload_n 2, 1) := by decide +kernel
theorem dX7_takeValue_29 : decode cX7_takeValue 29 = .ok (.ireturn, 1) := by decide +kernel
theorem dX8_init_0 : decode cX8_init 0 = .ok (.aload_n 0, 1) := by decide +kernel
theorem dX8_init_1 : decode cX8_init 1 = .ok (.invokespecial 3, 3) := by decide +kernel
theorem dX8_init_4 : decode cX8_init 4 = .ok (.aload_n 0, 1) := by decide +kernel
theorem dX8_init_5 : decode cX8_init 5 = .ok (.bipush 61, 2) := by decide +kernel
theorem dX8_init_7 : decode cX8_init 7 = .ok (.newarray .int, 2) := by decide +kernel
theorem dX8_init_9 : decode cX8_init 9 = .ok (.putfield 9, 3) := by decide +kernel
theorem dX8_init_12 : decode cX8_init 12 = .ok (.aload_n 0, 1) := by decide +kernel
theorem dX8_init_13 : decode cX8_init 13 = .ok (.sipush 732, 3) := by decide +kernel
theorem dX8_init_16 : decode cX8_init 16 = .ok (.newarray .int, 2) := by decide +kernel
theorem dX8_init_18 : decode cX8_init 18 = .ok (.putfield 15, 3) := by decide +kernel
theorem dX8_init_21 : decode cX8_init 21 = .ok (.aload_n 0, 1) := by decide +kernel
theorem dX8_init_22 : decode cX8_init 22 = .ok (.bipush 61, 2) := by decide +kernel
theorem dX8_init_24 : decode cX8_init 24 = .ok (.newarray .int, 2) := by decide +kernel
theorem dX8_init_26 : decode cX8_init 26 = .ok (.putfield 18, 3) := by decide +kernel
theorem dX8_init_29 : decode cX8_init 29 = .ok (.aload_n 0, 1) := by decide +kernel
theorem dX8_init_30 : decode cX8_init 30 = .ok (.sipush 610, 3) := by decide +kernel
theorem dX8_init_33 : decode cX8_init 33 = .ok (.newarray .char, 2) := by decide +kernel
theorem dX8_init_35 : decode cX8_init 35 = .ok (.putfield 21, 3) := by decide +kernel
theorem dX8_init_38 : decode cX8_init 38 = .ok (.aload_n 0, 1) := by decide +kernel
theorem dX8_init_39 : decode cX8_init 39 = .ok (.bipush 61, 2) := by decide +kernel
theorem dX8_init_41 : decode cX8_init 41 = .ok (.newarray .int, 2) := by decide +kernel
theorem dX8_init_43 : decode cX8_init 43 = .ok (.putfield 25, 3) := by decide +kernel
theorem dX8_init_46 : decode cX8_init 46 = .ok (.aload_n 0, 1) := by decide +kernel
theorem dX8_init_47 : decode cX8_init 47 = .ok (.bipush 61, 2) := by decide +kernel
theorem dX8_init_49 : decode cX8_init 49 = .ok (.newarray .int, 2) := by decide +kernel
theorem dX8_init_51 : decode cX8_init 51 = .ok (.putfield 28, 3) := by decide +kernel
theorem dX8_init_54 : decode cX8_init 54 = .ok (.aload_n 0, 1) := by decide +kernel
theorem dX8_init_55 : decode cX8_init 55 = .ok (.lconst 1, 1) := by decide +kernel
theorem dX8_init_56 : decode cX8_init 56 = .ok (.putfield 31, 3) := by decide +kernel
theorem dX8_init_59 : decode cX8_init 59 = .ok (.aload_n 0, 1) := by decide +kernel
theorem dX8_init_60 : decode cX8_init 60 = .ok (.lconst 0, 1) := by decide +kernel
theorem dX8_init_61 : decode cX8_init 61 = .ok (.putfield 35, 3) := by decide +kernel
theorem dX8_init_64 : decode cX8_init 64 = .ok (.aload_n 0, 1) := by decide +kernel
theorem dX8_init_65 : decode cX8_init 65 = .ok (.lconst 0, 1) := by decide +kernel
theorem dX8_init_66 : decode cX8_init 66 = .ok (.putfield 38, 3) := by decide +kernel
theorem dX8_init_69 : decode cX8_init 69 = .ok (.aload_n 0, 1) := by decide +kernel
theorem dX8_init_70 : decode cX8_init 70 = .ok (.iconst 0, 1) := by decide +kernel
theorem dX8_init_71 : decode cX8_init 71 = .ok (.putfield 41, 3) := by decide +kernel
theorem dX8_init_74 : decode cX8_init 74 = .ok (.aload_n 0, 1) := by decide +kernel
theorem dX8_init_75 : decode cX8_init 75 = .ok (.getfield 28, 3) := by decide +kernel
theorem dX8_init_78 : decode cX8_init 78 = .ok (.iconst 0, 1) := by decide +kernel
theorem dX8_init_79 : decode cX8_init 79 = .ok (.iconst (-1), 1) := by decide +kernel
theorem dX8_init_80 : decode cX8_init 80 = .ok (.iastore, 1) := by decide +kernel
theorem dX8_init_81 : decode cX8_init 81 = .ok (.return_, 1) := by decide +kernel
theorem dX8_reset_0 : decode cX8_reset 0 = .ok (.aload_n 0, 1) := by decide +kernel
theorem dX8_reset_1 : decode cX8_reset 1 = .ok (.lconst 1, 1) := by decide +kernel
theorem dX8_reset_2 : decode cX8_reset 2 = .ok (.putfield 31, 3) := by decide +kernel
theorem dX8_reset_5 : decode cX8_reset 5 = .ok (.aload_n 0, 1) := by decide +kernel
theorem dX8_reset_6 : decode cX8_reset 6 = .ok (.lconst 0, 1) := by decide +kernel
theorem dX8_reset_7 : decode cX8_reset 7 = .ok (.putfield 35, 3) := by decide +kernel
theorem dX8_reset_10 : decode cX8_reset 10 = .ok (.aload_n 0, 1) := by decide +kernel
theorem dX8_reset_11 : decode cX8_reset 11 = .ok (.lconst 0, 1) := by decide +kernel
theorem dX8_reset_12 : decode cX8_reset 12 = .ok (.putfield 38, 3) := by decide +kernel
theorem dX8_reset_15 : decode cX8_reset 15 = .ok (.aload_n 0, 1) := by decide +kernel
theorem dX8_reset_16 : decode cX8_reset 16 = .ok (.iconst 0, 1) := by decide +kernel
theorem dX8_reset_17 : decode cX8_reset 17 = .ok (.putfield 41, 3) := by decide +kernel
theorem dX8_reset_20 : decode cX8_reset 20 = .ok (.aload_n 0, 1) := by decide +kernel
theorem dX8_reset_21 : decode cX8_reset 21 = .ok (.getfield 9, 3) := by decide +kernel
theorem dX8_reset_24 : decode cX8_reset 24 = .ok (.iconst 0, 1) := by decide +kernel
theorem dX8_reset_25 : decode cX8_reset 25 = .ok (.iconst 0, 1) := by decide +kernel
theorem dX8_reset_26 : decode cX8_reset 26 = .ok (.iastore, 1) := by decide +kernel
theorem dX8_reset_27 : decode cX8_reset 27 = .ok (.aload_n 0, 1) := by decide +kernel
theorem dX8_reset_28 : decode cX8_reset 28 = .ok (.getfield 25, 3) := by decide +kernel
theorem dX8_reset_31 : decode cX8_reset 31 = .ok (.iconst 0, 1) := by decide +kernel
theorem dX8_reset_32 : decode cX8_reset 32 = .ok (.iconst 0, 1) := by decide +kernel
theorem dX8_reset_33 : decode cX8_reset 33 = .ok (.iastore, 1) := by decide +kernel
theorem dX8_reset_34 : decode cX8_reset 34 = .ok (.aload_n 0, 1) := by decide +kernel
theorem dX8_reset_35 : decode cX8_reset 35 = .ok (.getfield 28, 3) := by decide +kernel
theorem dX8_reset_38 : decode cX8_reset 38 = .ok (.iconst 0, 1) := by decide +kernel
theorem dX8_reset_39 : decode cX8_reset 39 = .ok (.iconst (-1), 1) := by decide +kernel
theorem dX8_reset_40 : decode cX8_reset 40 = .ok (.iastore, 1) := by decide +kernel
theorem dX8_reset_41 : decode cX8_reset 41 = .ok (.return_, 1) := by decide +kernel
theorem dX8_copyFrom_0 : decode cX8_copyFrom 0 = .ok (.aload_n 1, 1) := by decide +kernel
theorem dX8_copyFrom_1 : decode cX8_copyFrom 1 = .ok (.getfield 9, 3) := by decide +kernel
theorem dX8_copyFrom_4 : decode cX8_copyFrom 4 = .ok (.iconst 0, 1) := by decide +kernel
theorem dX8_copyFrom_5 : decode cX8_copyFrom 5 = .ok (.aload_n 0, 1) := by decide +kernel
theorem dX8_copyFrom_6 : decode cX8_copyFrom 6 = .ok (.getfield 9, 3) := by decide +kernel
theorem dX8_copyFrom_9 : decode cX8_copyFrom 9 = .ok (.iconst 0, 1) := by decide +kernel
theorem dX8_copyFrom_10 : decode cX8_copyFrom 10 = .ok (.bipush 61, 2) := by decide +kernel
theorem dX8_copyFrom_12 : decode cX8_copyFrom 12 = .ok (.invokestatic 45, 3) := by decide +kernel
theorem dX8_copyFrom_15 : decode cX8_copyFrom 15 = .ok (.aload_n 1, 1) := by decide +kernel
theorem dX8_copyFrom_16 : decode cX8_copyFrom 16 = .ok (.getfield 15, 3) := by decide +kernel
theorem dX8_copyFrom_19 : decode cX8_copyFrom 19 = .ok (.iconst 0, 1) := by decide +kernel
theorem dX8_copyFrom_20 : decode cX8_copyFrom 20 = .ok (.aload_n 0, 1) := by decide +kernel
theorem dX8_copyFrom_21 : decode cX8_copyFrom 21 = .ok (.getfield 15, 3) := by decide +kernel
theorem dX8_copyFrom_24 : decode cX8_copyFrom 24 = .ok (.iconst 0, 1) := by decide +kernel
theorem dX8_copyFrom_25 : decode cX8_copyFrom 25 = .ok (.sipush 732, 3) := by decide +kernel
theorem dX8_copyFrom_28 : decode cX8_copyFrom 28 = .ok (.invokestatic 45, 3) := by decide +kernel
theorem dX8_copyFrom_31 : decode cX8_copyFrom 31 = .ok (.aload_n 1, 1) := by decide +kernel
theorem dX8_copyFrom_32 : decode cX8_copyFrom 32 = .ok (.getfield 18, 3) := by decide +kernel
theorem dX8_copyFrom_35 : decode cX8_copyFrom 35 = .ok (.iconst 0, 1) := by decide +kernel
theorem dX8_copyFrom_36 : decode cX8_copyFrom 36 = .ok (.aload_n 0, 1) := by decide +kernel
theorem dX8_copyFrom_37 : decode cX8_copyFrom 37 = .ok (.getfield 18, 3) := by decide +kernel
theorem dX8_copyFrom_40 : decode cX8_copyFrom 40 = .ok (.iconst 0, 1) := by decide +kernel
theorem dX8_copyFrom_41 : decode cX8_copyFrom 41 = .ok (.bipush 61, 2) := by decide +kernel
theorem dX8_copyFrom_43 : decode cX8_copyFrom 43 = .ok (.invokestatic 45, 3) := by decide +kernel
theorem dX8_copyFrom_46 : decode cX8_copyFrom 46 = .ok (.aload_n 1, 1) := by decide +kernel
theorem dX8_copyFrom_47 : decode cX8_copyFrom 47 = .ok (.getfield 21, 3) := by decide +kernel
theorem dX8_copyFrom_50 : decode cX8_copyFrom 50 = .ok (.iconst 0, 1) := by decide +kernel
theorem dX8_copyFrom_51 : decode cX8_copyFrom 51 = .ok (.aload_n 0, 1) := by decide +kernel
theorem dX8_copyFrom_52 : decode cX8_copyFrom 52 = .ok (.getfield 21, 3) := by decide +kernel
theorem dX8_copyFrom_55 : decode cX8_copyFrom 55 = .ok (.iconst 0, 1) := by decide +kernel
theorem dX8_copyFrom_56 : decode cX8_copyFrom 56 = .ok (.sipush 610, 3) := by decide +kernel
theorem dX8_copyFrom_59 : decode cX8_copyFrom 59 = .ok (.invokestatic 45, 3) := by decide +kernel
theorem dX8_copyFrom_62 : decode cX8_copyFrom 62 = .ok (.aload_n 1, 1) := by decide +kernel
theorem dX8_copyFrom_63 : decode cX8_copyFrom 63 = .ok (.getfield 25, 3) := by decide +kernel
theorem dX8_copyFrom_66 : decode cX8_copyFrom 66 = .ok (.iconst 0, 1) := by decide +kernel
theorem dX8_copyFrom_67 : decode cX8_copyFrom 67 = .ok (.aload_n 0, 1) := by decide +kernel
theorem dX8_copyFrom_68 : decode cX8_copyFrom 68 = .ok (.getfield 25, 3) := by decide +kernel
theorem dX8_copyFrom_71 : decode cX8_copyFrom 71 = .ok (.iconst 0, 1) := by decide +kernel
theorem dX8_copyFrom_72 : decode cX8_copyFrom 72 = .ok (.bipush 61, 2) := by decide +kernel
theorem dX8_copyFrom_74 : decode cX8_copyFrom 74 = .ok (.invokestatic 45, 3) := by decide +kernel
theorem dX8_copyFrom_77 : decode cX8_copyFrom 77 = .ok (.aload_n 1, 1) := by decide +kernel
theorem dX8_copyFrom_78 : decode cX8_copyFrom 78 = .ok (.getfield 28, 3) := by decide +kernel
theorem dX8_copyFrom_81 : decode cX8_copyFrom 81 = .ok (.iconst 0, 1) := by decide +kernel
theorem dX8_copyFrom_82 : decode cX8_copyFrom 82 = .ok (.aload_n 0, 1) := by decide +kernel
theorem dX8_copyFrom_83 : decode cX8_copyFrom 83 = .ok (.getfield 28, 3) := by decide +kernel
theorem dX8_copyFrom_86 : decode cX8_copyFrom 86 = .ok (.iconst 0, 1) := by decide +kernel
theorem dX8_copyFrom_87 : decode cX8_copyFrom 87 = .ok (.bipush 61, 2) := by decide +kernel
theorem dX8_copyFrom_89 : decode cX8_copyFrom 89 = .ok (.invokestatic 45, 3) := by decide +kernel
theorem dX8_copyFrom_92 : decode cX8_copyFrom 92 = .ok (.aload_n 0, 1) := by decide +kernel
theorem dX8_copyFrom_93 : decode cX8_copyFrom 93 = .ok (.aload_n 1, 1) := by decide +kernel
theorem dX8_copyFrom_94 : decode cX8_copyFrom 94 = .ok (.getfield 31, 3) := by decide +kernel
theorem dX8_copyFrom_97 : decode cX8_copyFrom 97 = .ok (.putfield 31, 3) := by decide +kernel
theorem dX8_copyFrom_100 : decode cX8_copyFrom 100 = .ok (.aload_n 0, 1) := by decide +kernel
theorem dX8_copyFrom_101 : decode cX8_copyFrom 101 = .ok (.aload_n 1, 1) := by decide +kernel
theorem dX8_copyFrom_102 : decode cX8_copyFrom 102 = .ok (.getfield 35, 3) := by decide +kernel
theorem dX8_copyFrom_105 : decode cX8_copyFrom 105 = .ok (.putfield 35, 3) := by decide +kernel
theorem dX8_copyFrom_108 : decode cX8_copyFrom 108 = .ok (.aload_n 0, 1) := by decide +kernel
theorem dX8_copyFrom_109 : decode cX8_copyFrom 109 = .ok (.aload_n 1, 1) := by decide +kernel
theorem dX8_copyFrom_110 : decode cX8_copyFrom 110 = .ok (.getfield 38, 3) := by decide +kernel
theorem dX8_copyFrom_113 : decode cX8_copyFrom 113 = .ok (.putfield 38, 3) := by decide +kernel
theorem dX8_copyFrom_116 : decode cX8_copyFrom 116 = .ok (.aload_n 0, 1) := by decide +kernel
theorem dX8_copyFrom_117 : decode cX8_copyFrom 117 = .ok (.aload_n 1, 1) := by decide +kernel
theorem dX8_copyFrom_118 : decode cX8_copyFrom 118 = .ok (.getfield 41, 3) := by decide +kernel
theorem dX8_copyFrom_121 : decode cX8_copyFrom 121 = .ok (.putfield 41, 3) := by decide +kernel
theorem dX8_copyFrom_124 : decode cX8_copyFrom 124 = .ok (.return_, 1) := by decide +kernel
theorem dX8_holds_0 : decode cX8_holds 0 = .ok (.iload_n 1, 1) := by decide +kernel
theorem dX8_holds_1 : decode cX8_holds 1 = .ok (.ifCond .lt 24, 3) := by decide +kernel
theorem dX8_holds_4 : decode cX8_holds 4 = .ok (.iload_n 1, 1) := by decide +kernel
theorem dX8_holds_5 : decode cX8_holds 5 = .ok (.bipush 61, 2) := by decide +kernel
theorem dX8_holds_7 : decode cX8_holds 7 = .ok (.if_icmp .ge 18, 3) := by decide +kernel
theorem dX8_holds_10 : decode cX8_holds 10 = .ok (.aload_n 0, 1) := by decide +kernel
theorem dX8_holds_11 : decode cX8_holds 11 = .ok (.getfield 31, 3) := by decide +kernel
theorem dX8_holds_14 : decode cX8_holds 14 = .ok (.iload_n 1, 1) := by decide +kernel
theorem dX8_holds_15 : decode cX8_holds 15 = .ok (.invokestatic 51, 3) := by decide +kernel
theorem dX8_holds_18 : decode cX8_holds 18 = .ok (.ifCond .eq 7, 3) := by decide +kernel
theorem dX8_holds_21 : decode cX8_holds 21 = .ok (.iconst 1, 1) := by decide +kernel
theorem dX8_holds_22 : decode cX8_holds 22 = .ok (.goto 4, 3) := by decide +kernel
theorem dX8_holds_25 : decode cX8_holds 25 = .ok (.iconst 0, 1) := by decide +kernel
theorem dX8_holds_26 : decode cX8_holds 26 = .ok (.ireturn, 1) := by decide +kernel
theorem dX8_countItems_0 : decode cX8_countItems 0 = .ok (.aload_n 0, 1) := by decide +kernel
theorem dX8_countItems_1 : decode cX8_countItems 1 = .ok (.getfield 31, 3) := by decide +kernel
theorem dX8_countItems_4 : decode cX8_countItems 4 = .ok (.invokestatic 55, 3) := by decide +kernel
theorem dX8_countItems_7 : decode cX8_countItems 7 = .ok (.ireturn, 1) := by decide +kernel
theorem dX8_countAdded_0 : decode cX8_countAdded 0 = .ok (.aload_n 0, 1) := by decide +kernel
theorem dX8_countAdded_1 : decode cX8_countAdded 1 = .ok (.getfield 41, 3) := by decide +kernel
theorem dX8_countAdded_4 : decode cX8_countAdded 4 = .ok (.ireturn, 1) := by decide +kernel
theorem dX8_presentItems_0 : decode cX8_presentItems 0 = .ok (.aload_n 0, 1) := by decide +kernel
theorem dX8_presentItems_1 : decode cX8_presentItems 1 = .ok (.getfield 31, 3) := by decide +kernel
theorem dX8_presentItems_4 : decode cX8_presentItems 4 = .ok (.lreturn, 1) := by decide +kernel
theorem dX8_doneItems_0 : decode cX8_doneItems 0 = .ok (.aload_n 0, 1) := by decide +kernel
theorem dX8_doneItems_1 : decode cX8_doneItems 1 = .ok (.getfield 35, 3) := by decide +kernel
theorem dX8_doneItems_4 : decode cX8_doneItems 4 = .ok (.lreturn, 1) := by decide +kernel
theorem dX8_foldedItems_0 : decode cX8_foldedItems 0 = .ok (.aload_n 0, 1) := by decide +kernel
theorem dX8_foldedItems_1 : decode cX8_foldedItems 1 = .ok (.getfield 38, 3) := by decide +kernel
theorem dX8_foldedItems_4 : decode cX8_foldedItems 4 = .ok (.lreturn, 1) := by decide +kernel
theorem dX8_nameLength_0 : decode cX8_nameLength 0 = .ok (.aload_n 0, 1) := by decide +kernel
theorem dX8_nameLength_1 : decode cX8_nameLength 1 = .ok (.getfield 18, 3) := by decide +kernel
theorem dX8_nameLength_4 : decode cX8_nameLength 4 = .ok (.iload_n 1, 1) := by decide +kernel
theorem dX8_nameLength_5 : decode cX8_nameLength 5 = .ok (.iaload, 1) := by decide +kernel
theorem dX8_nameLength_6 : decode cX8_nameLength 6 = .ok (.ireturn, 1) := by decide +kernel
theorem dX8_letterAt_0 : decode cX8_letterAt 0 = .ok (.aload_n 0, 1) := by decide +kernel
theorem dX8_letterAt_1 : decode cX8_letterAt 1 = .ok (.getfield 21, 3) := by decide +kernel
theorem dX8_letterAt_4 : decode cX8_letterAt 4 = .ok (.iload_n 1, 1) := by decide +kernel
theorem dX8_letterAt_5 : decode cX8_letterAt 5 = .ok (.bipush 10, 2) := by decide +kernel
theorem dX8_letterAt_7 : decode cX8_letterAt 7 = .ok (.imul, 1) := by decide +kernel
theorem dX8_letterAt_8 : decode cX8_letterAt 8 = .ok (.iload_n 2, 1) := by decide +kernel
theorem dX8_letterAt_9 : decode cX8_letterAt 9 = .ok (.iadd, 1) := by decide +kernel
theorem dX8_letterAt_10 : decode cX8_letterAt 10 = .ok (.caload, 1) := by decide +kernel
theorem dX8_letterAt_11 : decode cX8_letterAt 11 = .ok (.ireturn, 1) := by decide +kernel
theorem dX8_valueOf_0 : decode cX8_valueOf 0 = .ok (.aload_n 0, 1) := by decide +kernel
theorem dX8_valueOf_1 : decode cX8_valueOf 1 = .ok (.getfield 25, 3) := by decide +kernel
theorem dX8_valueOf_4 : decode cX8_valueOf 4 = .ok (.iload_n 1, 1) := by decide +kernel
theorem dX8_valueOf_5 : decode cX8_valueOf 5 = .ok (.iaload, 1) := by decide +kernel
theorem dX8_valueOf_6 : decode cX8_valueOf 6 = .ok (.ireturn, 1) := by decide +kernel
theorem dX8_dayOf_0 : decode cX8_dayOf 0 = .ok (.aload_n 0, 1) := by decide +kernel
theorem dX8_dayOf_1 : decode cX8_dayOf 1 = .ok (.getfield 28, 3) := by decide +kernel
theorem dX8_dayOf_4 : decode cX8_dayOf 4 = .ok (.iload_n 1, 1) := by decide +kernel
theorem dX8_dayOf_5 : decode cX8_dayOf 5 = .ok (.iaload, 1) := by decide +kernel
theorem dX8_dayOf_6 : decode cX8_dayOf 6 = .ok (.ireturn, 1) := by decide +kernel
theorem dX8_childCount_0 : decode cX8_childCount 0 = .ok (.aload_n 0, 1) := by decide +kernel
theorem dX8_childCount_1 : decode cX8_childCount 1 = .ok (.getfield 9, 3) := by decide +kernel
theorem dX8_childCount_4 : decode cX8_childCount 4 = .ok (.iload_n 1, 1) := by decide +kernel
theorem dX8_childCount_5 : decode cX8_childCount 5 = .ok (.iaload, 1) := by decide +kernel
theorem dX8_childCount_6 : decode cX8_childCount 6 = .ok (.ireturn, 1) := by decide +kernel
theorem dX8_childAt_0 : decode cX8_childAt 0 = .ok (.aload_n 0, 1) := by decide +kernel
theorem dX8_childAt_1 : decode cX8_childAt 1 = .ok (.getfield 15, 3) := by decide +kernel
theorem dX8_childAt_4 : decode cX8_childAt 4 = .ok (.iload_n 1, 1) := by decide +kernel
theorem dX8_childAt_5 : decode cX8_childAt 5 = .ok (.bipush 12, 2) := by decide +kernel
theorem dX8_childAt_7 : decode cX8_childAt 7 = .ok (.imul, 1) := by decide +kernel
theorem dX8_childAt_8 : decode cX8_childAt 8 = .ok (.iload_n 2, 1) := by decide +kernel
theorem dX8_childAt_9 : decode cX8_childAt 9 = .ok (.iadd, 1) := by decide +kernel
theorem dX8_childAt_10 : decode cX8_childAt 10 = .ok (.iaload, 1) := by decide +kernel
theorem dX8_childAt_11 : decode cX8_childAt 11 = .ok (.ireturn, 1) := by decide +kernel
theorem dX8_setValue_0 : decode cX8_setValue 0 = .ok (.aload_n 0, 1) := by decide +kernel
theorem dX8_setValue_1 : decode cX8_setValue 1 = .ok (.getfield 25, 3) := by decide +kernel
theorem dX8_setValue_4 : decode cX8_setValue 4 = .ok (.iload_n 1, 1) := by decide +kernel
theorem dX8_setValue_5 : decode cX8_setValue 5 = .ok (.iload_n 2, 1) := by decide +kernel
theorem dX8_setValue_6 : decode cX8_setValue 6 = .ok (.iastore, 1) := by decide +kernel
theorem dX8_setValue_7 : decode cX8_setValue 7 = .ok (.return_, 1) := by decide +kernel
theorem dX8_setDay_0 : decode cX8_setDay 0 = .ok (.aload_n 0, 1) := by decide +kernel
theorem dX8_setDay_1 : decode cX8_setDay 1 = .ok (.getfield 28, 3) := by decide +kernel
theorem dX8_setDay_4 : decode cX8_setDay 4 = .ok (.iload_n 1, 1) := by decide +kernel
theorem dX8_setDay_5 : decode cX8_setDay 5 = .ok (.iload_n 2, 1) := by decide +kernel
theorem dX8_setDay_6 : decode cX8_setDay 6 = .ok (.iastore, 1) := by decide +kernel
theorem dX8_setDay_7 : decode cX8_setDay 7 = .ok (.return_, 1) := by decide +kernel
theorem dX8_setDone_0 : decode cX8_setDone 0 = .ok (.aload_n 0, 1) := by decide +kernel
theorem dX8_setDone_1 : decode cX8_setDone 1 = .ok (.aload_n 0, 1) := by decide +kernel
theorem dX8_setDone_2 : decode cX8_setDone 2 = .ok (.getfield 35, 3) := by decide +kernel
theorem dX8_setDone_5 : decode cX8_setDone 5 = .ok (.iload_n 1, 1) := by decide +kernel
theorem dX8_setDone_6 : decode cX8_setDone 6 = .ok (.iload_n 2, 1) := by decide +kernel
theorem dX8_setDone_7 : decode cX8_setDone 7 = .ok (.invokestatic 61, 3) := by decide +kernel
theorem dX8_setDone_10 : decode cX8_setDone 10 = .ok (.putfield 35, 3) := by decide +kernel
theorem dX8_setDone_13 : decode cX8_setDone 13 = .ok (.return_, 1) := by decide +kernel
theorem dX8_setFolded_0 : decode cX8_setFolded 0 = .ok (.aload_n 0, 1) := by decide +kernel
theorem dX8_setFolded_1 : decode cX8_setFolded 1 = .ok (.aload_n 0, 1) := by decide +kernel
theorem dX8_setFolded_2 : decode cX8_setFolded 2 = .ok (.getfield 38, 3) := by decide +kernel
theorem dX8_setFolded_5 : decode cX8_setFolded 5 = .ok (.iload_n 1, 1) := by decide +kernel
theorem dX8_setFolded_6 : decode cX8_setFolded 6 = .ok (.iload_n 2, 1) := by decide +kernel
theorem dX8_setFolded_7 : decode cX8_setFolded 7 = .ok (.invokestatic 61, 3) := by decide +kernel
theorem dX8_setFolded_10 : decode cX8_setFolded 10 = .ok (.putfield 38, 3) := by decide +kernel
theorem dX8_setFolded_13 : decode cX8_setFolded 13 = .ok (.return_, 1) := by decide +kernel
theorem dX8_setName_0 : decode cX8_setName 0 = .ok (.aload_n 0, 1) := by decide +kernel
theorem dX8_setName_1 : decode cX8_setName 1 = .ok (.getfield 18, 3) := by decide +kernel
theorem dX8_setName_4 : decode cX8_setName 4 = .ok (.iload_n 1, 1) := by decide +kernel
theorem dX8_setName_5 : decode cX8_setName 5 = .ok (.iload 4, 2) := by decide +kernel
theorem dX8_setName_7 : decode cX8_setName 7 = .ok (.iastore, 1) := by decide +kernel
theorem dX8_setName_8 : decode cX8_setName 8 = .ok (.aload_n 2, 1) := by decide +kernel
theorem dX8_setName_9 : decode cX8_setName 9 = .ok (.iload_n 3, 1) := by decide +kernel
theorem dX8_setName_10 : decode cX8_setName 10 = .ok (.aload_n 0, 1) := by decide +kernel
theorem dX8_setName_11 : decode cX8_setName 11 = .ok (.getfield 21, 3) := by decide +kernel
theorem dX8_setName_14 : decode cX8_setName 14 = .ok (.iload_n 1, 1) := by decide +kernel
theorem dX8_setName_15 : decode cX8_setName 15 = .ok (.bipush 10, 2) := by decide +kernel
theorem dX8_setName_17 : decode cX8_setName 17 = .ok (.imul, 1) := by decide +kernel
theorem dX8_setName_18 : decode cX8_setName 18 = .ok (.iload 4, 2) := by decide +kernel
theorem dX8_setName_20 : decode cX8_setName 20 = .ok (.invokestatic 45, 3) := by decide +kernel
theorem dX8_setName_23 : decode cX8_setName 23 = .ok (.return_, 1) := by decide +kernel
theorem dX8_makeItem_0 : decode cX8_makeItem 0 = .ok (.aload_n 0, 1) := by decide +kernel
theorem dX8_makeItem_1 : decode cX8_makeItem 1 = .ok (.dup, 1) := by decide +kernel
theorem dX8_makeItem_2 : decode cX8_makeItem 2 = .ok (.getfield 41, 3) := by decide +kernel
theorem dX8_makeItem_5 : decode cX8_makeItem 5 = .ok (.iconst 1, 1) := by decide +kernel
theorem dX8_makeItem_6 : decode cX8_makeItem 6 = .ok (.iadd, 1) := by decide +kernel
theorem dX8_makeItem_7 : decode cX8_makeItem 7 = .ok (.putfield 41, 3) := by decide +kernel
theorem dX8_makeItem_10 : decode cX8_makeItem 10 = .ok (.aload_n 0, 1) := by decide +kernel
theorem dX8_makeItem_11 : decode cX8_makeItem 11 = .ok (.getfield 41, 3) := by decide +kernel
theorem dX8_makeItem_14 : decode cX8_makeItem 14 = .ok (.istore 4, 2) := by decide +kernel
theorem dX8_makeItem_16 : decode cX8_makeItem 16 = .ok (.aload_n 0, 1) := by decide +kernel
theorem dX8_makeItem_17 : decode cX8_makeItem 17 = .ok (.aload_n 0, 1) := by decide +kernel
theorem dX8_makeItem_18 : decode cX8_makeItem 18 = .ok (.getfield 31, 3) := by decide +kernel
theorem dX8_makeItem_21 : decode cX8_makeItem 21 = .ok (.iload 4, 2) := by decide +kernel
theorem dX8_makeItem_23 : decode cX8_makeItem 23 = .ok (.iconst 1, 1) := by decide +kernel
theorem dX8_makeItem_24 : decode cX8_makeItem 24 = .ok (.invokestatic 61, 3) := by decide +kernel
theorem dX8_makeItem_27 : decode cX8_makeItem 27 = .ok (.putfield 31, 3) := by decide +kernel
theorem dX8_makeItem_30 : decode cX8_makeItem 30 = .ok (.aload_n 0, 1) := by decide +kernel
theorem dX8_makeItem_31 : decode cX8_makeItem 31 = .ok (.aload_n 0, 1) := by decide +kernel
theorem dX8_makeItem_32 : decode cX8_makeItem 32 = .ok (.getfield 35, 3) := by decide +kernel
theorem dX8_makeItem_35 : decode cX8_makeItem 35 = .ok (.iload 4, 2) := by decide +kernel
theorem dX8_makeItem_37 : decode cX8_makeItem 37 = .ok (.iconst 0, 1) := by decide +kernel
theorem dX8_makeItem_38 : decode cX8_makeItem 38 = .ok (.invokestatic 61, 3) := by decide +kernel
theorem dX8_makeItem_41 : decode cX8_makeItem 41 = .ok (.putfield 35, 3) := by decide +kernel
theorem dX8_makeItem_44 : decode cX8_makeItem 44 = .ok (.aload_n 0, 1) := by decide +kernel
theorem dX8_makeItem_45 : decode cX8_makeItem 45 = .ok (.aload_n 0, 1) := by decide +kernel
theorem dX8_makeItem_46 : decode cX8_makeItem 46 = .ok (.getfield 38, 3) := by decide +kernel
theorem dX8_makeItem_49 : decode cX8_makeItem 49 = .ok (.iload 4, 2) := by decide +kernel
theorem dX8_makeItem_51 : decode cX8_makeItem 51 = .ok (.iconst 0, 1) := by decide +kernel
theorem dX8_makeItem_52 : decode cX8_makeItem 52 = .ok (.invokestatic 61, 3) := by decide +kernel
theorem dX8_makeItem_55 : decode cX8_makeItem 55 = .ok (.putfield 38, 3) := by decide +kernel
theorem dX8_makeItem_58 : decode cX8_makeItem 58 = .ok (.aload_n 0, 1) := by decide +kernel
theorem dX8_makeItem_59 : decode cX8_makeItem 59 = .ok (.getfield 9, 3) := by decide +kernel
theorem dX8_makeItem_62 : decode cX8_makeItem 62 = .ok (.iload 4, 2) := by decide +kernel
theorem dX8_makeItem_64 : decode cX8_makeItem 64 = .ok (.iconst 0, 1) := by decide +kernel
theorem dX8_makeItem_65 : decode cX8_makeItem 65 = .ok (.iastore, 1) := by decide +kernel
theorem dX8_makeItem_66 : decode cX8_makeItem 66 = .ok (.aload_n 0, 1) := by decide +kernel
theorem dX8_makeItem_67 : decode cX8_makeItem 67 = .ok (.getfield 25, 3) := by decide +kernel
theorem dX8_makeItem_70 : decode cX8_makeItem 70 = .ok (.iload 4, 2) := by decide +kernel
theorem dX8_makeItem_72 : decode cX8_makeItem 72 = .ok (.iconst 0, 1) := by decide +kernel
theorem dX8_makeItem_73 : decode cX8_makeItem 73 = .ok (.iastore, 1) := by decide +kernel
theorem dX8_makeItem_74 : decode cX8_makeItem 74 = .ok (.aload_n 0, 1) := by decide +kernel
theorem dX8_makeItem_75 : decode cX8_makeItem 75 = .ok (.getfield 28, 3) := by decide +kernel
theorem dX8_makeItem_78 : decode cX8_makeItem 78 = .ok (.iload 4, 2) := by decide +kernel
theorem dX8_makeItem_80 : decode cX8_makeItem 80 = .ok (.iconst (-1), 1) := by decide +kernel
theorem dX8_makeItem_81 : decode cX8_makeItem 81 = .ok (.iastore, 1) := by decide +kernel
theorem dX8_makeItem_82 : decode cX8_makeItem 82 = .ok (.aload_n 0, 1) := by decide +kernel
theorem dX8_makeItem_83 : decode cX8_makeItem 83 = .ok (.iload 4, 2) := by decide +kernel
theorem dX8_makeItem_85 : decode cX8_makeItem 85 = .ok (.aload_n 1, 1) := by decide +kernel
theorem dX8_makeItem_86 : decode cX8_makeItem 86 = .ok (.iload_n 2, 1) := by decide +kernel
theorem dX8_makeItem_87 : decode cX8_makeItem 87 = .ok (.iload_n 3, 1) := by decide +kernel
theorem dX8_makeItem_88 : decode cX8_makeItem 88 = .ok (.invokevirtual 65, 3) := by decide +kernel
theorem dX8_makeItem_91 : decode cX8_makeItem 91 = .ok (.iload 4, 2) := by decide +kernel
theorem dX8_makeItem_93 : decode cX8_makeItem 93 = .ok (.ireturn, 1) := by decide +kernel
theorem dX8_keepOnly_0 : decode cX8_keepOnly 0 = .ok (.aload_n 0, 1) := by decide +kernel
theorem dX8_keepOnly_1 : decode cX8_keepOnly 1 = .ok (.getfield 31, 3) := by decide +kernel
theorem dX8_keepOnly_4 : decode cX8_keepOnly 4 = .ok (.lload_n 1, 1) := by decide +kernel
theorem dX8_keepOnly_5 : decode cX8_keepOnly 5 = .ok (.ldc2_w 69, 3) := by decide +kernel
theorem dX8_keepOnly_8 : decode cX8_keepOnly 8 = .ok (.lxor, 1) := by decide +kernel
theorem dX8_keepOnly_9 : decode cX8_keepOnly 9 = .ok (.land, 1) := by decide +kernel
theorem dX8_keepOnly_10 : decode cX8_keepOnly 10 = .ok (.lstore_n 3, 1) := by decide +kernel
theorem dX8_keepOnly_11 : decode cX8_keepOnly 11 = .ok (.aload_n 0, 1) := by decide +kernel
theorem dX8_keepOnly_12 : decode cX8_keepOnly 12 = .ok (.dup, 1) := by decide +kernel
theorem dX8_keepOnly_13 : decode cX8_keepOnly 13 = .ok (.getfield 31, 3) := by decide +kernel
theorem dX8_keepOnly_16 : decode cX8_keepOnly 16 = .ok (.lload_n 1, 1) := by decide +kernel
theorem dX8_keepOnly_17 : decode cX8_keepOnly 17 = .ok (.land, 1) := by decide +kernel
theorem dX8_keepOnly_18 : decode cX8_keepOnly 18 = .ok (.putfield 31, 3) := by decide +kernel
theorem dX8_keepOnly_21 : decode cX8_keepOnly 21 = .ok (.lload_n 3, 1) := by decide +kernel
theorem dX8_keepOnly_22 : decode cX8_keepOnly 22 = .ok (.invokestatic 55, 3) := by decide +kernel
theorem dX8_keepOnly_25 : decode cX8_keepOnly 25 = .ok (.ireturn, 1) := by decide +kernel
theorem dX8_insertChild_0 : decode cX8_insertChild 0 = .ok (.iload_n 1, 1) := by decide +kernel
theorem dX8_insertChild_1 : decode cX8_insertChild 1 = .ok (.bipush 12, 2) := by decide +kernel
theorem dX8_insertChild_3 : decode cX8_insertChild 3 = .ok (.imul, 1) := by decide +kernel
theorem dX8_insertChild_4 : decode cX8_insertChild 4 = .ok (.istore 4, 2) := by decide +kernel
theorem dX8_insertChild_6 : decode cX8_insertChild 6 = .ok (.aload_n 0, 1) := by decide +kernel
theorem dX8_insertChild_7 : decode cX8_insertChild 7 = .ok (.getfield 9, 3) := by decide +kernel
theorem dX8_insertChild_10 : decode cX8_insertChild 10 = .ok (.iload_n 1, 1) := by decide +kernel
theorem dX8_insertChild_11 : decode cX8_insertChild 11 = .ok (.iaload, 1) := by decide +kernel
theorem dX8_insertChild_12 : decode cX8_insertChild 12 = .ok (.istore 5, 2) := by decide +kernel
theorem dX8_insertChild_14 : decode cX8_insertChild 14 = .ok (.iload 5, 2) := by decide +kernel
theorem dX8_insertChild_16 : decode cX8_insertChild 16 = .ok (.iload_n 2, 1) := by decide +kernel
theorem dX8_insertChild_17 : decode cX8_insertChild 17 = .ok (.if_icmp .le 31, 3) := by decide +kernel
theorem dX8_insertChild_20 : decode cX8_insertChild 20 = .ok (.aload_n 0, 1) := by decide +kernel
theorem dX8_insertChild_21 : decode cX8_insertChild 21 = .ok (.getfield 15, 3) := by decide +kernel
theorem dX8_insertChild_24 : decode cX8_insertChild 24 = .ok (.iload 4, 2) := by decide +kernel
theorem dX8_insertChild_26 : decode cX8_insertChild 26 = .ok (.iload 5, 2) := by decide +kernel
theorem dX8_insertChild_28 : decode cX8_insertChild 28 = .ok (.iadd, 1) := by decide +kernel
theorem dX8_insertChild_29 : decode cX8_insertChild 29 = .ok (.aload_n 0, 1) := by decide +kernel
theorem dX8_insertChild_30 : decode cX8_insertChild 30 = .ok (.getfield 15, 3) := by decide +kernel
theorem dX8_insertChild_33 : decode cX8_insertChild 33 = .ok (.iload 4, 2) := by decide +kernel
theorem dX8_insertChild_35 : decode cX8_insertChild 35 = .ok (.iload 5, 2) := by decide +kernel
theorem dX8_insertChild_37 : decode cX8_insertChild 37 = .ok (.iadd, 1) := by decide +kernel
theorem dX8_insertChild_38 : decode cX8_insertChild 38 = .ok (.iconst 1, 1) := by decide +kernel
theorem dX8_insertChild_39 : decode cX8_insertChild 39 = .ok (.isub, 1) := by decide +kernel
theorem dX8_insertChild_40 : decode cX8_insertChild 40 = .ok (.iaload, 1) := by decide +kernel
theorem dX8_insertChild_41 : decode cX8_insertChild 41 = .ok (.iastore, 1) := by decide +kernel
theorem dX8_insertChild_42 : decode cX8_insertChild 42 = .ok (.iinc 5 (-1), 3) := by decide +kernel
theorem dX8_insertChild_45 : decode cX8_insertChild 45 = .ok (.goto (-31), 3) := by decide +kernel
theorem dX8_insertChild_48 : decode cX8_insertChild 48 = .ok (.aload_n 0, 1) := by decide +kernel
theorem dX8_insertChild_49 : decode cX8_insertChild 49 = .ok (.getfield 15, 3) := by decide +kernel
theorem dX8_insertChild_52 : decode cX8_insertChild 52 = .ok (.iload 4, 2) := by decide +kernel
theorem dX8_insertChild_54 : decode cX8_insertChild 54 = .ok (.iload_n 2, 1) := by decide +kernel
theorem dX8_insertChild_55 : decode cX8_insertChild 55 = .ok (.iadd, 1) := by decide +kernel
theorem dX8_insertChild_56 : decode cX8_insertChild 56 = .ok (.iload_n 3, 1) := by decide +kernel
theorem dX8_insertChild_57 : decode cX8_insertChild 57 = .ok (.iastore, 1) := by decide +kernel
theorem dX8_insertChild_58 : decode cX8_insertChild 58 = .ok (.aload_n 0, 1) := by decide +kernel
theorem dX8_insertChild_59 : decode cX8_insertChild 59 = .ok (.getfield 9, 3) := by decide +kernel
theorem dX8_insertChild_62 : decode cX8_insertChild 62 = .ok (.iload_n 1, 1) := by decide +kernel
theorem dX8_insertChild_63 : decode cX8_insertChild 63 = .ok (.dup2, 1) := by decide +kernel
theorem dX8_insertChild_64 : decode cX8_insertChild 64 = .ok (.iaload, 1) := by decide +kernel
theorem dX8_insertChild_65 : decode cX8_insertChild 65 = .ok (.iconst 1, 1) := by decide +kernel
theorem dX8_insertChild_66 : decode cX8_insertChild 66 = .ok (.iadd, 1) := by decide +kernel
theorem dX8_insertChild_67 : decode cX8_insertChild 67 = .ok (.iastore, 1) := by decide +kernel
theorem dX8_insertChild_68 : decode cX8_insertChild 68 = .ok (.return_, 1) := by decide +kernel
theorem dX8_removeChild_0 : decode cX8_removeChild 0 = .ok (.iload_n 1, 1) := by decide +kernel
theorem dX8_removeChild_1 : decode cX8_removeChild 1 = .ok (.bipush 12, 2) := by decide +kernel
theorem dX8_removeChild_3 : decode cX8_removeChild 3 = .ok (.imul, 1) := by decide +kernel
theorem dX8_removeChild_4 : decode cX8_removeChild 4 = .ok (.istore_n 3, 1) := by decide +kernel
theorem dX8_removeChild_5 : decode cX8_removeChild 5 = .ok (.aload_n 0, 1) := by decide +kernel
theorem dX8_removeChild_6 : decode cX8_removeChild 6 = .ok (.getfield 9, 3) := by decide +kernel
theorem dX8_removeChild_9 : decode cX8_removeChild 9 = .ok (.iload_n 1, 1) := by decide +kernel
theorem dX8_removeChild_10 : decode cX8_removeChild 10 = .ok (.dup2, 1) := by decide +kernel
theorem dX8_removeChild_11 : decode cX8_removeChild 11 = .ok (.iaload, 1) := by decide +kernel
theorem dX8_removeChild_12 : decode cX8_removeChild 12 = .ok (.iconst 1, 1) := by decide +kernel
theorem dX8_removeChild_13 : decode cX8_removeChild 13 = .ok (.isub, 1) := by decide +kernel
theorem dX8_removeChild_14 : decode cX8_removeChild 14 = .ok (.iastore, 1) := by decide +kernel
theorem dX8_removeChild_15 : decode cX8_removeChild 15 = .ok (.iload_n 2, 1) := by decide +kernel
theorem dX8_removeChild_16 : decode cX8_removeChild 16 = .ok (.istore 4, 2) := by decide +kernel
theorem dX8_removeChild_18 : decode cX8_removeChild 18 = .ok (.iload 4, 2) := by decide +kernel
theorem dX8_removeChild_20 : decode cX8_removeChild 20 = .ok (.aload_n 0, 1) := by decide +kernel
theorem dX8_removeChild_21 : decode cX8_removeChild 21 = .ok (.getfield 9, 3) := by decide +kernel
theorem dX8_removeChild_24 : decode cX8_removeChild 24 = .ok (.iload_n 1, 1) := by decide +kernel
theorem dX8_removeChild_25 : decode cX8_removeChild 25 = .ok (.iaload, 1) := by decide +kernel
theorem dX8_removeChild_26 : decode cX8_removeChild 26 = .ok (.if_icmp .ge 29, 3) := by decide +kernel
theorem dX8_removeChild_29 : decode cX8_removeChild 29 = .ok (.aload_n 0, 1) := by decide +kernel
theorem dX8_removeChild_30 : decode cX8_removeChild 30 = .ok (.getfield 15, 3) := by decide +kernel
theorem dX8_removeChild_33 : decode cX8_removeChild 33 = .ok (.iload_n 3, 1) := by decide +kernel
theorem dX8_removeChild_34 : decode cX8_removeChild 34 = .ok (.iload 4, 2) := by decide +kernel
theorem dX8_removeChild_36 : decode cX8_removeChild 36 = .ok (.iadd, 1) := by decide +kernel
theorem dX8_removeChild_37 : decode cX8_removeChild 37 = .ok (.aload_n 0, 1) := by decide +kernel
theorem dX8_removeChild_38 : decode cX8_removeChild 38 = .ok (.getfield 15, 3) := by decide +kernel
theorem dX8_removeChild_41 : decode cX8_removeChild 41 = .ok (.iload_n 3, 1) := by decide +kernel
theorem dX8_removeChild_42 : decode cX8_removeChild 42 = .ok (.iload 4, 2) := by decide +kernel
theorem dX8_removeChild_44 : decode cX8_removeChild 44 = .ok (.iadd, 1) := by decide +kernel
theorem dX8_removeChild_45 : decode cX8_removeChild 45 = .ok (.iconst 1, 1) := by decide +kernel
theorem dX8_removeChild_46 : decode cX8_removeChild 46 = .ok (.iadd, 1) := by decide +kernel
theorem dX8_removeChild_47 : decode cX8_removeChild 47 = .ok (.iaload, 1) := by decide +kernel
theorem dX8_removeChild_48 : decode cX8_removeChild 48 = .ok (.iastore, 1) := by decide +kernel
theorem dX8_removeChild_49 : decode cX8_removeChild 49 = .ok (.iinc 4 1, 3) := by decide +kernel
theorem dX8_removeChild_52 : decode cX8_removeChild 52 = .ok (.goto (-34), 3) := by decide +kernel
theorem dX8_removeChild_55 : decode cX8_removeChild 55 = .ok (.return_, 1) := by decide +kernel
theorem dX8_hasChild_0 : decode cX8_hasChild 0 = .ok (.iconst 0, 1) := by decide +kernel
theorem dX8_hasChild_1 : decode cX8_hasChild 1 = .ok (.istore_n 3, 1) := by decide +kernel
theorem dX8_hasChild_2 : decode cX8_hasChild 2 = .ok (.iload_n 3, 1) := by decide +kernel
theorem dX8_hasChild_3 : decode cX8_hasChild 3 = .ok (.aload_n 0, 1) := by decide +kernel
theorem dX8_hasChild_4 : decode cX8_hasChild 4 = .ok (.getfield 9, 3) := by decide +kernel
theorem dX8_hasChild_7 : decode cX8_hasChild 7 = .ok (.iload_n 1, 1) := by decide +kernel
theorem dX8_hasChild_8 : decode cX8_hasChild 8 = .ok (.iaload, 1) := by decide +kernel
theorem dX8_hasChild_9 : decode cX8_hasChild 9 = .ok (.if_icmp .ge 21, 3) := by decide +kernel
theorem dX8_hasChild_12 : decode cX8_hasChild 12 = .ok (.aload_n 0, 1) := by decide +kernel
theorem dX8_hasChild_13 : decode cX8_hasChild 13 = .ok (.iload_n 1, 1) := by decide +kernel
theorem dX8_hasChild_14 : decode cX8_hasChild 14 = .ok (.iload_n 3, 1) := by decide +kernel
theorem dX8_hasChild_15 : decode cX8_hasChild 15 = .ok (.invokevirtual 71, 3) := by decide +kernel
theorem dX8_hasChild_18 : decode cX8_hasChild 18 = .ok (.iload_n 2, 1) := by decide +kernel
theorem dX8_hasChild_19 : decode cX8_hasChild 19 = .ok (.if_icmp .ne 5, 3) := by decide +kernel
theorem dX8_hasChild_22 : decode cX8_hasChild 22 = .ok (.iconst 1, 1) := by decide +kernel
theorem dX8_hasChild_23 : decode cX8_hasChild 23 = .ok (.ireturn, 1) := by decide +kernel
theorem dX8_hasChild_24 : decode cX8_hasChild 24 = .ok (.iinc 3 1, 3) := by decide +kernel
theorem dX8_hasChild_27 : decode cX8_hasChild 27 = .ok (.goto (-25), 3) := by decide +kernel
theorem dX8_hasChild_30 : decode cX8_hasChild 30 = .ok (.iconst 0, 1) := by decide +kernel
theorem dX8_hasChild_31 : decode cX8_hasChild 31 = .ok (.ireturn, 1) := by decide +kernel
theorem dX8_countParents_0 : decode cX8_countParents 0 = .ok (.iconst 0, 1) := by decide +kernel
theorem dX8_countParents_1 : decode cX8_countParents 1 = .ok (.istore_n 2, 1) := by decide +kernel
theorem dX8_countParents_2 : decode cX8_countParents 2 = .ok (.iconst 0, 1) := by decide +kernel
theorem dX8_countParents_3 : decode cX8_countParents 3 = .ok (.istore_n 3, 1) := by decide +kernel
theorem dX8_countParents_4 : decode cX8_countParents 4 = .ok (.iload_n 3, 1) := by decide +kernel
theorem dX8_countParents_5 : decode cX8_countParents 5 = .ok (.bipush 61, 2) := by decide +kernel
theorem dX8_countParents_7 : decode cX8_countParents 7 = .ok (.if_icmp .ge 34, 3) := by decide +kernel
theorem dX8_countParents_10 : decode cX8_countParents 10 = .ok (.iload_n 2, 1) := by decide +kernel
theorem dX8_countParents_11 : decode cX8_countParents 11 = .ok (.aload_n 0, 1) := by decide +kernel
theorem dX8_countParents_12 : decode cX8_countParents 12 = .ok (.iload_n 3, 1) := by decide +kernel
theorem dX8_countParents_13 : decode cX8_countParents 13 = .ok (.invokevirtual 75, 3) := by decide +kernel
theorem dX8_countParents_16 : decode cX8_countParents 16 = .ok (.ifCond .eq 16, 3) := by decide +kernel
theorem dX8_countParents_19 : decode cX8_countParents 19 = .ok (.aload_n 0, 1) := by decide +kernel
theorem dX8_countParents_20 : decode cX8_countParents 20 = .ok (.iload_n 3, 1) := by decide +kernel
theorem dX8_countParents_21 : decode cX8_countParents 21 = .ok (.iload_n 1, 1) := by decide +kernel
theorem dX8_countParents_22 : decode cX8_countParents 22 = .ok (.invokevirtual 79, 3) := by decide +kernel
theorem dX8_countParents_25 : decode cX8_countParents 25 = .ok (.ifCond .eq 7, 3) := by decide +kernel
theorem dX8_countParents_28 : decode cX8_countParents 28 = .ok (.iconst 1, 1) := by decide +kernel
theorem dX8_countParents_29 : decode cX8_countParents 29 = .ok (.goto 4, 3) := by decide +kernel
theorem dX8_countParents_32 : decode cX8_countParents 32 = .ok (.iconst 0, 1) := by decide +kernel
theorem dX8_countParents_33 : decode cX8_countParents 33 = .ok (.iadd, 1) := by decide +kernel
theorem dX8_countParents_34 : decode cX8_countParents 34 = .ok (.istore_n 2, 1) := by decide +kernel
theorem dX8_countParents_35 : decode cX8_countParents 35 = .ok (.iinc 3 1, 3) := by decide +kernel
theorem dX8_countParents_38 : decode cX8_countParents 38 = .ok (.goto (-34), 3) := by decide +kernel
theorem dX8_countParents_41 : decode cX8_countParents 41 = .ok (.iload_n 2, 1) := by decide +kernel
theorem dX8_countParents_42 : decode cX8_countParents 42 = .ok (.ireturn, 1) := by decide +kernel
theorem dX8_parentAt_0 : decode cX8_parentAt 0 = .ok (.iconst 0, 1) := by decide +kernel
theorem dX8_parentAt_1 : decode cX8_parentAt 1 = .ok (.istore_n 3, 1) := by decide +kernel
theorem dX8_parentAt_2 : decode cX8_parentAt 2 = .ok (.iconst 0, 1) := by decide +kernel
theorem dX8_parentAt_3 : decode cX8_parentAt 3 = .ok (.istore 4, 2) := by decide +kernel
theorem dX8_parentAt_5 : decode cX8_parentAt 5 = .ok (.iload 4, 2) := by decide +kernel
theorem dX8_parentAt_7 : decode cX8_parentAt 7 = .ok (.bipush 61, 2) := by decide +kernel
theorem dX8_parentAt_9 : decode cX8_parentAt 9 = .ok (.if_icmp .ge 39, 3) := by decide +kernel
theorem dX8_parentAt_12 : decode cX8_parentAt 12 = .ok (.aload_n 0, 1) := by decide +kernel
theorem dX8_parentAt_13 : decode cX8_parentAt 13 = .ok (.iload 4, 2) := by decide +kernel
theorem dX8_parentAt_15 : decode cX8_parentAt 15 = .ok (.invokevirtual 75, 3) := by decide +kernel
theorem dX8_parentAt_18 : decode cX8_parentAt 18 = .ok (.ifCond .eq 24, 3) := by decide +kernel
theorem dX8_parentAt_21 : decode cX8_parentAt 21 = .ok (.aload_n 0, 1) := by decide +kernel
theorem dX8_parentAt_22 : decode cX8_parentAt 22 = .ok (.iload 4, 2) := by decide +kernel
theorem dX8_parentAt_24 : decode cX8_parentAt 24 = .ok (.iload_n 1, 1) := by decide +kernel
theorem dX8_parentAt_25 : decode cX8_parentAt 25 = .ok (.invokevirtual 79, 3) := by decide +kernel
theorem dX8_parentAt_28 : decode cX8_parentAt 28 = .ok (.ifCond .eq 14, 3) := by decide +kernel
theorem dX8_parentAt_31 : decode cX8_parentAt 31 = .ok (.iload_n 3, 1) := by decide +kernel
theorem dX8_parentAt_32 : decode cX8_parentAt 32 = .ok (.iload_n 2, 1) := by decide +kernel
theorem dX8_parentAt_33 : decode cX8_parentAt 33 = .ok (.if_icmp .ne 6, 3) := by decide +kernel
theorem dX8_parentAt_36 : decode cX8_parentAt 36 = .ok (.iload 4, 2) := by decide +kernel
theorem dX8_parentAt_38 : decode cX8_parentAt 38 = .ok (.ireturn, 1) := by decide +kernel
theorem dX8_parentAt_39 : decode cX8_parentAt 39 = .ok (.iinc 3 1, 3) := by decide +kernel
theorem dX8_parentAt_42 : decode cX8_parentAt 42 = .ok (.iinc 4 1, 3) := by decide +kernel
theorem dX8_parentAt_45 : decode cX8_parentAt 45 = .ok (.goto (-40), 3) := by decide +kernel
theorem dX8_parentAt_48 : decode cX8_parentAt 48 = .ok (.ldc 83, 2) := by decide +kernel
theorem dX8_parentAt_50 : decode cX8_parentAt 50 = .ok (.ireturn, 1) := by decide +kernel
theorem dX8_datedItems_0 : decode cX8_datedItems 0 = .ok (.lconst 0, 1) := by decide +kernel
theorem dX8_datedItems_1 : decode cX8_datedItems 1 = .ok (.lstore_n 1, 1) := by decide +kernel
theorem dX8_datedItems_2 : decode cX8_datedItems 2 = .ok (.iconst 0, 1) := by decide +kernel
theorem dX8_datedItems_3 : decode cX8_datedItems 3 = .ok (.istore_n 3, 1) := by decide +kernel
theorem dX8_datedItems_4 : decode cX8_datedItems 4 = .ok (.iload_n 3, 1) := by decide +kernel
theorem dX8_datedItems_5 : decode cX8_datedItems 5 = .ok (.bipush 61, 2) := by decide +kernel
theorem dX8_datedItems_7 : decode cX8_datedItems 7 = .ok (.if_icmp .ge 38, 3) := by decide +kernel
theorem dX8_datedItems_10 : decode cX8_datedItems 10 = .ok (.lload_n 1, 1) := by decide +kernel
theorem dX8_datedItems_11 : decode cX8_datedItems 11 = .ok (.iload_n 3, 1) := by decide +kernel
theorem dX8_datedItems_12 : decode cX8_datedItems 12 = .ok (.aload_n 0, 1) := by decide +kernel
theorem dX8_datedItems_13 : decode cX8_datedItems 13 = .ok (.iload_n 3, 1) := by decide +kernel
theorem dX8_datedItems_14 : decode cX8_datedItems 14 = .ok (.invokevirtual 75, 3) := by decide +kernel
theorem dX8_datedItems_17 : decode cX8_datedItems 17 = .ok (.ifCond .eq 17, 3) := by decide +kernel
theorem dX8_datedItems_20 : decode cX8_datedItems 20 = .ok (.aload_n 0, 1) := by decide +kernel
theorem dX8_datedItems_21 : decode cX8_datedItems 21 = .ok (.getfield 28, 3) := by decide +kernel
theorem dX8_datedItems_24 : decode cX8_datedItems 24 = .ok (.iload_n 3, 1) := by decide +kernel
theorem dX8_datedItems_25 : decode cX8_datedItems 25 = .ok (.iaload, 1) := by decide +kernel
theorem dX8_datedItems_26 : decode cX8_datedItems 26 = .ok (.iconst (-1), 1) := by decide +kernel
theorem dX8_datedItems_27 : decode cX8_datedItems 27 = .ok (.if_icmp .eq 7, 3) := by decide +kernel
theorem dX8_datedItems_30 : decode cX8_datedItems 30 = .ok (.iconst 1, 1) := by decide +kernel
theorem dX8_datedItems_31 : decode cX8_datedItems 31 = .ok (.goto 4, 3) := by decide +kernel
theorem dX8_datedItems_34 : decode cX8_datedItems 34 = .ok (.iconst 0, 1) := by decide +kernel
theorem dX8_datedItems_35 : decode cX8_datedItems 35 = .ok (.invokestatic 61, 3) := by decide +kernel
theorem dX8_datedItems_38 : decode cX8_datedItems 38 = .ok (.lstore_n 1, 1) := by decide +kernel
theorem dX8_datedItems_39 : decode cX8_datedItems 39 = .ok (.iinc 3 1, 3) := by decide +kernel
theorem dX8_datedItems_42 : decode cX8_datedItems 42 = .ok (.goto (-38), 3) := by decide +kernel
theorem dX8_datedItems_45 : decode cX8_datedItems 45 = .ok (.lload_n 1, 1) := by decide +kernel
theorem dX8_datedItems_46 : decode cX8_datedItems 46 = .ok (.lreturn, 1) := by decide +kernel
theorem dX8_leafItems_0 : decode cX8_leafItems 0 = .ok (.lconst 0, 1) := by decide +kernel
theorem dX8_leafItems_1 : decode cX8_leafItems 1 = .ok (.lstore_n 1, 1) := by decide +kernel
theorem dX8_leafItems_2 : decode cX8_leafItems 2 = .ok (.iconst 0, 1) := by decide +kernel
theorem dX8_leafItems_3 : decode cX8_leafItems 3 = .ok (.istore_n 3, 1) := by decide +kernel
theorem dX8_leafItems_4 : decode cX8_leafItems 4 = .ok (.iload_n 3, 1) := by decide +kernel
theorem dX8_leafItems_5 : decode cX8_leafItems 5 = .ok (.bipush 61, 2) := by decide +kernel
theorem dX8_leafItems_7 : decode cX8_leafItems 7 = .ok (.if_icmp .ge 37, 3) := by decide +kernel
theorem dX8_leafItems_10 : decode cX8_leafItems 10 = .ok (.lload_n 1, 1) := by decide +kernel
theorem dX8_leafItems_11 : decode cX8_leafItems 11 = .ok (.iload_n 3, 1) := by decide +kernel
theorem dX8_leafItems_12 : decode cX8_leafItems 12 = .ok (.aload_n 0, 1) := by decide +kernel
theorem dX8_leafItems_13 : decode cX8_leafItems 13 = .ok (.iload_n 3, 1) := by decide +kernel
theorem dX8_leafItems_14 : decode cX8_leafItems 14 = .ok (.invokevirtual 75, 3) := by decide +kernel
theorem dX8_leafItems_17 : decode cX8_leafItems 17 = .ok (.ifCond .eq 16, 3) := by decide +kernel
theorem dX8_leafItems_20 : decode cX8_leafItems 20 = .ok (.aload_n 0, 1) := by decide +kernel
theorem dX8_leafItems_21 : decode cX8_leafItems 21 = .ok (.getfield 9, 3) := by decide +kernel
theorem dX8_leafItems_24 : decode cX8_leafItems 24 = .ok (.iload_n 3, 1) := by decide +kernel
theorem dX8_leafItems_25 : decode cX8_leafItems 25 = .ok (.iaload, 1) := by decide +kernel
theorem dX8_leafItems_26 : decode cX8_leafItems 26 = .ok (.ifCond .ne 7, 3) := by decide +kernel
theorem dX8_leafItems_29 : decode cX8_leafItems 29 = .ok (.iconst 1, 1) := by decide +kernel
theorem dX8_leafItems_30 : decode cX8_leafItems 30 = .ok (.goto 4, 3) := by decide +kernel
theorem dX8_leafItems_33 : decode cX8_leafItems 33 = .ok (.iconst 0, 1) := by decide +kernel
theorem dX8_leafItems_34 : decode cX8_leafItems 34 = .ok (.invokestatic 61, 3) := by decide +kernel
theorem dX8_leafItems_37 : decode cX8_leafItems 37 = .ok (.lstore_n 1, 1) := by decide +kernel
theorem dX8_leafItems_38 : decode cX8_leafItems 38 = .ok (.iinc 3 1, 3) := by decide +kernel
theorem dX8_leafItems_41 : decode cX8_leafItems 41 = .ok (.goto (-37), 3) := by decide +kernel
theorem dX8_leafItems_44 : decode cX8_leafItems 44 = .ok (.lload_n 1, 1) := by decide +kernel
theorem dX8_leafItems_45 : decode cX8_leafItems 45 = .ok (.lreturn, 1) := by decide +kernel
theorem dX8_sumOf_0 : decode cX8_sumOf 0 = .ok (.iconst 0, 1) := by decide +kernel
theorem dX8_sumOf_1 : decode cX8_sumOf 1 = .ok (.istore_n 3, 1) := by decide +kernel
theorem dX8_sumOf_2 : decode cX8_sumOf 2 = .ok (.iconst 0, 1) := by decide +kernel
theorem dX8_sumOf_3 : decode cX8_sumOf 3 = .ok (.istore 4, 2) := by decide +kernel
theorem dX8_sumOf_5 : decode cX8_sumOf 5 = .ok (.iload 4, 2) := by decide +kernel
theorem dX8_sumOf_7 : decode cX8_sumOf 7 = .ok (.bipush 61, 2) := by decide +kernel
theorem dX8_sumOf_9 : decode cX8_sumOf 9 = .ok (.if_icmp .ge 28, 3) := by decide +kernel
theorem dX8_sumOf_12 : decode cX8_sumOf 12 = .ok (.lload_n 1, 1) := by decide +kernel
theorem dX8_sumOf_13 : decode cX8_sumOf 13 = .ok (.iload 4, 2) := by decide +kernel
theorem dX8_sumOf_15 : decode cX8_sumOf 15 = .ok (.invokestatic 51, 3) := by decide +kernel
theorem dX8_sumOf_18 : decode cX8_sumOf 18 = .ok (.ifCond .eq 13, 3) := by decide +kernel
theorem dX8_sumOf_21 : decode cX8_sumOf 21 = .ok (.iload_n 3, 1) := by decide +kernel
theorem dX8_sumOf_22 : decode cX8_sumOf 22 = .ok (.aload_n 0, 1) := by decide +kernel
theorem dX8_sumOf_23 : decode cX8_sumOf 23 = .ok (.getfield 25, 3) := by decide +kernel
theorem dX8_sumOf_26 : decode cX8_sumOf 26 = .ok (.iload 4, 2) := by decide +kernel
theorem dX8_sumOf_28 : decode cX8_sumOf 28 = .ok (.iaload, 1) := by decide +kernel
theorem dX8_sumOf_29 : decode cX8_sumOf 29 = .ok (.iadd, 1) := by decide +kernel
theorem dX8_sumOf_30 : decode cX8_sumOf 30 = .ok (.istore_n 3, 1) := by decide +kernel
theorem dX8_sumOf_31 : decode cX8_sumOf 31 = .ok (.iinc 4 1, 3) := by decide +kernel
theorem dX8_sumOf_34 : decode cX8_sumOf 34 = .ok (.goto (-29), 3) := by decide +kernel
theorem dX8_sumOf_37 : decode cX8_sumOf 37 = .ok (.iload_n 3, 1) := by decide +kernel
theorem dX8_sumOf_38 : decode cX8_sumOf 38 = .ok (.ireturn, 1) := by decide +kernel
theorem dX8_earliestDay_0 : decode cX8_earliestDay 0 = .ok (.iconst (-1), 1) := by decide +kernel
theorem dX8_earliestDay_1 : decode cX8_earliestDay 1 = .ok (.istore_n 3, 1) := by decide +kernel
theorem dX8_earliestDay_2 : decode cX8_earliestDay 2 = .ok (.iconst 0, 1) := by decide +kernel
theorem dX8_earliestDay_3 : decode cX8_earliestDay 3 = .ok (.istore 4, 2) := by decide +kernel
theorem dX8_earliestDay_5 : decode cX8_earliestDay 5 = .ok (.iload 4, 2) := by decide +kernel
theorem dX8_earliestDay_7 : decode cX8_earliestDay 7 = .ok (.bipush 61, 2) := by decide +kernel
theorem dX8_earliestDay_9 : decode cX8_earliestDay 9 = .ok (.if_icmp .ge 47, 3) := by decide +kernel
theorem dX8_earliestDay_12 : decode cX8_earliestDay 12 = .ok (.aload_n 0, 1) := by decide +kernel
theorem dX8_earliestDay_13 : decode cX8_earliestDay 13 = .ok (.getfield 28, 3) := by decide +kernel
theorem dX8_earliestDay_16 : decode cX8_earliestDay 16 = .ok (.iload 4, 2) := by decide +kernel
theorem dX8_earliestDay_18 : decode cX8_earliestDay 18 = .ok (.iaload, 1) := by decide +kernel
theorem dX8_earliestDay_19 : decode cX8_earliestDay 19 = .ok (.istore 5, 2) := by decide +kernel
theorem dX8_earliestDay_21 : decode cX8_earliestDay 21 = .ok (.lload_n 1, 1) := by decide +kernel
theorem dX8_earliestDay_22 : decode cX8_earliestDay 22 = .ok (.iload 4, 2) := by decide +kernel
theorem dX8_earliestDay_24 : decode cX8_earliestDay 24 = .ok (.invokestatic 51, 3) := by decide +kernel
theorem dX8_earliestDay_27 : decode cX8_earliestDay 27 = .ok (.ifCond .eq 23, 3) := by decide +kernel
theorem dX8_earliestDay_30 : decode cX8_earliestDay 30 = .ok (.iload 5, 2) := by decide +kernel
theorem dX8_earliestDay_32 : decode cX8_earliestDay 32 = .ok (.iconst (-1), 1) := by decide +kernel
theorem dX8_earliestDay_33 : decode cX8_earliestDay 33 = .ok (.if_icmp .eq 17, 3) := by decide +kernel
theorem dX8_earliestDay_36 : decode cX8_earliestDay 36 = .ok (.iload_n 3, 1) := by decide +kernel
theorem dX8_earliestDay_37 : decode cX8_earliestDay 37 = .ok (.iconst (-1), 1) := by decide +kernel
theorem dX8_earliestDay_38 : decode cX8_earliestDay 38 = .ok (.if_icmp .eq 9, 3) := by decide +kernel
theorem dX8_earliestDay_41 : decode cX8_earliestDay 41 = .ok (.iload 5, 2) := by decide +kernel
theorem dX8_earliestDay_43 : decode cX8_earliestDay 43 = .ok (.iload_n 3, 1) := by decide +kernel
theorem dX8_earliestDay_44 : decode cX8_earliestDay 44 = .ok (.if_icmp .ge 6, 3) := by decide +kernel
theorem dX8_earliestDay_47 : decode cX8_earliestDay 47 = .ok (.iload 5, 2) := by decide +kernel
theorem dX8_earliestDay_49 : decode cX8_earliestDay 49 = .ok (.istore_n 3, 1) := by decide +kernel
theorem dX8_earliestDay_50 : decode cX8_earliestDay 50 = .ok (.iinc 4 1, 3) := by decide +kernel
theorem dX8_earliestDay_53 : decode cX8_earliestDay 53 = .ok (.goto (-48), 3) := by decide +kernel
theorem dX8_earliestDay_56 : decode cX8_earliestDay 56 = .ok (.iload_n 3, 1) := by decide +kernel
theorem dX8_earliestDay_57 : decode cX8_earliestDay 57 = .ok (.ireturn, 1) := by decide +kernel
theorem dX8_latestDay_0 : decode cX8_latestDay 0 = .ok (.iconst (-1), 1) := by decide +kernel
theorem dX8_latestDay_1 : decode cX8_latestDay 1 = .ok (.istore_n 3, 1) := by decide +kernel
theorem dX8_latestDay_2 : decode cX8_latestDay 2 = .ok (.iconst 0, 1) := by decide +kernel
theorem dX8_latestDay_3 : decode cX8_latestDay 3 = .ok (.istore 4, 2) := by decide +kernel
theorem dX8_latestDay_5 : decode cX8_latestDay 5 = .ok (.iload 4, 2) := by decide +kernel
theorem dX8_latestDay_7 : decode cX8_latestDay 7 = .ok (.bipush 61, 2) := by decide +kernel
theorem dX8_latestDay_9 : decode cX8_latestDay 9 = .ok (.if_icmp .ge 30, 3) := by decide +kernel
theorem dX8_latestDay_12 : decode cX8_latestDay 12 = .ok (.lload_n 1, 1) := by decide +kernel
theorem dX8_latestDay_13 : decode cX8_latestDay 13 = .ok (.iload 4, 2) := by decide +kernel
theorem dX8_latestDay_15 : decode cX8_latestDay 15 = .ok (.invokestatic 51, 3) := by decide +kernel
theorem dX8_latestDay_18 : decode cX8_latestDay 18 = .ok (.ifCond .eq 15, 3) := by decide +kernel
theorem dX8_latestDay_21 : decode cX8_latestDay 21 = .ok (.iload_n 3, 1) := by decide +kernel
theorem dX8_latestDay_22 : decode cX8_latestDay 22 = .ok (.aload_n 0, 1) := by decide +kernel
theorem dX8_latestDay_23 : decode cX8_latestDay 23 = .ok (.getfield 28, 3) := by decide +kernel
theorem dX8_latestDay_26 : decode cX8_latestDay 26 = .ok (.iload 4, 2) := by decide +kernel
theorem dX8_latestDay_28 : decode cX8_latestDay 28 = .ok (.iaload, 1) := by decide +kernel
theorem dX8_latestDay_29 : decode cX8_latestDay 29 = .ok (.invokestatic 84, 3) := by decide +kernel
theorem dX8_latestDay_32 : decode cX8_latestDay 32 = .ok (.istore_n 3, 1) := by decide +kernel
theorem dX8_latestDay_33 : decode cX8_latestDay 33 = .ok (.iinc 4 1, 3) := by decide +kernel
theorem dX8_latestDay_36 : decode cX8_latestDay 36 = .ok (.goto (-31), 3) := by decide +kernel
theorem dX8_latestDay_39 : decode cX8_latestDay 39 = .ok (.iload_n 3, 1) := by decide +kernel
theorem dX8_latestDay_40 : decode cX8_latestDay 40 = .ok (.ireturn, 1) := by decide +kernel
theorem dX8_nameContains_0 : decode cX8_nameContains 0 = .ok (.iconst 0, 1) := by decide +kernel
theorem dX8_nameContains_1 : decode cX8_nameContains 1 = .ok (.istore 5, 2) := by decide +kernel
theorem dX8_nameContains_3 : decode cX8_nameContains 3 = .ok (.iload 5, 2) := by decide +kernel
theorem dX8_nameContains_5 : decode cX8_nameContains 5 = .ok (.iload 4, 2) := by decide +kernel
theorem dX8_nameContains_7 : decode cX8_nameContains 7 = .ok (.iadd, 1) := by decide +kernel
theorem dX8_nameContains_8 : decode cX8_nameContains 8 = .ok (.aload_n 0, 1) := by decide +kernel
theorem dX8_nameContains_9 : decode cX8_nameContains 9 = .ok (.getfield 18, 3) := by decide +kernel
theorem dX8_nameContains_12 : decode cX8_nameContains 12 = .ok (.iload_n 1, 1) := by decide +kernel
theorem dX8_nameContains_13 : decode cX8_nameContains 13 = .ok (.iaload, 1) := by decide +kernel
theorem dX8_nameContains_14 : decode cX8_nameContains 14 = .ok (.if_icmp .gt 53, 3) := by decide +kernel
theorem dX8_nameContains_17 : decode cX8_nameContains 17 = .ok (.iconst 0, 1) := by decide +kernel
theorem dX8_nameContains_18 : decode cX8_nameContains 18 = .ok (.istore 6, 2) := by decide +kernel
theorem dX8_nameContains_20 : decode cX8_nameContains 20 = .ok (.iload 6, 2) := by decide +kernel
theorem dX8_nameContains_22 : decode cX8_nameContains 22 = .ok (.iload 4, 2) := by decide +kernel
theorem dX8_nameContains_24 : decode cX8_nameContains 24 = .ok (.if_icmp .ge 28, 3) := by decide +kernel
theorem dX8_nameContains_27 : decode cX8_nameContains 27 = .ok (.aload_n 0, 1) := by decide +kernel
theorem dX8_nameContains_28 : decode cX8_nameContains 28 = .ok (.iload_n 1, 1) := by decide +kernel
theorem dX8_nameContains_29 : decode cX8_nameContains 29 = .ok (.iload 5, 2) := by decide +kernel
theorem dX8_nameContains_31 : decode cX8_nameContains 31 = .ok (.iload 6, 2) := by decide +kernel
theorem dX8_nameContains_33 : decode cX8_nameContains 33 = .ok (.iadd, 1) := by decide +kernel
theorem dX8_nameContains_34 : decode cX8_nameContains 34 = .ok (.invokevirtual 89, 3) := by decide +kernel
theorem dX8_nameContains_37 : decode cX8_nameContains 37 = .ok (.aload_n 2, 1) := by decide +kernel
theorem dX8_nameContains_38 : decode cX8_nameContains 38 = .ok (.iload_n 3, 1) := by decide +kernel
theorem dX8_nameContains_39 : decode cX8_nameContains 39 = .ok (.iload 6, 2) := by decide +kernel
theorem dX8_nameContains_41 : decode cX8_nameContains 41 = .ok (.iadd, 1) := by decide +kernel
theorem dX8_nameContains_42 : decode cX8_nameContains 42 = .ok (.caload, 1) := by decide +kernel
theorem dX8_nameContains_43 : decode cX8_nameContains 43 = .ok (.if_icmp .ne 9, 3) := by decide +kernel
theorem dX8_nameContains_46 : decode cX8_nameContains 46 = .ok (.iinc 6 1, 3) := by decide +kernel
theorem dX8_nameContains_49 : decode cX8_nameContains 49 = .ok (.goto (-29), 3) := by decide +kernel
theorem dX8_nameContains_52 : decode cX8_nameContains 52 = .ok (.iload 6, 2) := by decide +kernel
theorem dX8_nameContains_54 : decode cX8_nameContains 54 = .ok (.iload 4, 2) := by decide +kernel
theorem dX8_nameContains_56 : decode cX8_nameContains 56 = .ok (.if_icmp .ne 5, 3) := by decide +kernel
theorem dX8_nameContains_59 : decode cX8_nameContains 59 = .ok (.iconst 1, 1) := by decide +kernel
theorem dX8_nameContains_60 : decode cX8_nameContains 60 = .ok (.ireturn, 1) := by decide +kernel
theorem dX8_nameContains_61 : decode cX8_nameContains 61 = .ok (.iinc 5 1, 3) := by decide +kernel
theorem dX8_nameContains_64 : decode cX8_nameContains 64 = .ok (.goto (-61), 3) := by decide +kernel
theorem dX8_nameContains_67 : decode cX8_nameContains 67 = .ok (.iconst 0, 1) := by decide +kernel
theorem dX8_nameContains_68 : decode cX8_nameContains 68 = .ok (.ireturn, 1) := by decide +kernel
theorem dX8_hasSoundChildren_0 : decode cX8_hasSoundChildren 0 = .ok (.iconst 0, 1) := by decide +kernel
theorem dX8_hasSoundChildren_1 : decode cX8_hasSoundChildren 1 = .ok (.istore_n 1, 1) := by decide +kernel
theorem dX8_hasSoundChildren_2 : decode cX8_hasSoundChildren 2 = .ok (.iload_n 1, 1) := by decide +kernel
theorem dX8_hasSoundChildren_3 : decode cX8_hasSoundChildren 3 = .ok (.bipush 61, 2) := by decide +kernel
theorem dX8_hasSoundChildren_5 : decode cX8_hasSoundChildren 5 = .ok (.if_icmp .ge 76, 3) := by decide +kernel
theorem dX8_hasSoundChildren_8 : decode cX8_hasSoundChildren 8 = .ok (.lconst 1, 1) := by decide +kernel
theorem dX8_hasSoundChildren_9 : decode cX8_hasSoundChildren 9 = .ok (.lstore_n 2, 1) := by decide +kernel
theorem dX8_hasSoundChildren_10 : decode cX8_hasSoundChildren 10 = .ok (.iconst 0, 1) := by decide +kernel
theorem dX8_hasSoundChildren_11 : decode cX8_hasSoundChildren 11 = .ok (.istore 4, 2) := by decide +kernel
theorem dX8_hasSoundChildren_13 : decode cX8_hasSoundChildren 13 = .ok (.aload_n 0, 1) := by decide +kernel
theorem dX8_hasSoundChildren_14 : decode cX8_hasSoundChildren 14 = .ok (.iload_n 1, 1) := by decide +kernel
theorem dX8_hasSoundChildren_15 : decode cX8_hasSoundChildren 15 = .ok (.invokevirtual 75, 3) := by decide +kernel
theorem dX8_hasSoundChildren_18 : decode cX8_hasSoundChildren 18 = .ok (.ifCond .eq 57, 3) := by decide +kernel
theorem dX8_hasSoundChildren_21 : decode cX8_hasSoundChildren 21 = .ok (.iload 4, 2) := by decide +kernel
theorem dX8_hasSoundChildren_23 : decode cX8_hasSoundChildren 23 = .ok (.aload_n 0, 1) := by decide +kernel
theorem dX8_hasSoundChildren_24 : decode cX8_hasSoundChildren 24 = .ok (.getfield 9, 3) := by decide +kernel
theorem dX8_hasSoundChildren_27 : decode cX8_hasSoundChildren 27 = .ok (.iload_n 1, 1) := by decide +kernel
theorem dX8_hasSoundChildren_28 : decode cX8_hasSoundChildren 28 = .ok (.iaload, 1) := by decide +kernel
theorem dX8_hasSoundChildren_29 : decode cX8_hasSoundChildren 29 = .ok (.if_icmp .ge 46, 3) := by decide +kernel
theorem dX8_hasSoundChildren_32 : decode cX8_hasSoundChildren 32 = .ok (.aload_n 0, 1) := by decide +kernel
theorem dX8_hasSoundChildren_33 : decode cX8_hasSoundChildren 33 = .ok (.iload_n 1, 1) := by decide +kernel
theorem dX8_hasSoundChildren_34 : decode cX8_hasSoundChildren 34 = .ok (.iload 4, 2) := by decide +kernel
theorem dX8_hasSoundChildren_36 : decode cX8_hasSoundChildren 36 = .ok (.invokevirtual 71, 3) := by decide +kernel
theorem dX8_hasSoundChildren_39 : decode cX8_hasSoundChildren 39 = .ok (.istore 5, 2) := by decide +kernel
theorem dX8_hasSoundChildren_41 : decode cX8_hasSoundChildren 41 = .ok (.aload_n 0, 1) := by decide +kernel
theorem dX8_hasSoundChildren_42 : decode cX8_hasSoundChildren 42 = .ok (.iload 5, 2) := by decide +kernel
theorem dX8_hasSoundChildren_44 : decode cX8_hasSoundChildren 44 = .ok (.invokevirtual 75, 3) := by decide +kernel
theorem dX8_hasSoundChildren_47 : decode cX8_hasSoundChildren 47 = .ok (.ifCond .eq 12, 3) := by decide +kernel
theorem dX8_hasSoundChildren_50 : decode cX8_hasSoundChildren 50 = .ok (.lload_n 2, 1) := by decide +kernel
theorem dX8_hasSoundChildren_51 : decode cX8_hasSoundChildren 51 = .ok (.iload 5, 2) := by decide +kernel
theorem dX8_hasSoundChildren_53 : decode cX8_hasSoundChildren 53 = .ok (.invokestatic 51, 3) := by decide +kernel
theorem dX8_hasSoundChildren_56 : decode cX8_hasSoundChildren 56 = .ok (.ifCond .eq 5, 3) := by decide +kernel
theorem dX8_hasSoundChildren_59 : decode cX8_hasSoundChildren 59 = .ok (.iconst 0, 1) := by decide +kernel
theorem dX8_hasSoundChildren_60 : decode cX8_hasSoundChildren 60 = .ok (.ireturn, 1) := by decide +kernel
theorem dX8_hasSoundChildren_61 : decode cX8_hasSoundChildren 61 = .ok (.lload_n 2, 1) := by decide +kernel
theorem dX8_hasSoundChildren_62 : decode cX8_hasSoundChildren 62 = .ok (.iload 5, 2) := by decide +kernel
theorem dX8_hasSoundChildren_64 : decode cX8_hasSoundChildren 64 = .ok (.iconst 1, 1) := by decide +kernel
theorem dX8_hasSoundChildren_65 : decode cX8_hasSoundChildren 65 = .ok (.invokestatic 61, 3) := by decide +kernel
theorem dX8_hasSoundChildren_68 : decode cX8_hasSoundChildren 68 = .ok (.lstore_n 2, 1) := by decide +kernel
theorem dX8_hasSoundChildren_69 : decode cX8_hasSoundChildren 69 = .ok (.iinc 4 1, 3) := by decide +kernel
theorem dX8_hasSoundChildren_72 : decode cX8_hasSoundChildren 72 = .ok (.goto (-59), 3) := by decide +kernel
theorem dX8_hasSoundChildren_75 : decode cX8_hasSoundChildren 75 = .ok (.iinc 1 1, 3) := by decide +kernel
theorem dX8_hasSoundChildren_78 : decode cX8_hasSoundChildren 78 = .ok (.goto (-76), 3) := by decide +kernel
theorem dX8_hasSoundChildren_81 : decode cX8_hasSoundChildren 81 = .ok (.iconst 1, 1) := by decide +kernel
theorem dX8_hasSoundChildren_82 : decode cX8_hasSoundChildren 82 = .ok (.ireturn, 1) := by decide +kernel
theorem dX8_hasParentsAs_0 : decode cX8_hasParentsAs 0 = .ok (.iconst 0, 1) := by decide +kernel
theorem dX8_hasParentsAs_1 : decode cX8_hasParentsAs 1 = .ok (.istore_n 2, 1) := by decide +kernel
theorem dX8_hasParentsAs_2 : decode cX8_hasParentsAs 2 = .ok (.iload_n 2, 1) := by decide +kernel
theorem dX8_hasParentsAs_3 : decode cX8_hasParentsAs 3 = .ok (.bipush 61, 2) := by decide +kernel
theorem dX8_hasParentsAs_5 : decode cX8_hasParentsAs 5 = .ok (.if_icmp .ge 32, 3) := by decide +kernel
theorem dX8_hasParentsAs_8 : decode cX8_hasParentsAs 8 = .ok (.aload_n 0, 1) := by decide +kernel
theorem dX8_hasParentsAs_9 : decode cX8_hasParentsAs 9 = .ok (.iload_n 2, 1) := by decide +kernel
theorem dX8_hasParentsAs_10 : decode cX8_hasParentsAs 10 = .ok (.invokevirtual 75, 3) := by decide +kernel
theorem dX8_hasParentsAs_13 : decode cX8_hasParentsAs 13 = .ok (.ifCond .eq 18, 3) := by decide +kernel
theorem dX8_hasParentsAs_16 : decode cX8_hasParentsAs 16 = .ok (.aload_n 0, 1) := by decide +kernel
theorem dX8_hasParentsAs_17 : decode cX8_hasParentsAs 17 = .ok (.iload_n 2, 1) := by decide +kernel
theorem dX8_hasParentsAs_18 : decode cX8_hasParentsAs 18 = .ok (.invokevirtual 93, 3) := by decide +kernel
theorem dX8_hasParentsAs_21 : decode cX8_hasParentsAs 21 = .ok (.aload_n 1, 1) := by decide +kernel
theorem dX8_hasParentsAs_22 : decode cX8_hasParentsAs 22 = .ok (.iload_n 2, 1) := by decide +kernel
theorem dX8_hasParentsAs_23 : decode cX8_hasParentsAs 23 = .ok (.invokevirtual 97, 3) := by decide +kernel
theorem dX8_hasParentsAs_26 : decode cX8_hasParentsAs 26 = .ok (.if_icmp .eq 5, 3) := by decide +kernel
theorem dX8_hasParentsAs_29 : decode cX8_hasParentsAs 29 = .ok (.iconst 0, 1) := by decide +kernel
theorem dX8_hasParentsAs_30 : decode cX8_hasParentsAs 30 = .ok (.ireturn, 1) := by decide +kernel
theorem dX8_hasParentsAs_31 : decode cX8_hasParentsAs 31 = .ok (.iinc 2 1, 3) := by decide +kernel
theorem dX8_hasParentsAs_34 : decode cX8_hasParentsAs 34 = .ok (.goto (-32), 3) := by decide +kernel
theorem dX8_hasParentsAs_37 : decode cX8_hasParentsAs 37 = .ok (.iconst 1, 1) := by decide +kernel
theorem dX8_hasParentsAs_38 : decode cX8_hasParentsAs 38 = .ok (.ireturn, 1) := by decide +kernel
theorem dX9_init_0 : decode cX9_init 0 = .ok (.aload_n 0, 1) := by decide +kernel
theorem dX9_init_1 : decode cX9_init 1 = .ok (.invokespecial 3, 3) := by decide +kernel
theorem dX9_init_4 : decode cX9_init 4 = .ok (.aload_n 0, 1) := by decide +kernel
theorem dX9_init_5 : decode cX9_init 5 = .ok (.new 9, 3) := by decide +kernel
theorem dX9_init_8 : decode cX9_init 8 = .ok (.dup, 1) := by decide +kernel
theorem dX9_init_9 : decode cX9_init 9 = .ok (.invokespecial 11, 3) := by decide +kernel
theorem dX9_init_12 : decode cX9_init 12 = .ok (.putfield 12, 3) := by decide +kernel
theorem dX9_init_15 : decode cX9_init 15 = .ok (.aload_n 0, 1) := by decide +kernel
theorem dX9_init_16 : decode cX9_init 16 = .ok (.new 9, 3) := by decide +kernel
theorem dX9_init_19 : decode cX9_init 19 = .ok (.dup, 1) := by decide +kernel
theorem dX9_init_20 : decode cX9_init 20 = .ok (.invokespecial 11, 3) := by decide +kernel
theorem dX9_init_23 : decode cX9_init 23 = .ok (.putfield 16, 3) := by decide +kernel
theorem dX9_init_26 : decode cX9_init 26 = .ok (.aload_n 0, 1) := by decide +kernel
theorem dX9_init_27 : decode cX9_init 27 = .ok (.aconst_null, 1) := by decide +kernel
theorem dX9_init_28 : decode cX9_init 28 = .ok (.putfield 19, 3) := by decide +kernel
theorem dX9_init_31 : decode cX9_init 31 = .ok (.aload_n 0, 1) := by decide +kernel
theorem dX9_init_32 : decode cX9_init 32 = .ok (.new 22, 3) := by decide +kernel
theorem dX9_init_35 : decode cX9_init 35 = .ok (.dup, 1) := by decide +kernel
theorem dX9_init_36 : decode cX9_init 36 = .ok (.invokespecial 24, 3) := by decide +kernel
theorem dX9_init_39 : decode cX9_init 39 = .ok (.putfield 25, 3) := by decide +kernel
theorem dX9_init_42 : decode cX9_init 42 = .ok (.aload_n 0, 1) := by decide +kernel
theorem dX9_init_43 : decode cX9_init 43 = .ok (.new 22, 3) := by decide +kernel
theorem dX9_init_46 : decode cX9_init 46 = .ok (.dup, 1) := by decide +kernel
theorem dX9_init_47 : decode cX9_init 47 = .ok (.invokespecial 24, 3) := by decide +kernel
theorem dX9_init_50 : decode cX9_init 50 = .ok (.putfield 29, 3) := by decide +kernel
theorem dX9_init_53 : decode cX9_init 53 = .ok (.aload_n 0, 1) := by decide +kernel
theorem dX9_init_54 : decode cX9_init 54 = .ok (.new 32, 3) := by decide +kernel
theorem dX9_init_57 : decode cX9_init 57 = .ok (.dup, 1) := by decide +kernel
theorem dX9_init_58 : decode cX9_init 58 = .ok (.invokespecial 34, 3) := by decide +kernel
theorem dX9_init_61 : decode cX9_init 61 = .ok (.putfield 35, 3) := by decide +kernel
theorem dX9_init_64 : decode cX9_init 64 = .ok (.aload_n 0, 1) := by decide +kernel
theorem dX9_init_65 : decode cX9_init 65 = .ok (.new 39, 3) := by decide +kernel
theorem dX9_init_68 : decode cX9_init 68 = .ok (.dup, 1) := by decide +kernel
theorem dX9_init_69 : decode cX9_init 69 = .ok (.invokespecial 41, 3) := by decide +kernel
theorem dX9_init_72 : decode cX9_init 72 = .ok (.putfield 42, 3) := by decide +kernel
theorem dX9_init_75 : decode cX9_init 75 = .ok (.aload_n 0, 1) := by decide +kernel
theorem dX9_init_76 : decode cX9_init 76 = .ok (.new 46, 3) := by decide +kernel
theorem dX9_init_79 : decode cX9_init 79 = .ok (.dup, 1) := by decide +kernel
theorem dX9_init_80 : decode cX9_init 80 = .ok (.invokespecial 48, 3) := by decide +kernel
theorem dX9_init_83 : decode cX9_init 83 = .ok (.putfield 49, 3) := by decide +kernel
theorem dX9_init_86 : decode cX9_init 86 = .ok (.aload_n 0, 1) := by decide +kernel
theorem dX9_init_87 : decode cX9_init 87 = .ok (.new 46, 3) := by decide +kernel
theorem dX9_init_90 : decode cX9_init 90 = .ok (.dup, 1) := by decide +kernel
theorem dX9_init_91 : decode cX9_init 91 = .ok (.invokespecial 48, 3) := by decide +kernel
theorem dX9_init_94 : decode cX9_init 94 = .ok (.putfield 53, 3) := by decide +kernel
theorem dX9_init_97 : decode cX9_init 97 = .ok (.aload_n 0, 1) := by decide +kernel
theorem dX9_init_98 : decode cX9_init 98 = .ok (.new 56, 3) := by decide +kernel
theorem dX9_init_101 : decode cX9_init 101 = .ok (.dup, 1) := by decide +kernel
theorem dX9_init_102 : decode cX9_init 102 = .ok (.invokespecial 58, 3) := by decide +kernel
theorem dX9_init_105 : decode cX9_init 105 = .ok (.putfield 59, 3) := by decide +kernel
theorem dX9_init_108 : decode cX9_init 108 = .ok (.aload_n 0, 1) := by decide +kernel
theorem dX9_init_109 : decode cX9_init 109 = .ok (.new 63, 3) := by decide +kernel
theorem dX9_init_112 : decode cX9_init 112 = .ok (.dup, 1) := by decide +kernel
theorem dX9_init_113 : decode cX9_init 113 = .ok (.invokespecial 65, 3) := by decide +kernel
theorem dX9_init_116 : decode cX9_init 116 = .ok (.putfield 66, 3) := by decide +kernel
theorem dX9_init_119 : decode cX9_init 119 = .ok (.aload_n 0, 1) := by decide +kernel
theorem dX9_init_120 : decode cX9_init 120 = .ok (.new 70, 3) := by decide +kernel
theorem dX9_init_123 : decode cX9_init 123 = .ok (.dup, 1) := by decide +kernel
theorem dX9_init_124 : decode cX9_init 124 = .ok (.invokespecial 72, 3) := by decide +kernel
theorem dX9_init_127 : decode cX9_init 127 = .ok (.putfield 73, 3) := by decide +kernel
theorem dX9_init_130 : decode cX9_init 130 = .ok (.aload_n 0, 1) := by decide +kernel
theorem dX9_init_131 : decode cX9_init 131 = .ok (.new 77, 3) := by decide +kernel
theorem dX9_init_134 : decode cX9_init 134 = .ok (.dup, 1) := by decide +kernel
theorem dX9_init_135 : decode cX9_init 135 = .ok (.invokespecial 79, 3) := by decide +kernel
theorem dX9_init_138 : decode cX9_init 138 = .ok (.putfield 80, 3) := by decide +kernel
theorem dX9_init_141 : decode cX9_init 141 = .ok (.aload_n 0, 1) := by decide +kernel
theorem dX9_init_142 : decode cX9_init 142 = .ok (.bipush 10, 2) := by decide +kernel
theorem dX9_init_144 : decode cX9_init 144 = .ok (.newarray .char, 2) := by decide +kernel
theorem dX9_init_146 : decode cX9_init 146 = .ok (.putfield 84, 3) := by decide +kernel
theorem dX9_init_149 : decode cX9_init 149 = .ok (.aload_n 0, 1) := by decide +kernel
theorem dX9_init_150 : decode cX9_init 150 = .ok (.bipush 12, 2) := by decide +kernel
theorem dX9_init_152 : decode cX9_init 152 = .ok (.newarray .int, 2) := by decide +kernel
theorem dX9_init_154 : decode cX9_init 154 = .ok (.putfield 88, 3) := by decide +kernel
theorem dX9_init_157 : decode cX9_init 157 = .ok (.aload_n 0, 1) := by decide +kernel
theorem dX9_init_158 : decode cX9_init 158 = .ok (.ldc 92, 2) := by decide +kernel
theorem dX9_init_160 : decode cX9_init 160 = .ok (.putfield 93, 3) := by decide +kernel
theorem dX9_init_163 : decode cX9_init 163 = .ok (.return_, 1) := by decide +kernel
theorem dX9_clear_0 : decode cX9_clear 0 = .ok (.aload_n 0, 1) := by decide +kernel
theorem dX9_clear_1 : decode cX9_clear 1 = .ok (.getfield 12, 3) := by decide +kernel
theorem dX9_clear_4 : decode cX9_clear 4 = .ok (.invokevirtual 97, 3) := by decide +kernel
theorem dX9_clear_7 : decode cX9_clear 7 = .ok (.istore_n 1, 1) := by decide +kernel
theorem dX9_clear_8 : decode cX9_clear 8 = .ok (.aload_n 0, 1) := by decide +kernel
theorem dX9_clear_9 : decode cX9_clear 9 = .ok (.getfield 12, 3) := by decide +kernel
theorem dX9_clear_12 : decode cX9_clear 12 = .ok (.invokevirtual 101, 3) := by decide +kernel
theorem dX9_clear_15 : decode cX9_clear 15 = .ok (.aload_n 0, 1) := by decide +kernel
theorem dX9_clear_16 : decode cX9_clear 16 = .ok (.getfield 35, 3) := by decide +kernel
theorem dX9_clear_19 : decode cX9_clear 19 = .ok (.invokevirtual 104, 3) := by decide +kernel
theorem dX9_clear_22 : decode cX9_clear 22 = .ok (.aload_n 0, 1) := by decide +kernel
theorem dX9_clear_23 : decode cX9_clear 23 = .ok (.getfield 42, 3) := by decide +kernel
theorem dX9_clear_26 : decode cX9_clear 26 = .ok (.invokevirtual 107, 3) := by decide +kernel
theorem dX9_clear_29 : decode cX9_clear 29 = .ok (.aload_n 0, 1) := by decide +kernel
theorem dX9_clear_30 : decode cX9_clear 30 = .ok (.getfield 49, 3) := by decide +kernel
theorem dX9_clear_33 : decode cX9_clear 33 = .ok (.invokevirtual 110, 3) := by decide +kernel
theorem dX9_clear_36 : decode cX9_clear 36 = .ok (.aload_n 0, 1) := by decide +kernel
theorem dX9_clear_37 : decode cX9_clear 37 = .ok (.invokevirtual 111, 3) := by decide +kernel
theorem dX9_clear_40 : decode cX9_clear 40 = .ok (.iload_n 1, 1) := by decide +kernel
theorem dX9_clear_41 : decode cX9_clear 41 = .ok (.ireturn, 1) := by decide +kernel
theorem dX9_append_0 : decode cX9_append 0 = .ok (.iconst 0, 1) := by decide +kernel
theorem dX9_append_1 : decode cX9_append 1 = .ok (.istore_n 2, 1) := by decide +kernel
theorem dX9_append_2 : decode cX9_append 2 = .ok (.bipush 24, 2) := by decide +kernel
theorem dX9_append_4 : decode cX9_append 4 = .ok (.istore_n 3, 1) := by decide +kernel
theorem dX9_append_5 : decode cX9_append 5 = .ok (.iload_n 3, 1) := by decide +kernel
theorem dX9_append_6 : decode cX9_append 6 = .ok (.ifCond .lt 50, 3) := by decide +kernel
theorem dX9_append_9 : decode cX9_append 9 = .ok (.iload_n 1, 1) := by decide +kernel
theorem dX9_append_10 : decode cX9_append 10 = .ok (.iload_n 3, 1) := by decide +kernel
theorem dX9_append_11 : decode cX9_append 11 = .ok (.iushr, 1) := by decide +kernel
theorem dX9_append_12 : decode cX9_append 12 = .ok (.sipush 255, 3) := by decide +kernel
theorem dX9_append_15 : decode cX9_append 15 = .ok (.iand, 1) := by decide +kernel
theorem dX9_append_16 : decode cX9_append 16 = .ok (.istore 4, 2) := by decide +kernel
theorem dX9_append_18 : decode cX9_append 18 = .ok (.iload 4, 2) := by decide +kernel
theorem dX9_append_20 : decode cX9_append 20 = .ok (.ifCond .eq 30, 3) := by decide +kernel
theorem dX9_append_23 : decode cX9_append 23 = .ok (.iload 4, 2) := by decide +kernel
theorem dX9_append_25 : decode cX9_append 25 = .ok (.bipush 32, 2) := by decide +kernel
theorem dX9_append_27 : decode cX9_append 27 = .ok (.if_icmp .lt 10, 3) := by decide +kernel
theorem dX9_append_30 : decode cX9_append 30 = .ok (.iload 4, 2) := by decide +kernel
theorem dX9_append_32 : decode cX9_append 32 = .ok (.bipush 126, 2) := by decide +kernel
theorem dX9_append_34 : decode cX9_append 34 = .ok (.if_icmp .le 13, 3) := by decide +kernel
theorem dX9_append_37 : decode cX9_append 37 = .ok (.new 114, 3) := by decide +kernel
theorem dX9_append_40 : decode cX9_append 40 = .ok (.dup, 1) := by decide +kernel
theorem dX9_append_41 : decode cX9_append 41 = .ok (.ldc 116, 2) := by decide +kernel
theorem dX9_append_43 : decode cX9_append 43 = .ok (.invokespecial 118, 3) := by decide +kernel
theorem dX9_append_46 : decode cX9_append 46 = .ok (.athrow, 1) := by decide +kernel
theorem dX9_append_47 : decode cX9_append 47 = .ok (.iinc 2 1, 3) := by decide +kernel
theorem dX9_append_50 : decode cX9_append 50 = .ok (.iinc 3 (-8), 3) := by decide +kernel
theorem dX9_append_53 : decode cX9_append 53 = .ok (.goto (-48), 3) := by decide +kernel
theorem dX9_append_56 : decode cX9_append 56 = .ok (.aload_n 0, 1) := by decide +kernel
theorem dX9_append_57 : decode cX9_append 57 = .ok (.getfield 66, 3) := by decide +kernel
theorem dX9_append_60 : decode cX9_append 60 = .ok (.iload_n 2, 1) := by decide +kernel
theorem dX9_append_61 : decode cX9_append 61 = .ok (.invokevirtual 121, 3) := by decide +kernel
theorem dX9_append_64 : decode cX9_append 64 = .ok (.ifCond .ne 13, 3) := by decide +kernel
theorem dX9_append_67 : decode cX9_append 67 = .ok (.new 125, 3) := by decide +kernel
theorem dX9_append_70 : decode cX9_append 70 = .ok (.dup, 1) := by decide +kernel
theorem dX9_append_71 : decode cX9_append 71 = .ok (.ldc 127, 2) := by decide +kernel
theorem dX9_append_73 : decode cX9_append 73 = .ok (.invokespecial 129, 3) := by decide +kernel
theorem dX9_append_76 : decode cX9_append 76 = .ok (.athrow, 1) := by decide +kernel
theorem dX9_append_77 : decode cX9_append 77 = .ok (.bipush 24, 2) := by decide +kernel
theorem dX9_append_79 : decode cX9_append 79 = .ok (.istore_n 3, 1) := by decide +kernel
theorem dX9_append_80 : decode cX9_append 80 = .ok (.iload_n 3, 1) := by decide +kernel
theorem dX9_append_81 : decode cX9_append 81 = .ok (.ifCond .lt 33, 3) := by decide +kernel
theorem dX9_append_84 : decode cX9_append 84 = .ok (.iload_n 1, 1) := by decide +kernel
theorem dX9_append_85 : decode cX9_append 85 = .ok (.iload_n 3, 1) := by decide +kernel
theorem dX9_append_86 : decode cX9_append 86 = .ok (.iushr, 1) := by decide +kernel
theorem dX9_append_87 : decode cX9_append 87 = .ok (.sipush 255, 3) := by decide +kernel
theorem dX9_append_90 : decode cX9_append 90 = .ok (.iand, 1) := by decide +kernel
theorem dX9_append_91 : decode cX9_append 91 = .ok (.istore 4, 2) := by decide +kernel
theorem dX9_append_93 : decode cX9_append 93 = .ok (.iload 4, 2) := by decide +kernel
theorem dX9_append_95 : decode cX9_append 95 = .ok (.ifCond .eq 13, 3) := by decide +kernel
theorem dX9_append_98 : decode cX9_append 98 = .ok (.aload_n 0, 1) := by decide +kernel
theorem dX9_append_99 : decode cX9_append 99 = .ok (.getfield 66, 3) := by decide +kernel
theorem dX9_append_102 : decode cX9_append 102 = .ok (.iload 4, 2) := by decide +kernel
theorem dX9_append_104 : decode cX9_append 104 = .ok (.i2c, 1) := by decide +kernel
theorem dX9_append_105 : decode cX9_append 105 = .ok (.invokevirtual 130, 3) := by decide +kernel
theorem dX9_append_108 : decode cX9_append 108 = .ok (.iinc 3 (-8), 3) := by decide +kernel
theorem dX9_append_111 : decode cX9_append 111 = .ok (.goto (-31), 3) := by decide +kernel
theorem dX9_append_114 : decode cX9_append 114 = .ok (.aload_n 0, 1) := by decide +kernel
theorem dX9_append_115 : decode cX9_append 115 = .ok (.getfield 66, 3) := by decide +kernel
theorem dX9_append_118 : decode cX9_append 118 = .ok (.invokevirtual 134, 3) := by decide +kernel
theorem dX9_append_121 : decode cX9_append 121 = .ok (.ireturn, 1) := by decide +kernel
theorem dX9_add_0 : decode cX9_add 0 = .ok (.aload_n 0, 1) := by decide +kernel
theorem dX9_add_1 : decode cX9_add 1 = .ok (.iload_n 1, 1) := by decide +kernel
theorem dX9_add_2 : decode cX9_add 2 = .ok (.invokevirtual 137, 3) := by decide +kernel
theorem dX9_add_5 : decode cX9_add 5 = .ok (.aload_n 0, 1) := by decide +kernel
theorem dX9_add_6 : decode cX9_add 6 = .ok (.iload_n 2, 1) := by decide +kernel
theorem dX9_add_7 : decode cX9_add 7 = .ok (.aload_n 0, 1) := by decide +kernel
theorem dX9_add_8 : decode cX9_add 8 = .ok (.getfield 12, 3) := by decide +kernel
theorem dX9_add_11 : decode cX9_add 11 = .ok (.iload_n 1, 1) := by decide +kernel
theorem dX9_add_12 : decode cX9_add 12 = .ok (.invokevirtual 141, 3) := by decide +kernel
theorem dX9_add_15 : decode cX9_add 15 = .ok (.invokevirtual 145, 3) := by decide +kernel
theorem dX9_add_18 : decode cX9_add 18 = .ok (.aload_n 0, 1) := by decide +kernel
theorem dX9_add_19 : decode cX9_add 19 = .ok (.invokevirtual 149, 3) := by decide +kernel
theorem dX9_add_22 : decode cX9_add 22 = .ok (.istore_n 3, 1) := by decide +kernel
theorem dX9_add_23 : decode cX9_add 23 = .ok (.aload_n 0, 1) := by decide +kernel
theorem dX9_add_24 : decode cX9_add 24 = .ok (.getfield 25, 3) := by decide +kernel
theorem dX9_add_27 : decode cX9_add 27 = .ok (.aload_n 0, 1) := by decide +kernel
theorem dX9_add_28 : decode cX9_add 28 = .ok (.getfield 12, 3) := by decide +kernel
theorem dX9_add_31 : decode cX9_add 31 = .ok (.iload_n 1, 1) := by decide +kernel
theorem dX9_add_32 : decode cX9_add 32 = .ok (.invokevirtual 152, 3) := by decide +kernel
theorem dX9_add_35 : decode cX9_add 35 = .ok (.istore 4, 2) := by decide +kernel
theorem dX9_add_37 : decode cX9_add 37 = .ok (.iload 4, 2) := by decide +kernel
theorem dX9_add_39 : decode cX9_add 39 = .ok (.ifCond .eq 25, 3) := by decide +kernel
theorem dX9_add_42 : decode cX9_add 42 = .ok (.aload_n 0, 1) := by decide +kernel
theorem dX9_add_43 : decode cX9_add 43 = .ok (.getfield 80, 3) := by decide +kernel
theorem dX9_add_46 : decode cX9_add 46 = .ok (.bipush 10, 2) := by decide +kernel
theorem dX9_add_48 : decode cX9_add 48 = .ok (.iconst 0, 1) := by decide +kernel
theorem dX9_add_49 : decode cX9_add 49 = .ok (.iload 4, 2) := by decide +kernel
theorem dX9_add_51 : decode cX9_add 51 = .ok (.invokevirtual 156, 3) := by decide +kernel
theorem dX9_add_54 : decode cX9_add 54 = .ok (.new 160, 3) := by decide +kernel
theorem dX9_add_57 : decode cX9_add 57 = .ok (.dup, 1) := by decide +kernel
theorem dX9_add_58 : decode cX9_add 58 = .ok (.ldc 162, 2) := by decide +kernel
theorem dX9_add_60 : decode cX9_add 60 = .ok (.invokespecial 164, 3) := by decide +kernel
theorem dX9_add_63 : decode cX9_add 63 = .ok (.athrow, 1) := by decide +kernel
theorem dX9_add_64 : decode cX9_add 64 = .ok (.aload_n 0, 1) := by decide +kernel
theorem dX9_add_65 : decode cX9_add 65 = .ok (.getfield 16, 3) := by decide +kernel
theorem dX9_add_68 : decode cX9_add 68 = .ok (.aload_n 0, 1) := by decide +kernel
theorem dX9_add_69 : decode cX9_add 69 = .ok (.getfield 12, 3) := by decide +kernel
theorem dX9_add_72 : decode cX9_add 72 = .ok (.invokevirtual 165, 3) := by decide +kernel
theorem dX9_add_75 : decode cX9_add 75 = .ok (.aload_n 0, 1) := by decide +kernel
theorem dX9_add_76 : decode cX9_add 76 = .ok (.getfield 16, 3) := by decide +kernel
theorem dX9_add_79 : decode cX9_add 79 = .ok (.aload_n 0, 1) := by decide +kernel
theorem dX9_add_80 : decode cX9_add 80 = .ok (.getfield 84, 3) := by decide +kernel
theorem dX9_add_83 : decode cX9_add 83 = .ok (.iconst 0, 1) := by decide +kernel
theorem dX9_add_84 : decode cX9_add 84 = .ok (.iload_n 3, 1) := by decide +kernel
theorem dX9_add_85 : decode cX9_add 85 = .ok (.invokevirtual 169, 3) := by decide +kernel
theorem dX9_add_88 : decode cX9_add 88 = .ok (.istore 5, 2) := by decide +kernel
theorem dX9_add_90 : decode cX9_add 90 = .ok (.aload_n 0, 1) := by decide +kernel
theorem dX9_add_91 : decode cX9_add 91 = .ok (.getfield 16, 3) := by decide +kernel
theorem dX9_add_94 : decode cX9_add 94 = .ok (.iload_n 1, 1) := by decide +kernel
theorem dX9_add_95 : decode cX9_add 95 = .ok (.iload_n 2, 1) := by decide +kernel
theorem dX9_add_96 : decode cX9_add 96 = .ok (.iload 5, 2) := by decide +kernel
theorem dX9_add_98 : decode cX9_add 98 = .ok (.invokevirtual 173, 3) := by decide +kernel
theorem dX9_add_101 : decode cX9_add 101 = .ok (.aload_n 0, 1) := by decide +kernel
theorem dX9_add_102 : decode cX9_add 102 = .ok (.invokevirtual 176, 3) := by decide +kernel
theorem dX9_add_105 : decode cX9_add 105 = .ok (.iload 5, 2) := by decide +kernel
theorem dX9_add_107 : decode cX9_add 107 = .ok (.ireturn, 1) := by decide +kernel
theorem dX9_clone_0 : decode cX9_clone 0 = .ok (.aload_n 0, 1) := by decide +kernel
theorem dX9_clone_1 : decode cX9_clone 1 = .ok (.iload_n 1, 1) := by decide +kernel
theorem dX9_clone_2 : decode cX9_clone 2 = .ok (.invokevirtual 179, 3) := by decide +kernel
theorem dX9_clone_5 : decode cX9_clone 5 = .ok (.aload_n 0, 1) := by decide +kernel
theorem dX9_clone_6 : decode cX9_clone 6 = .ok (.iload_n 2, 1) := by decide +kernel
theorem dX9_clone_7 : decode cX9_clone 7 = .ok (.invokevirtual 137, 3) := by decide +kernel
theorem dX9_clone_10 : decode cX9_clone 10 = .ok (.aload_n 0, 1) := by decide +kernel
theorem dX9_clone_11 : decode cX9_clone 11 = .ok (.iload_n 3, 1) := by decide +kernel
theorem dX9_clone_12 : decode cX9_clone 12 = .ok (.aload_n 0, 1) := by decide +kernel
theorem dX9_clone_13 : decode cX9_clone 13 = .ok (.getfield 12, 3) := by decide +kernel
theorem dX9_clone_16 : decode cX9_clone 16 = .ok (.iload_n 2, 1) := by decide +kernel
theorem dX9_clone_17 : decode cX9_clone 17 = .ok (.invokevirtual 141, 3) := by decide +kernel
theorem dX9_clone_20 : decode cX9_clone 20 = .ok (.invokevirtual 145, 3) := by decide +kernel
theorem dX9_clone_23 : decode cX9_clone 23 = .ok (.aload_n 0, 1) := by decide +kernel
theorem dX9_clone_24 : decode cX9_clone 24 = .ok (.getfield 25, 3) := by decide +kernel
theorem dX9_clone_27 : decode cX9_clone 27 = .ok (.aload_n 0, 1) := by decide +kernel
theorem dX9_clone_28 : decode cX9_clone 28 = .ok (.getfield 12, 3) := by decide +kernel
theorem dX9_clone_31 : decode cX9_clone 31 = .ok (.iload_n 1, 1) := by decide +kernel
theorem dX9_clone_32 : decode cX9_clone 32 = .ok (.iload_n 2, 1) := by decide +kernel
theorem dX9_clone_33 : decode cX9_clone 33 = .ok (.invokevirtual 182, 3) := by decide +kernel
theorem dX9_clone_36 : decode cX9_clone 36 = .ok (.istore 4, 2) := by decide +kernel
theorem dX9_clone_38 : decode cX9_clone 38 = .ok (.iload 4, 2) := by decide +kernel
theorem dX9_clone_40 : decode cX9_clone 40 = .ok (.ifCond .eq 25, 3) := by decide +kernel
theorem dX9_clone_43 : decode cX9_clone 43 = .ok (.aload_n 0, 1) := by decide +kernel
theorem dX9_clone_44 : decode cX9_clone 44 = .ok (.getfield 80, 3) := by decide +kernel
theorem dX9_clone_47 : decode cX9_clone 47 = .ok (.bipush 20, 2) := by decide +kernel
theorem dX9_clone_49 : decode cX9_clone 49 = .ok (.iconst 0, 1) := by decide +kernel
theorem dX9_clone_50 : decode cX9_clone 50 = .ok (.iload 4, 2) := by decide +kernel
theorem dX9_clone_52 : decode cX9_clone 52 = .ok (.invokevirtual 156, 3) := by decide +kernel
theorem dX9_clone_55 : decode cX9_clone 55 = .ok (.new 160, 3) := by decide +kernel
theorem dX9_clone_58 : decode cX9_clone 58 = .ok (.dup, 1) := by decide +kernel
theorem dX9_clone_59 : decode cX9_clone 59 = .ok (.ldc 162, 2) := by decide +kernel
theorem dX9_clone_61 : decode cX9_clone 61 = .ok (.invokespecial 164, 3) := by decide +kernel
theorem dX9_clone_64 : decode cX9_clone 64 = .ok (.athrow, 1) := by decide +kernel
theorem dX9_clone_65 : decode cX9_clone 65 = .ok (.aload_n 0, 1) := by decide +kernel
theorem dX9_clone_66 : decode cX9_clone 66 = .ok (.getfield 16, 3) := by decide +kernel
theorem dX9_clone_69 : decode cX9_clone 69 = .ok (.aload_n 0, 1) := by decide +kernel
theorem dX9_clone_70 : decode cX9_clone 70 = .ok (.getfield 12, 3) := by decide +kernel
theorem dX9_clone_73 : decode cX9_clone 73 = .ok (.invokevirtual 165, 3) := by decide +kernel
theorem dX9_clone_76 : decode cX9_clone 76 = .ok (.aload_n 0, 1) := by decide +kernel
theorem dX9_clone_77 : decode cX9_clone 77 = .ok (.getfield 16, 3) := by decide +kernel
theorem dX9_clone_80 : decode cX9_clone 80 = .ok (.iload_n 2, 1) := by decide +kernel
theorem dX9_clone_81 : decode cX9_clone 81 = .ok (.iload_n 3, 1) := by decide +kernel
theorem dX9_clone_82 : decode cX9_clone 82 = .ok (.iload_n 1, 1) := by decide +kernel
theorem dX9_clone_83 : decode cX9_clone 83 = .ok (.invokevirtual 173, 3) := by decide +kernel
theorem dX9_clone_86 : decode cX9_clone 86 = .ok (.aload_n 0, 1) := by decide +kernel
theorem dX9_clone_87 : decode cX9_clone 87 = .ok (.invokevirtual 176, 3) := by decide +kernel
theorem dX9_clone_90 : decode cX9_clone 90 = .ok (.aload_n 0, 1) := by decide +kernel
theorem dX9_clone_91 : decode cX9_clone 91 = .ok (.getfield 25, 3) := by decide +kernel
theorem dX9_clone_94 : decode cX9_clone 94 = .ok (.iload_n 1, 1) := by decide +kernel
theorem dX9_clone_95 : decode cX9_clone 95 = .ok (.invokevirtual 186, 3) := by decide +kernel
theorem dX9_clone_98 : decode cX9_clone 98 = .ok (.ireturn, 1) := by decide +kernel
theorem dX9_detach_0 : decode cX9_detach 0 = .ok (.aload_n 0, 1) := by decide +kernel
theorem dX9_detach_1 : decode cX9_detach 1 = .ok (.iload_n 1, 1) := by decide +kernel
