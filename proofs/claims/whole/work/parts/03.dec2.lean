theorem dX12_findPairs_11 : decode cX12_findPairs 11 = .ok (.istore_n 2, 1) := by decide +kernel
theorem dX12_findPairs_12 : decode cX12_findPairs 12 = .ok (.iload_n 2, 1) := by decide +kernel
theorem dX12_findPairs_13 : decode cX12_findPairs 13 = .ok (.aload_n 0, 1) := by decide +kernel
theorem dX12_findPairs_14 : decode cX12_findPairs 14 = .ok (.getfield 220, 3) := by decide +kernel
theorem dX12_findPairs_17 : decode cX12_findPairs 17 = .ok (.if_icmp .ge 108, 3) := by decide +kernel
theorem dX12_findPairs_20 : decode cX12_findPairs 20 = .ok (.iconst 0, 1) := by decide +kernel
theorem dX12_findPairs_21 : decode cX12_findPairs 21 = .ok (.istore_n 3, 1) := by decide +kernel
theorem dX12_findPairs_22 : decode cX12_findPairs 22 = .ok (.iconst 0, 1) := by decide +kernel
theorem dX12_findPairs_23 : decode cX12_findPairs 23 = .ok (.istore 4, 2) := by decide +kernel
theorem dX12_findPairs_25 : decode cX12_findPairs 25 = .ok (.iload 4, 2) := by decide +kernel
theorem dX12_findPairs_27 : decode cX12_findPairs 27 = .ok (.aload_n 0, 1) := by decide +kernel
theorem dX12_findPairs_28 : decode cX12_findPairs 28 = .ok (.getfield 107, 3) := by decide +kernel
theorem dX12_findPairs_31 : decode cX12_findPairs 31 = .ok (.if_icmp .ge 76, 3) := by decide +kernel
theorem dX12_findPairs_34 : decode cX12_findPairs 34 = .ok (.aload_n 0, 1) := by decide +kernel
theorem dX12_findPairs_35 : decode cX12_findPairs 35 = .ok (.aload_n 0, 1) := by decide +kernel
theorem dX12_findPairs_36 : decode cX12_findPairs 36 = .ok (.getfield 62, 3) := by decide +kernel
theorem dX12_findPairs_39 : decode cX12_findPairs 39 = .ok (.iload_n 1, 1) := by decide +kernel
theorem dX12_findPairs_40 : decode cX12_findPairs 40 = .ok (.iaload, 1) := by decide +kernel
theorem dX12_findPairs_41 : decode cX12_findPairs 41 = .ok (.iload 4, 2) := by decide +kernel
theorem dX12_findPairs_43 : decode cX12_findPairs 43 = .ok (.invokevirtual 138, 3) := by decide +kernel
theorem dX12_findPairs_46 : decode cX12_findPairs 46 = .ok (.ifCond .ne 18, 3) := by decide +kernel
theorem dX12_findPairs_49 : decode cX12_findPairs 49 = .ok (.aload_n 0, 1) := by decide +kernel
theorem dX12_findPairs_50 : decode cX12_findPairs 50 = .ok (.aload_n 0, 1) := by decide +kernel
theorem dX12_findPairs_51 : decode cX12_findPairs 51 = .ok (.getfield 62, 3) := by decide +kernel
theorem dX12_findPairs_54 : decode cX12_findPairs 54 = .ok (.iload_n 2, 1) := by decide +kernel
theorem dX12_findPairs_55 : decode cX12_findPairs 55 = .ok (.iaload, 1) := by decide +kernel
theorem dX12_findPairs_56 : decode cX12_findPairs 56 = .ok (.iload 4, 2) := by decide +kernel
theorem dX12_findPairs_58 : decode cX12_findPairs 58 = .ok (.invokevirtual 138, 3) := by decide +kernel
theorem dX12_findPairs_61 : decode cX12_findPairs 61 = .ok (.ifCond .eq 7, 3) := by decide +kernel
theorem dX12_findPairs_64 : decode cX12_findPairs 64 = .ok (.iconst 1, 1) := by decide +kernel
theorem dX12_findPairs_65 : decode cX12_findPairs 65 = .ok (.goto 4, 3) := by decide +kernel
theorem dX12_findPairs_68 : decode cX12_findPairs 68 = .ok (.iconst 0, 1) := by decide +kernel
theorem dX12_findPairs_69 : decode cX12_findPairs 69 = .ok (.istore 5, 2) := by decide +kernel
theorem dX12_findPairs_71 : decode cX12_findPairs 71 = .ok (.iload_n 3, 1) := by decide +kernel
theorem dX12_findPairs_72 : decode cX12_findPairs 72 = .ok (.aload_n 0, 1) := by decide +kernel
theorem dX12_findPairs_73 : decode cX12_findPairs 73 = .ok (.getfield 13, 3) := by decide +kernel
theorem dX12_findPairs_76 : decode cX12_findPairs 76 = .ok (.iload 4, 2) := by decide +kernel
theorem dX12_findPairs_78 : decode cX12_findPairs 78 = .ok (.baload, 1) := by decide +kernel
theorem dX12_findPairs_79 : decode cX12_findPairs 79 = .ok (.ifCond .ne 19, 3) := by decide +kernel
theorem dX12_findPairs_82 : decode cX12_findPairs 82 = .ok (.iload 5, 2) := by decide +kernel
theorem dX12_findPairs_84 : decode cX12_findPairs 84 = .ok (.ifCond .ne 14, 3) := by decide +kernel
theorem dX12_findPairs_87 : decode cX12_findPairs 87 = .ok (.iconst 1, 1) := by decide +kernel
theorem dX12_findPairs_88 : decode cX12_findPairs 88 = .ok (.aload_n 0, 1) := by decide +kernel
theorem dX12_findPairs_89 : decode cX12_findPairs 89 = .ok (.iload 4, 2) := by decide +kernel
theorem dX12_findPairs_91 : decode cX12_findPairs 91 = .ok (.invokevirtual 129, 3) := by decide +kernel
theorem dX12_findPairs_94 : decode cX12_findPairs 94 = .ok (.ishl, 1) := by decide +kernel
theorem dX12_findPairs_95 : decode cX12_findPairs 95 = .ok (.goto 4, 3) := by decide +kernel
theorem dX12_findPairs_98 : decode cX12_findPairs 98 = .ok (.iconst 0, 1) := by decide +kernel
theorem dX12_findPairs_99 : decode cX12_findPairs 99 = .ok (.ior, 1) := by decide +kernel
theorem dX12_findPairs_100 : decode cX12_findPairs 100 = .ok (.istore_n 3, 1) := by decide +kernel
theorem dX12_findPairs_101 : decode cX12_findPairs 101 = .ok (.iinc 4 1, 3) := by decide +kernel
theorem dX12_findPairs_104 : decode cX12_findPairs 104 = .ok (.goto (-79), 3) := by decide +kernel
theorem dX12_findPairs_107 : decode cX12_findPairs 107 = .ok (.aload_n 0, 1) := by decide +kernel
theorem dX12_findPairs_108 : decode cX12_findPairs 108 = .ok (.getfield 65, 3) := by decide +kernel
theorem dX12_findPairs_111 : decode cX12_findPairs 111 = .ok (.bipush 12, 2) := by decide +kernel
theorem dX12_findPairs_113 : decode cX12_findPairs 113 = .ok (.iload_n 1, 1) := by decide +kernel
theorem dX12_findPairs_114 : decode cX12_findPairs 114 = .ok (.imul, 1) := by decide +kernel
theorem dX12_findPairs_115 : decode cX12_findPairs 115 = .ok (.iload_n 2, 1) := by decide +kernel
theorem dX12_findPairs_116 : decode cX12_findPairs 116 = .ok (.iadd, 1) := by decide +kernel
theorem dX12_findPairs_117 : decode cX12_findPairs 117 = .ok (.iload_n 3, 1) := by decide +kernel
theorem dX12_findPairs_118 : decode cX12_findPairs 118 = .ok (.iastore, 1) := by decide +kernel
theorem dX12_findPairs_119 : decode cX12_findPairs 119 = .ok (.iinc 2 1, 3) := by decide +kernel
theorem dX12_findPairs_122 : decode cX12_findPairs 122 = .ok (.goto (-110), 3) := by decide +kernel
theorem dX12_findPairs_125 : decode cX12_findPairs 125 = .ok (.iinc 1 1, 3) := by decide +kernel
theorem dX12_findPairs_128 : decode cX12_findPairs 128 = .ok (.goto (-126), 3) := by decide +kernel
theorem dX12_findPairs_131 : decode cX12_findPairs 131 = .ok (.return_, 1) := by decide +kernel
theorem dX12_lowest_0 : decode cX12_lowest 0 = .ok (.iconst 0, 1) := by decide +kernel
theorem dX12_lowest_1 : decode cX12_lowest 1 = .ok (.istore_n 1, 1) := by decide +kernel
theorem dX12_lowest_2 : decode cX12_lowest 2 = .ok (.iload_n 0, 1) := by decide +kernel
theorem dX12_lowest_3 : decode cX12_lowest 3 = .ok (.iload_n 1, 1) := by decide +kernel
theorem dX12_lowest_4 : decode cX12_lowest 4 = .ok (.ishr, 1) := by decide +kernel
theorem dX12_lowest_5 : decode cX12_lowest 5 = .ok (.iconst 1, 1) := by decide +kernel
theorem dX12_lowest_6 : decode cX12_lowest 6 = .ok (.iand, 1) := by decide +kernel
theorem dX12_lowest_7 : decode cX12_lowest 7 = .ok (.ifCond .ne 9, 3) := by decide +kernel
theorem dX12_lowest_10 : decode cX12_lowest 10 = .ok (.iinc 1 1, 3) := by decide +kernel
theorem dX12_lowest_13 : decode cX12_lowest 13 = .ok (.goto (-11), 3) := by decide +kernel
theorem dX12_lowest_16 : decode cX12_lowest 16 = .ok (.iload_n 1, 1) := by decide +kernel
theorem dX12_lowest_17 : decode cX12_lowest 17 = .ok (.ireturn, 1) := by decide +kernel
theorem dX12_findGiven_0 : decode cX12_findGiven 0 = .ok (.iload_n 1, 1) := by decide +kernel
theorem dX12_findGiven_1 : decode cX12_findGiven 1 = .ok (.invokestatic 125, 3) := by decide +kernel
theorem dX12_findGiven_4 : decode cX12_findGiven 4 = .ok (.istore_n 2, 1) := by decide +kernel
theorem dX12_findGiven_5 : decode cX12_findGiven 5 = .ok (.aload_n 0, 1) := by decide +kernel
theorem dX12_findGiven_6 : decode cX12_findGiven 6 = .ok (.getfield 68, 3) := by decide +kernel
theorem dX12_findGiven_9 : decode cX12_findGiven 9 = .ok (.iconst 0, 1) := by decide +kernel
theorem dX12_findGiven_10 : decode cX12_findGiven 10 = .ok (.iconst 0, 1) := by decide +kernel
theorem dX12_findGiven_11 : decode cX12_findGiven 11 = .ok (.bastore, 1) := by decide +kernel
theorem dX12_findGiven_12 : decode cX12_findGiven 12 = .ok (.iconst 1, 1) := by decide +kernel
theorem dX12_findGiven_13 : decode cX12_findGiven 13 = .ok (.istore_n 3, 1) := by decide +kernel
theorem dX12_findGiven_14 : decode cX12_findGiven 14 = .ok (.iload_n 3, 1) := by decide +kernel
theorem dX12_findGiven_15 : decode cX12_findGiven 15 = .ok (.iconst 1, 1) := by decide +kernel
theorem dX12_findGiven_16 : decode cX12_findGiven 16 = .ok (.aload_n 0, 1) := by decide +kernel
theorem dX12_findGiven_17 : decode cX12_findGiven 17 = .ok (.getfield 220, 3) := by decide +kernel
theorem dX12_findGiven_20 : decode cX12_findGiven 20 = .ok (.ishl, 1) := by decide +kernel
theorem dX12_findGiven_21 : decode cX12_findGiven 21 = .ok (.if_icmp .ge 93, 3) := by decide +kernel
theorem dX12_findGiven_24 : decode cX12_findGiven 24 = .ok (.iload_n 3, 1) := by decide +kernel
theorem dX12_findGiven_25 : decode cX12_findGiven 25 = .ok (.invokestatic 223, 3) := by decide +kernel
theorem dX12_findGiven_28 : decode cX12_findGiven 28 = .ok (.istore 4, 2) := by decide +kernel
theorem dX12_findGiven_30 : decode cX12_findGiven 30 = .ok (.aload_n 0, 1) := by decide +kernel
theorem dX12_findGiven_31 : decode cX12_findGiven 31 = .ok (.getfield 68, 3) := by decide +kernel
theorem dX12_findGiven_34 : decode cX12_findGiven 34 = .ok (.iload_n 3, 1) := by decide +kernel
theorem dX12_findGiven_35 : decode cX12_findGiven 35 = .ok (.iload_n 3, 1) := by decide +kernel
theorem dX12_findGiven_36 : decode cX12_findGiven 36 = .ok (.iconst 1, 1) := by decide +kernel
theorem dX12_findGiven_37 : decode cX12_findGiven 37 = .ok (.isub, 1) := by decide +kernel
theorem dX12_findGiven_38 : decode cX12_findGiven 38 = .ok (.iand, 1) := by decide +kernel
theorem dX12_findGiven_39 : decode cX12_findGiven 39 = .ok (.baload, 1) := by decide +kernel
theorem dX12_findGiven_40 : decode cX12_findGiven 40 = .ok (.istore 5, 2) := by decide +kernel
theorem dX12_findGiven_42 : decode cX12_findGiven 42 = .ok (.iload 4, 2) := by decide +kernel
theorem dX12_findGiven_44 : decode cX12_findGiven 44 = .ok (.istore 6, 2) := by decide +kernel
theorem dX12_findGiven_46 : decode cX12_findGiven 46 = .ok (.iload 6, 2) := by decide +kernel
theorem dX12_findGiven_48 : decode cX12_findGiven 48 = .ok (.aload_n 0, 1) := by decide +kernel
theorem dX12_findGiven_49 : decode cX12_findGiven 49 = .ok (.getfield 220, 3) := by decide +kernel
theorem dX12_findGiven_52 : decode cX12_findGiven 52 = .ok (.if_icmp .ge 48, 3) := by decide +kernel
theorem dX12_findGiven_55 : decode cX12_findGiven 55 = .ok (.iload 5, 2) := by decide +kernel
theorem dX12_findGiven_57 : decode cX12_findGiven 57 = .ok (.ifCond .ne 43, 3) := by decide +kernel
theorem dX12_findGiven_60 : decode cX12_findGiven 60 = .ok (.iload_n 3, 1) := by decide +kernel
theorem dX12_findGiven_61 : decode cX12_findGiven 61 = .ok (.iload 6, 2) := by decide +kernel
theorem dX12_findGiven_63 : decode cX12_findGiven 63 = .ok (.ishr, 1) := by decide +kernel
theorem dX12_findGiven_64 : decode cX12_findGiven 64 = .ok (.iconst 1, 1) := by decide +kernel
theorem dX12_findGiven_65 : decode cX12_findGiven 65 = .ok (.iand, 1) := by decide +kernel
theorem dX12_findGiven_66 : decode cX12_findGiven 66 = .ok (.iconst 1, 1) := by decide +kernel
theorem dX12_findGiven_67 : decode cX12_findGiven 67 = .ok (.if_icmp .ne 24, 3) := by decide +kernel
theorem dX12_findGiven_70 : decode cX12_findGiven 70 = .ok (.aload_n 0, 1) := by decide +kernel
theorem dX12_findGiven_71 : decode cX12_findGiven 71 = .ok (.getfield 65, 3) := by decide +kernel
theorem dX12_findGiven_74 : decode cX12_findGiven 74 = .ok (.bipush 12, 2) := by decide +kernel
theorem dX12_findGiven_76 : decode cX12_findGiven 76 = .ok (.iload 4, 2) := by decide +kernel
theorem dX12_findGiven_78 : decode cX12_findGiven 78 = .ok (.imul, 1) := by decide +kernel
theorem dX12_findGiven_79 : decode cX12_findGiven 79 = .ok (.iload 6, 2) := by decide +kernel
theorem dX12_findGiven_81 : decode cX12_findGiven 81 = .ok (.iadd, 1) := by decide +kernel
theorem dX12_findGiven_82 : decode cX12_findGiven 82 = .ok (.iaload, 1) := by decide +kernel
theorem dX12_findGiven_83 : decode cX12_findGiven 83 = .ok (.iload_n 2, 1) := by decide +kernel
theorem dX12_findGiven_84 : decode cX12_findGiven 84 = .ok (.if_icmp .ne 7, 3) := by decide +kernel
theorem dX12_findGiven_87 : decode cX12_findGiven 87 = .ok (.iconst 1, 1) := by decide +kernel
theorem dX12_findGiven_88 : decode cX12_findGiven 88 = .ok (.goto 4, 3) := by decide +kernel
theorem dX12_findGiven_91 : decode cX12_findGiven 91 = .ok (.iconst 0, 1) := by decide +kernel
theorem dX12_findGiven_92 : decode cX12_findGiven 92 = .ok (.istore 5, 2) := by decide +kernel
theorem dX12_findGiven_94 : decode cX12_findGiven 94 = .ok (.iinc 6 1, 3) := by decide +kernel
theorem dX12_findGiven_97 : decode cX12_findGiven 97 = .ok (.goto (-51), 3) := by decide +kernel
theorem dX12_findGiven_100 : decode cX12_findGiven 100 = .ok (.aload_n 0, 1) := by decide +kernel
theorem dX12_findGiven_101 : decode cX12_findGiven 101 = .ok (.getfield 68, 3) := by decide +kernel
theorem dX12_findGiven_104 : decode cX12_findGiven 104 = .ok (.iload_n 3, 1) := by decide +kernel
theorem dX12_findGiven_105 : decode cX12_findGiven 105 = .ok (.iload 5, 2) := by decide +kernel
theorem dX12_findGiven_107 : decode cX12_findGiven 107 = .ok (.bastore, 1) := by decide +kernel
theorem dX12_findGiven_108 : decode cX12_findGiven 108 = .ok (.iinc 3 1, 3) := by decide +kernel
theorem dX12_findGiven_111 : decode cX12_findGiven 111 = .ok (.goto (-97), 3) := by decide +kernel
theorem dX12_findGiven_114 : decode cX12_findGiven 114 = .ok (.return_, 1) := by decide +kernel
theorem dX12_findServed_0 : decode cX12_findServed 0 = .ok (.aload_n 0, 1) := by decide +kernel
theorem dX12_findServed_1 : decode cX12_findServed 1 = .ok (.invokevirtual 226, 3) := by decide +kernel
theorem dX12_findServed_4 : decode cX12_findServed 4 = .ok (.iconst 0, 1) := by decide +kernel
theorem dX12_findServed_5 : decode cX12_findServed 5 = .ok (.istore_n 1, 1) := by decide +kernel
theorem dX12_findServed_6 : decode cX12_findServed 6 = .ok (.iload_n 1, 1) := by decide +kernel
theorem dX12_findServed_7 : decode cX12_findServed 7 = .ok (.iconst 1, 1) := by decide +kernel
theorem dX12_findServed_8 : decode cX12_findServed 8 = .ok (.aload_n 0, 1) := by decide +kernel
theorem dX12_findServed_9 : decode cX12_findServed 9 = .ok (.getfield 220, 3) := by decide +kernel
theorem dX12_findServed_12 : decode cX12_findServed 12 = .ok (.ishl, 1) := by decide +kernel
theorem dX12_findServed_13 : decode cX12_findServed 13 = .ok (.if_icmp .ge 23, 3) := by decide +kernel
theorem dX12_findServed_16 : decode cX12_findServed 16 = .ok (.aload_n 0, 1) := by decide +kernel
theorem dX12_findServed_17 : decode cX12_findServed 17 = .ok (.getfield 71, 3) := by decide +kernel
theorem dX12_findServed_20 : decode cX12_findServed 20 = .ok (.iload_n 1, 1) := by decide +kernel
theorem dX12_findServed_21 : decode cX12_findServed 21 = .ok (.iconst 1, 1) := by decide +kernel
theorem dX12_findServed_22 : decode cX12_findServed 22 = .ok (.aload_n 0, 1) := by decide +kernel
theorem dX12_findServed_23 : decode cX12_findServed 23 = .ok (.getfield 180, 3) := by decide +kernel
theorem dX12_findServed_26 : decode cX12_findServed 26 = .ok (.ishl, 1) := by decide +kernel
theorem dX12_findServed_27 : decode cX12_findServed 27 = .ok (.iconst 1, 1) := by decide +kernel
theorem dX12_findServed_28 : decode cX12_findServed 28 = .ok (.isub, 1) := by decide +kernel
theorem dX12_findServed_29 : decode cX12_findServed 29 = .ok (.iastore, 1) := by decide +kernel
theorem dX12_findServed_30 : decode cX12_findServed 30 = .ok (.iinc 1 1, 3) := by decide +kernel
theorem dX12_findServed_33 : decode cX12_findServed 33 = .ok (.goto (-27), 3) := by decide +kernel
theorem dX12_findServed_36 : decode cX12_findServed 36 = .ok (.iconst 0, 1) := by decide +kernel
theorem dX12_findServed_37 : decode cX12_findServed 37 = .ok (.istore_n 1, 1) := by decide +kernel
theorem dX12_findServed_38 : decode cX12_findServed 38 = .ok (.iload_n 1, 1) := by decide +kernel
theorem dX12_findServed_39 : decode cX12_findServed 39 = .ok (.bipush 96, 2) := by decide +kernel
theorem dX12_findServed_41 : decode cX12_findServed 41 = .ok (.if_icmp .ge 129, 3) := by decide +kernel
theorem dX12_findServed_44 : decode cX12_findServed 44 = .ok (.iconst 0, 1) := by decide +kernel
theorem dX12_findServed_45 : decode cX12_findServed 45 = .ok (.istore_n 2, 1) := by decide +kernel
theorem dX12_findServed_46 : decode cX12_findServed 46 = .ok (.iconst 0, 1) := by decide +kernel
theorem dX12_findServed_47 : decode cX12_findServed 47 = .ok (.istore_n 3, 1) := by decide +kernel
theorem dX12_findServed_48 : decode cX12_findServed 48 = .ok (.iload_n 3, 1) := by decide +kernel
theorem dX12_findServed_49 : decode cX12_findServed 49 = .ok (.aload_n 0, 1) := by decide +kernel
theorem dX12_findServed_50 : decode cX12_findServed 50 = .ok (.getfield 180, 3) := by decide +kernel
theorem dX12_findServed_53 : decode cX12_findServed 53 = .ok (.if_icmp .ge 56, 3) := by decide +kernel
theorem dX12_findServed_56 : decode cX12_findServed 56 = .ok (.iconst 0, 1) := by decide +kernel
theorem dX12_findServed_57 : decode cX12_findServed 57 = .ok (.istore 4, 2) := by decide +kernel
theorem dX12_findServed_59 : decode cX12_findServed 59 = .ok (.iload 4, 2) := by decide +kernel
theorem dX12_findServed_61 : decode cX12_findServed 61 = .ok (.aload_n 0, 1) := by decide +kernel
theorem dX12_findServed_62 : decode cX12_findServed 62 = .ok (.getfield 41, 3) := by decide +kernel
theorem dX12_findServed_65 : decode cX12_findServed 65 = .ok (.iload_n 3, 1) := by decide +kernel
theorem dX12_findServed_66 : decode cX12_findServed 66 = .ok (.iaload, 1) := by decide +kernel
theorem dX12_findServed_67 : decode cX12_findServed 67 = .ok (.if_icmp .ge 36, 3) := by decide +kernel
theorem dX12_findServed_70 : decode cX12_findServed 70 = .ok (.iload_n 2, 1) := by decide +kernel
theorem dX12_findServed_71 : decode cX12_findServed 71 = .ok (.aload_n 0, 1) := by decide +kernel
theorem dX12_findServed_72 : decode cX12_findServed 72 = .ok (.iload_n 3, 1) := by decide +kernel
theorem dX12_findServed_73 : decode cX12_findServed 73 = .ok (.iload 4, 2) := by decide +kernel
theorem dX12_findServed_75 : decode cX12_findServed 75 = .ok (.aload_n 0, 1) := by decide +kernel
theorem dX12_findServed_76 : decode cX12_findServed 76 = .ok (.getfield 44, 3) := by decide +kernel
theorem dX12_findServed_79 : decode cX12_findServed 79 = .ok (.iload_n 3, 1) := by decide +kernel
theorem dX12_findServed_80 : decode cX12_findServed 80 = .ok (.iaload, 1) := by decide +kernel
theorem dX12_findServed_81 : decode cX12_findServed 81 = .ok (.invokevirtual 191, 3) := by decide +kernel
theorem dX12_findServed_84 : decode cX12_findServed 84 = .ok (.iload_n 1, 1) := by decide +kernel
theorem dX12_findServed_85 : decode cX12_findServed 85 = .ok (.if_icmp .ne 9, 3) := by decide +kernel
theorem dX12_findServed_88 : decode cX12_findServed 88 = .ok (.iconst 1, 1) := by decide +kernel
theorem dX12_findServed_89 : decode cX12_findServed 89 = .ok (.iload_n 3, 1) := by decide +kernel
theorem dX12_findServed_90 : decode cX12_findServed 90 = .ok (.ishl, 1) := by decide +kernel
theorem dX12_findServed_91 : decode cX12_findServed 91 = .ok (.goto 4, 3) := by decide +kernel
theorem dX12_findServed_94 : decode cX12_findServed 94 = .ok (.iconst 0, 1) := by decide +kernel
theorem dX12_findServed_95 : decode cX12_findServed 95 = .ok (.ior, 1) := by decide +kernel
theorem dX12_findServed_96 : decode cX12_findServed 96 = .ok (.istore_n 2, 1) := by decide +kernel
theorem dX12_findServed_97 : decode cX12_findServed 97 = .ok (.iinc 4 1, 3) := by decide +kernel
theorem dX12_findServed_100 : decode cX12_findServed 100 = .ok (.goto (-41), 3) := by decide +kernel
theorem dX12_findServed_103 : decode cX12_findServed 103 = .ok (.iinc 3 1, 3) := by decide +kernel
theorem dX12_findServed_106 : decode cX12_findServed 106 = .ok (.goto (-58), 3) := by decide +kernel
theorem dX12_findServed_109 : decode cX12_findServed 109 = .ok (.iload_n 2, 1) := by decide +kernel
theorem dX12_findServed_110 : decode cX12_findServed 110 = .ok (.ifCond .ne 6, 3) := by decide +kernel
theorem dX12_findServed_113 : decode cX12_findServed 113 = .ok (.goto 51, 3) := by decide +kernel
theorem dX12_findServed_116 : decode cX12_findServed 116 = .ok (.aload_n 0, 1) := by decide +kernel
theorem dX12_findServed_117 : decode cX12_findServed 117 = .ok (.iload_n 1, 1) := by decide +kernel
theorem dX12_findServed_118 : decode cX12_findServed 118 = .ok (.invokevirtual 229, 3) := by decide +kernel
theorem dX12_findServed_121 : decode cX12_findServed 121 = .ok (.iconst 0, 1) := by decide +kernel
theorem dX12_findServed_122 : decode cX12_findServed 122 = .ok (.istore_n 3, 1) := by decide +kernel
theorem dX12_findServed_123 : decode cX12_findServed 123 = .ok (.iload_n 3, 1) := by decide +kernel
theorem dX12_findServed_124 : decode cX12_findServed 124 = .ok (.iconst 1, 1) := by decide +kernel
theorem dX12_findServed_125 : decode cX12_findServed 125 = .ok (.aload_n 0, 1) := by decide +kernel
theorem dX12_findServed_126 : decode cX12_findServed 126 = .ok (.getfield 220, 3) := by decide +kernel
theorem dX12_findServed_129 : decode cX12_findServed 129 = .ok (.ishl, 1) := by decide +kernel
theorem dX12_findServed_130 : decode cX12_findServed 130 = .ok (.if_icmp .ge 34, 3) := by decide +kernel
theorem dX12_findServed_133 : decode cX12_findServed 133 = .ok (.aload_n 0, 1) := by decide +kernel
theorem dX12_findServed_134 : decode cX12_findServed 134 = .ok (.getfield 71, 3) := by decide +kernel
theorem dX12_findServed_137 : decode cX12_findServed 137 = .ok (.iload_n 3, 1) := by decide +kernel
theorem dX12_findServed_138 : decode cX12_findServed 138 = .ok (.dup2, 1) := by decide +kernel
theorem dX12_findServed_139 : decode cX12_findServed 139 = .ok (.iaload, 1) := by decide +kernel
theorem dX12_findServed_140 : decode cX12_findServed 140 = .ok (.aload_n 0, 1) := by decide +kernel
theorem dX12_findServed_141 : decode cX12_findServed 141 = .ok (.getfield 68, 3) := by decide +kernel
theorem dX12_findServed_144 : decode cX12_findServed 144 = .ok (.iload_n 3, 1) := by decide +kernel
theorem dX12_findServed_145 : decode cX12_findServed 145 = .ok (.baload, 1) := by decide +kernel
theorem dX12_findServed_146 : decode cX12_findServed 146 = .ok (.ifCond .eq 7, 3) := by decide +kernel
theorem dX12_findServed_149 : decode cX12_findServed 149 = .ok (.iconst (-1), 1) := by decide +kernel
theorem dX12_findServed_150 : decode cX12_findServed 150 = .ok (.goto 6, 3) := by decide +kernel
theorem dX12_findServed_153 : decode cX12_findServed 153 = .ok (.iload_n 2, 1) := by decide +kernel
theorem dX12_findServed_154 : decode cX12_findServed 154 = .ok (.iconst (-1), 1) := by decide +kernel
theorem dX12_findServed_155 : decode cX12_findServed 155 = .ok (.ixor, 1) := by decide +kernel
theorem dX12_findServed_156 : decode cX12_findServed 156 = .ok (.iand, 1) := by decide +kernel
theorem dX12_findServed_157 : decode cX12_findServed 157 = .ok (.iastore, 1) := by decide +kernel
theorem dX12_findServed_158 : decode cX12_findServed 158 = .ok (.iinc 3 1, 3) := by decide +kernel
theorem dX12_findServed_161 : decode cX12_findServed 161 = .ok (.goto (-38), 3) := by decide +kernel
theorem dX12_findServed_164 : decode cX12_findServed 164 = .ok (.iinc 1 1, 3) := by decide +kernel
theorem dX12_findServed_167 : decode cX12_findServed 167 = .ok (.goto (-129), 3) := by decide +kernel
theorem dX12_findServed_170 : decode cX12_findServed 170 = .ok (.return_, 1) := by decide +kernel
theorem dX12_areOffers_0 : decode cX12_areOffers 0 = .ok (.iload_n 1, 1) := by decide +kernel
theorem dX12_areOffers_1 : decode cX12_areOffers 1 = .ok (.iconst 0, 1) := by decide +kernel
theorem dX12_areOffers_2 : decode cX12_areOffers 2 = .ok (.iconst 1, 1) := by decide +kernel
theorem dX12_areOffers_3 : decode cX12_areOffers 3 = .ok (.aload_n 0, 1) := by decide +kernel
theorem dX12_areOffers_4 : decode cX12_areOffers 4 = .ok (.getfield 220, 3) := by decide +kernel
theorem dX12_areOffers_7 : decode cX12_areOffers 7 = .ok (.ishl, 1) := by decide +kernel
theorem dX12_areOffers_8 : decode cX12_areOffers 8 = .ok (.iconst 1, 1) := by decide +kernel
theorem dX12_areOffers_9 : decode cX12_areOffers 9 = .ok (.isub, 1) := by decide +kernel
theorem dX12_areOffers_10 : decode cX12_areOffers 10 = .ok (.invokestatic 113, 3) := by decide +kernel
theorem dX12_areOffers_13 : decode cX12_areOffers 13 = .ok (.ireturn, 1) := by decide +kernel
theorem dX12_serves_0 : decode cX12_serves 0 = .ok (.aload_n 0, 1) := by decide +kernel
theorem dX12_serves_1 : decode cX12_serves 1 = .ok (.iload_n 1, 1) := by decide +kernel
theorem dX12_serves_2 : decode cX12_serves 2 = .ok (.invokevirtual 232, 3) := by decide +kernel
theorem dX12_serves_5 : decode cX12_serves 5 = .ok (.ifCond .ne 6, 3) := by decide +kernel
theorem dX12_serves_8 : decode cX12_serves 8 = .ok (.bipush (-2), 2) := by decide +kernel
theorem dX12_serves_10 : decode cX12_serves 10 = .ok (.ireturn, 1) := by decide +kernel
theorem dX12_serves_11 : decode cX12_serves 11 = .ok (.aload_n 0, 1) := by decide +kernel
theorem dX12_serves_12 : decode cX12_serves 12 = .ok (.invokevirtual 235, 3) := by decide +kernel
theorem dX12_serves_15 : decode cX12_serves 15 = .ok (.aload_n 0, 1) := by decide +kernel
theorem dX12_serves_16 : decode cX12_serves 16 = .ok (.getfield 71, 3) := by decide +kernel
theorem dX12_serves_19 : decode cX12_serves 19 = .ok (.iload_n 1, 1) := by decide +kernel
theorem dX12_serves_20 : decode cX12_serves 20 = .ok (.iaload, 1) := by decide +kernel
theorem dX12_serves_21 : decode cX12_serves 21 = .ok (.ireturn, 1) := by decide +kernel
theorem dX12_fewest_0 : decode cX12_fewest 0 = .ok (.aload_n 0, 1) := by decide +kernel
theorem dX12_fewest_1 : decode cX12_fewest 1 = .ok (.invokevirtual 235, 3) := by decide +kernel
theorem dX12_fewest_4 : decode cX12_fewest 4 = .ok (.bipush (-9), 2) := by decide +kernel
theorem dX12_fewest_6 : decode cX12_fewest 6 = .ok (.istore_n 1, 1) := by decide +kernel
theorem dX12_fewest_7 : decode cX12_fewest 7 = .ok (.iconst 0, 1) := by decide +kernel
theorem dX12_fewest_8 : decode cX12_fewest 8 = .ok (.istore_n 2, 1) := by decide +kernel
theorem dX12_fewest_9 : decode cX12_fewest 9 = .ok (.iload_n 2, 1) := by decide +kernel
theorem dX12_fewest_10 : decode cX12_fewest 10 = .ok (.iconst 1, 1) := by decide +kernel
theorem dX12_fewest_11 : decode cX12_fewest 11 = .ok (.aload_n 0, 1) := by decide +kernel
theorem dX12_fewest_12 : decode cX12_fewest 12 = .ok (.getfield 220, 3) := by decide +kernel
theorem dX12_fewest_15 : decode cX12_fewest 15 = .ok (.ishl, 1) := by decide +kernel
theorem dX12_fewest_16 : decode cX12_fewest 16 = .ok (.if_icmp .ge 45, 3) := by decide +kernel
theorem dX12_fewest_19 : decode cX12_fewest 19 = .ok (.aload_n 0, 1) := by decide +kernel
theorem dX12_fewest_20 : decode cX12_fewest 20 = .ok (.getfield 71, 3) := by decide +kernel
theorem dX12_fewest_23 : decode cX12_fewest 23 = .ok (.iload_n 2, 1) := by decide +kernel
theorem dX12_fewest_24 : decode cX12_fewest 24 = .ok (.iaload, 1) := by decide +kernel
theorem dX12_fewest_25 : decode cX12_fewest 25 = .ok (.iconst 1, 1) := by decide +kernel
theorem dX12_fewest_26 : decode cX12_fewest 26 = .ok (.aload_n 0, 1) := by decide +kernel
theorem dX12_fewest_27 : decode cX12_fewest 27 = .ok (.getfield 180, 3) := by decide +kernel
theorem dX12_fewest_30 : decode cX12_fewest 30 = .ok (.ishl, 1) := by decide +kernel
theorem dX12_fewest_31 : decode cX12_fewest 31 = .ok (.iconst 1, 1) := by decide +kernel
theorem dX12_fewest_32 : decode cX12_fewest 32 = .ok (.isub, 1) := by decide +kernel
theorem dX12_fewest_33 : decode cX12_fewest 33 = .ok (.if_icmp .ne 22, 3) := by decide +kernel
theorem dX12_fewest_36 : decode cX12_fewest 36 = .ok (.iload_n 1, 1) := by decide +kernel
theorem dX12_fewest_37 : decode cX12_fewest 37 = .ok (.bipush (-9), 2) := by decide +kernel
theorem dX12_fewest_39 : decode cX12_fewest 39 = .ok (.if_icmp .eq 14, 3) := by decide +kernel
theorem dX12_fewest_42 : decode cX12_fewest 42 = .ok (.iload_n 2, 1) := by decide +kernel
theorem dX12_fewest_43 : decode cX12_fewest 43 = .ok (.invokestatic 238, 3) := by decide +kernel
theorem dX12_fewest_46 : decode cX12_fewest 46 = .ok (.iload_n 1, 1) := by decide +kernel
theorem dX12_fewest_47 : decode cX12_fewest 47 = .ok (.invokestatic 238, 3) := by decide +kernel
theorem dX12_fewest_50 : decode cX12_fewest 50 = .ok (.if_icmp .ge 5, 3) := by decide +kernel
theorem dX12_fewest_53 : decode cX12_fewest 53 = .ok (.iload_n 2, 1) := by decide +kernel
theorem dX12_fewest_54 : decode cX12_fewest 54 = .ok (.istore_n 1, 1) := by decide +kernel
theorem dX12_fewest_55 : decode cX12_fewest 55 = .ok (.iinc 2 1, 3) := by decide +kernel
theorem dX12_fewest_58 : decode cX12_fewest 58 = .ok (.goto (-49), 3) := by decide +kernel
theorem dX12_fewest_61 : decode cX12_fewest 61 = .ok (.iload_n 1, 1) := by decide +kernel
theorem dX12_fewest_62 : decode cX12_fewest 62 = .ok (.ireturn, 1) := by decide +kernel
theorem dX12_most_0 : decode cX12_most 0 = .ok (.iload_n 1, 1) := by decide +kernel
theorem dX12_most_1 : decode cX12_most 1 = .ok (.iconst 0, 1) := by decide +kernel
theorem dX12_most_2 : decode cX12_most 2 = .ok (.bipush 12, 2) := by decide +kernel
theorem dX12_most_4 : decode cX12_most 4 = .ok (.invokestatic 113, 3) := by decide +kernel
theorem dX12_most_7 : decode cX12_most 7 = .ok (.ifCond .ne 6, 3) := by decide +kernel
theorem dX12_most_10 : decode cX12_most 10 = .ok (.bipush (-2), 2) := by decide +kernel
theorem dX12_most_12 : decode cX12_most 12 = .ok (.ireturn, 1) := by decide +kernel
theorem dX12_most_13 : decode cX12_most 13 = .ok (.aload_n 0, 1) := by decide +kernel
theorem dX12_most_14 : decode cX12_most 14 = .ok (.invokevirtual 235, 3) := by decide +kernel
theorem dX12_most_17 : decode cX12_most 17 = .ok (.iconst 0, 1) := by decide +kernel
theorem dX12_most_18 : decode cX12_most 18 = .ok (.istore_n 2, 1) := by decide +kernel
theorem dX12_most_19 : decode cX12_most 19 = .ok (.iconst 1, 1) := by decide +kernel
theorem dX12_most_20 : decode cX12_most 20 = .ok (.istore_n 3, 1) := by decide +kernel
theorem dX12_most_21 : decode cX12_most 21 = .ok (.iload_n 3, 1) := by decide +kernel
theorem dX12_most_22 : decode cX12_most 22 = .ok (.iconst 1, 1) := by decide +kernel
theorem dX12_most_23 : decode cX12_most 23 = .ok (.aload_n 0, 1) := by decide +kernel
theorem dX12_most_24 : decode cX12_most 24 = .ok (.getfield 220, 3) := by decide +kernel
theorem dX12_most_27 : decode cX12_most 27 = .ok (.ishl, 1) := by decide +kernel
theorem dX12_most_28 : decode cX12_most 28 = .ok (.if_icmp .ge 64, 3) := by decide +kernel
theorem dX12_most_31 : decode cX12_most 31 = .ok (.iload_n 3, 1) := by decide +kernel
theorem dX12_most_32 : decode cX12_most 32 = .ok (.invokestatic 238, 3) := by decide +kernel
theorem dX12_most_35 : decode cX12_most 35 = .ok (.iload_n 1, 1) := by decide +kernel
theorem dX12_most_36 : decode cX12_most 36 = .ok (.if_icmp .le 6, 3) := by decide +kernel
theorem dX12_most_39 : decode cX12_most 39 = .ok (.goto 47, 3) := by decide +kernel
theorem dX12_most_42 : decode cX12_most 42 = .ok (.aload_n 0, 1) := by decide +kernel
theorem dX12_most_43 : decode cX12_most 43 = .ok (.getfield 71, 3) := by decide +kernel
theorem dX12_most_46 : decode cX12_most 46 = .ok (.iload_n 3, 1) := by decide +kernel
theorem dX12_most_47 : decode cX12_most 47 = .ok (.iaload, 1) := by decide +kernel
theorem dX12_most_48 : decode cX12_most 48 = .ok (.invokestatic 238, 3) := by decide +kernel
theorem dX12_most_51 : decode cX12_most 51 = .ok (.aload_n 0, 1) := by decide +kernel
theorem dX12_most_52 : decode cX12_most 52 = .ok (.getfield 71, 3) := by decide +kernel
theorem dX12_most_55 : decode cX12_most 55 = .ok (.iload_n 2, 1) := by decide +kernel
theorem dX12_most_56 : decode cX12_most 56 = .ok (.iaload, 1) := by decide +kernel
theorem dX12_most_57 : decode cX12_most 57 = .ok (.invokestatic 238, 3) := by decide +kernel
theorem dX12_most_60 : decode cX12_most 60 = .ok (.isub, 1) := by decide +kernel
theorem dX12_most_61 : decode cX12_most 61 = .ok (.istore 4, 2) := by decide +kernel
theorem dX12_most_63 : decode cX12_most 63 = .ok (.iload 4, 2) := by decide +kernel
theorem dX12_most_65 : decode cX12_most 65 = .ok (.ifCond .gt 19, 3) := by decide +kernel
theorem dX12_most_68 : decode cX12_most 68 = .ok (.iload 4, 2) := by decide +kernel
theorem dX12_most_70 : decode cX12_most 70 = .ok (.ifCond .ne 16, 3) := by decide +kernel
theorem dX12_most_73 : decode cX12_most 73 = .ok (.iload_n 3, 1) := by decide +kernel
theorem dX12_most_74 : decode cX12_most 74 = .ok (.invokestatic 238, 3) := by decide +kernel
theorem dX12_most_77 : decode cX12_most 77 = .ok (.iload_n 2, 1) := by decide +kernel
theorem dX12_most_78 : decode cX12_most 78 = .ok (.invokestatic 238, 3) := by decide +kernel
theorem dX12_most_81 : decode cX12_most 81 = .ok (.if_icmp .ge 5, 3) := by decide +kernel
theorem dX12_most_84 : decode cX12_most 84 = .ok (.iload_n 3, 1) := by decide +kernel
theorem dX12_most_85 : decode cX12_most 85 = .ok (.istore_n 2, 1) := by decide +kernel
theorem dX12_most_86 : decode cX12_most 86 = .ok (.iinc 3 1, 3) := by decide +kernel
theorem dX12_most_89 : decode cX12_most 89 = .ok (.goto (-68), 3) := by decide +kernel
theorem dX12_most_92 : decode cX12_most 92 = .ok (.iload_n 2, 1) := by decide +kernel
theorem dX12_most_93 : decode cX12_most 93 = .ok (.ireturn, 1) := by decide +kernel
theorem dX12_build_0 : decode cX12_build 0 = .ok (.aload_n 0, 1) := by decide +kernel
theorem dX12_build_1 : decode cX12_build 1 = .ok (.iload_n 1, 1) := by decide +kernel
theorem dX12_build_2 : decode cX12_build 2 = .ok (.invokevirtual 232, 3) := by decide +kernel
theorem dX12_build_5 : decode cX12_build 5 = .ok (.ifCond .ne 6, 3) := by decide +kernel
theorem dX12_build_8 : decode cX12_build 8 = .ok (.bipush (-2), 2) := by decide +kernel
theorem dX12_build_10 : decode cX12_build 10 = .ok (.ireturn, 1) := by decide +kernel
theorem dX12_build_11 : decode cX12_build 11 = .ok (.aload_n 0, 1) := by decide +kernel
theorem dX12_build_12 : decode cX12_build 12 = .ok (.iconst 0, 1) := by decide +kernel
theorem dX12_build_13 : decode cX12_build 13 = .ok (.putfield 110, 3) := by decide +kernel
theorem dX12_build_16 : decode cX12_build 16 = .ok (.aload_n 0, 1) := by decide +kernel
theorem dX12_build_17 : decode cX12_build 17 = .ok (.iconst 0, 1) := by decide +kernel
theorem dX12_build_18 : decode cX12_build 18 = .ok (.putfield 241, 3) := by decide +kernel
theorem dX12_build_21 : decode cX12_build 21 = .ok (.iconst 0, 1) := by decide +kernel
theorem dX12_build_22 : decode cX12_build 22 = .ok (.istore_n 2, 1) := by decide +kernel
theorem dX12_build_23 : decode cX12_build 23 = .ok (.iload_n 2, 1) := by decide +kernel
theorem dX12_build_24 : decode cX12_build 24 = .ok (.aload_n 0, 1) := by decide +kernel
theorem dX12_build_25 : decode cX12_build 25 = .ok (.getfield 220, 3) := by decide +kernel
theorem dX12_build_28 : decode cX12_build 28 = .ok (.if_icmp .ge 29, 3) := by decide +kernel
theorem dX12_build_31 : decode cX12_build 31 = .ok (.iload_n 1, 1) := by decide +kernel
theorem dX12_build_32 : decode cX12_build 32 = .ok (.iload_n 2, 1) := by decide +kernel
theorem dX12_build_33 : decode cX12_build 33 = .ok (.ishr, 1) := by decide +kernel
theorem dX12_build_34 : decode cX12_build 34 = .ok (.iconst 1, 1) := by decide +kernel
theorem dX12_build_35 : decode cX12_build 35 = .ok (.iand, 1) := by decide +kernel
theorem dX12_build_36 : decode cX12_build 36 = .ok (.iconst 1, 1) := by decide +kernel
theorem dX12_build_37 : decode cX12_build 37 = .ok (.if_icmp .ne 14, 3) := by decide +kernel
theorem dX12_build_40 : decode cX12_build 40 = .ok (.aload_n 0, 1) := by decide +kernel
theorem dX12_build_41 : decode cX12_build 41 = .ok (.aload_n 0, 1) := by decide +kernel
theorem dX12_build_42 : decode cX12_build 42 = .ok (.getfield 62, 3) := by decide +kernel
theorem dX12_build_45 : decode cX12_build 45 = .ok (.iload_n 2, 1) := by decide +kernel
theorem dX12_build_46 : decode cX12_build 46 = .ok (.iaload, 1) := by decide +kernel
theorem dX12_build_47 : decode cX12_build 47 = .ok (.invokevirtual 145, 3) := by decide +kernel
theorem dX12_build_50 : decode cX12_build 50 = .ok (.istore_n 3, 1) := by decide +kernel
theorem dX12_build_51 : decode cX12_build 51 = .ok (.iinc 2 1, 3) := by decide +kernel
theorem dX12_build_54 : decode cX12_build 54 = .ok (.goto (-31), 3) := by decide +kernel
theorem dX12_build_57 : decode cX12_build 57 = .ok (.aload_n 0, 1) := by decide +kernel
theorem dX12_build_58 : decode cX12_build 58 = .ok (.getfield 110, 3) := by decide +kernel
theorem dX12_build_61 : decode cX12_build 61 = .ok (.ireturn, 1) := by decide +kernel
theorem dX12_change_0 : decode cX12_change 0 = .ok (.aload_n 0, 1) := by decide +kernel
theorem dX12_change_1 : decode cX12_change 1 = .ok (.iload_n 1, 1) := by decide +kernel
theorem dX12_change_2 : decode cX12_change 2 = .ok (.invokevirtual 148, 3) := by decide +kernel
theorem dX12_change_5 : decode cX12_change 5 = .ok (.ifCond .eq 11, 3) := by decide +kernel
theorem dX12_change_8 : decode cX12_change 8 = .ok (.aload_n 0, 1) := by decide +kernel
theorem dX12_change_9 : decode cX12_change 9 = .ok (.iload_n 2, 1) := by decide +kernel
theorem dX12_change_10 : decode cX12_change 10 = .ok (.invokevirtual 148, 3) := by decide +kernel
theorem dX12_change_13 : decode cX12_change 13 = .ok (.ifCond .ne 5, 3) := by decide +kernel
theorem dX12_change_16 : decode cX12_change 16 = .ok (.iconst (-1), 1) := by decide +kernel
theorem dX12_change_17 : decode cX12_change 17 = .ok (.ireturn, 1) := by decide +kernel
theorem dX12_change_18 : decode cX12_change 18 = .ok (.aload_n 0, 1) := by decide +kernel
theorem dX12_change_19 : decode cX12_change 19 = .ok (.getfield 23, 3) := by decide +kernel
theorem dX12_change_22 : decode cX12_change 22 = .ok (.iload_n 1, 1) := by decide +kernel
theorem dX12_change_23 : decode cX12_change 23 = .ok (.iaload, 1) := by decide +kernel
theorem dX12_change_24 : decode cX12_change 24 = .ok (.istore_n 3, 1) := by decide +kernel
theorem dX12_change_25 : decode cX12_change 25 = .ok (.aload_n 0, 1) := by decide +kernel
theorem dX12_change_26 : decode cX12_change 26 = .ok (.getfield 23, 3) := by decide +kernel
theorem dX12_change_29 : decode cX12_change 29 = .ok (.iload_n 1, 1) := by decide +kernel
theorem dX12_change_30 : decode cX12_change 30 = .ok (.aload_n 0, 1) := by decide +kernel
theorem dX12_change_31 : decode cX12_change 31 = .ok (.getfield 23, 3) := by decide +kernel
theorem dX12_change_34 : decode cX12_change 34 = .ok (.iload_n 2, 1) := by decide +kernel
theorem dX12_change_35 : decode cX12_change 35 = .ok (.iaload, 1) := by decide +kernel
theorem dX12_change_36 : decode cX12_change 36 = .ok (.iastore, 1) := by decide +kernel
theorem dX12_change_37 : decode cX12_change 37 = .ok (.aload_n 0, 1) := by decide +kernel
theorem dX12_change_38 : decode cX12_change 38 = .ok (.getfield 23, 3) := by decide +kernel
theorem dX12_change_41 : decode cX12_change 41 = .ok (.iload_n 2, 1) := by decide +kernel
theorem dX12_change_42 : decode cX12_change 42 = .ok (.iload_n 3, 1) := by decide +kernel
theorem dX12_change_43 : decode cX12_change 43 = .ok (.iastore, 1) := by decide +kernel
theorem dX12_change_44 : decode cX12_change 44 = .ok (.iload_n 1, 1) := by decide +kernel
theorem dX12_change_45 : decode cX12_change 45 = .ok (.iload_n 2, 1) := by decide +kernel
theorem dX12_change_46 : decode cX12_change 46 = .ok (.if_icmp .ne 7, 3) := by decide +kernel
theorem dX12_change_49 : decode cX12_change 49 = .ok (.iconst 0, 1) := by decide +kernel
theorem dX12_change_50 : decode cX12_change 50 = .ok (.goto 4, 3) := by decide +kernel
theorem dX12_change_53 : decode cX12_change 53 = .ok (.iconst 1, 1) := by decide +kernel
theorem dX12_change_54 : decode cX12_change 54 = .ok (.ireturn, 1) := by decide +kernel
theorem dX12_findOften_0 : decode cX12_findOften 0 = .ok (.aload_n 0, 1) := by decide +kernel
theorem dX12_findOften_1 : decode cX12_findOften 1 = .ok (.invokevirtual 177, 3) := by decide +kernel
theorem dX12_findOften_4 : decode cX12_findOften 4 = .ok (.iconst 0, 1) := by decide +kernel
theorem dX12_findOften_5 : decode cX12_findOften 5 = .ok (.istore_n 1, 1) := by decide +kernel
theorem dX12_findOften_6 : decode cX12_findOften 6 = .ok (.iload_n 1, 1) := by decide +kernel
theorem dX12_findOften_7 : decode cX12_findOften 7 = .ok (.sipush 144, 3) := by decide +kernel
theorem dX12_findOften_10 : decode cX12_findOften 10 = .ok (.if_icmp .ge 16, 3) := by decide +kernel
theorem dX12_findOften_13 : decode cX12_findOften 13 = .ok (.aload_n 0, 1) := by decide +kernel
theorem dX12_findOften_14 : decode cX12_findOften 14 = .ok (.getfield 74, 3) := by decide +kernel
theorem dX12_findOften_17 : decode cX12_findOften 17 = .ok (.iload_n 1, 1) := by decide +kernel
theorem dX12_findOften_18 : decode cX12_findOften 18 = .ok (.iconst 0, 1) := by decide +kernel
theorem dX12_findOften_19 : decode cX12_findOften 19 = .ok (.iastore, 1) := by decide +kernel
theorem dX12_findOften_20 : decode cX12_findOften 20 = .ok (.iinc 1 1, 3) := by decide +kernel
theorem dX12_findOften_23 : decode cX12_findOften 23 = .ok (.goto (-17), 3) := by decide +kernel
theorem dX12_findOften_26 : decode cX12_findOften 26 = .ok (.iconst 0, 1) := by decide +kernel
theorem dX12_findOften_27 : decode cX12_findOften 27 = .ok (.istore_n 1, 1) := by decide +kernel
theorem dX12_findOften_28 : decode cX12_findOften 28 = .ok (.iload_n 1, 1) := by decide +kernel
theorem dX12_findOften_29 : decode cX12_findOften 29 = .ok (.aload_n 0, 1) := by decide +kernel
theorem dX12_findOften_30 : decode cX12_findOften 30 = .ok (.getfield 180, 3) := by decide +kernel
theorem dX12_findOften_33 : decode cX12_findOften 33 = .ok (.if_icmp .ge 111, 3) := by decide +kernel
theorem dX12_findOften_36 : decode cX12_findOften 36 = .ok (.iconst 1, 1) := by decide +kernel
theorem dX12_findOften_37 : decode cX12_findOften 37 = .ok (.istore_n 2, 1) := by decide +kernel
theorem dX12_findOften_38 : decode cX12_findOften 38 = .ok (.iload_n 2, 1) := by decide +kernel
theorem dX12_findOften_39 : decode cX12_findOften 39 = .ok (.aload_n 0, 1) := by decide +kernel
theorem dX12_findOften_40 : decode cX12_findOften 40 = .ok (.getfield 41, 3) := by decide +kernel
theorem dX12_findOften_43 : decode cX12_findOften 43 = .ok (.iload_n 1, 1) := by decide +kernel
theorem dX12_findOften_44 : decode cX12_findOften 44 = .ok (.iaload, 1) := by decide +kernel
theorem dX12_findOften_45 : decode cX12_findOften 45 = .ok (.if_icmp .ge 93, 3) := by decide +kernel
theorem dX12_findOften_48 : decode cX12_findOften 48 = .ok (.aload_n 0, 1) := by decide +kernel
theorem dX12_findOften_49 : decode cX12_findOften 49 = .ok (.getfield 35, 3) := by decide +kernel
theorem dX12_findOften_52 : decode cX12_findOften 52 = .ok (.aload_n 0, 1) := by decide +kernel
theorem dX12_findOften_53 : decode cX12_findOften 53 = .ok (.iload_n 1, 1) := by decide +kernel
theorem dX12_findOften_54 : decode cX12_findOften 54 = .ok (.iload_n 2, 1) := by decide +kernel
theorem dX12_findOften_55 : decode cX12_findOften 55 = .ok (.iconst 1, 1) := by decide +kernel
theorem dX12_findOften_56 : decode cX12_findOften 56 = .ok (.isub, 1) := by decide +kernel
theorem dX12_findOften_57 : decode cX12_findOften 57 = .ok (.aload_n 0, 1) := by decide +kernel
theorem dX12_findOften_58 : decode cX12_findOften 58 = .ok (.getfield 44, 3) := by decide +kernel
theorem dX12_findOften_61 : decode cX12_findOften 61 = .ok (.iload_n 1, 1) := by decide +kernel
theorem dX12_findOften_62 : decode cX12_findOften 62 = .ok (.iaload, 1) := by decide +kernel
theorem dX12_findOften_63 : decode cX12_findOften 63 = .ok (.invokevirtual 191, 3) := by decide +kernel
theorem dX12_findOften_66 : decode cX12_findOften 66 = .ok (.iaload, 1) := by decide +kernel
theorem dX12_findOften_67 : decode cX12_findOften 67 = .ok (.istore_n 3, 1) := by decide +kernel
theorem dX12_findOften_68 : decode cX12_findOften 68 = .ok (.aload_n 0, 1) := by decide +kernel
theorem dX12_findOften_69 : decode cX12_findOften 69 = .ok (.getfield 35, 3) := by decide +kernel
theorem dX12_findOften_72 : decode cX12_findOften 72 = .ok (.aload_n 0, 1) := by decide +kernel
theorem dX12_findOften_73 : decode cX12_findOften 73 = .ok (.iload_n 1, 1) := by decide +kernel
theorem dX12_findOften_74 : decode cX12_findOften 74 = .ok (.iload_n 2, 1) := by decide +kernel
theorem dX12_findOften_75 : decode cX12_findOften 75 = .ok (.aload_n 0, 1) := by decide +kernel
theorem dX12_findOften_76 : decode cX12_findOften 76 = .ok (.getfield 44, 3) := by decide +kernel
theorem dX12_findOften_79 : decode cX12_findOften 79 = .ok (.iload_n 1, 1) := by decide +kernel
theorem dX12_findOften_80 : decode cX12_findOften 80 = .ok (.iaload, 1) := by decide +kernel
theorem dX12_findOften_81 : decode cX12_findOften 81 = .ok (.invokevirtual 191, 3) := by decide +kernel
theorem dX12_findOften_84 : decode cX12_findOften 84 = .ok (.iaload, 1) := by decide +kernel
theorem dX12_findOften_85 : decode cX12_findOften 85 = .ok (.istore 4, 2) := by decide +kernel
theorem dX12_findOften_87 : decode cX12_findOften 87 = .ok (.iload_n 3, 1) := by decide +kernel
theorem dX12_findOften_88 : decode cX12_findOften 88 = .ok (.bipush (-9), 2) := by decide +kernel
theorem dX12_findOften_90 : decode cX12_findOften 90 = .ok (.if_icmp .eq 42, 3) := by decide +kernel
theorem dX12_findOften_93 : decode cX12_findOften 93 = .ok (.iload 4, 2) := by decide +kernel
theorem dX12_findOften_95 : decode cX12_findOften 95 = .ok (.bipush (-9), 2) := by decide +kernel
theorem dX12_findOften_97 : decode cX12_findOften 97 = .ok (.if_icmp .eq 35, 3) := by decide +kernel
theorem dX12_findOften_100 : decode cX12_findOften 100 = .ok (.aload_n 0, 1) := by decide +kernel
theorem dX12_findOften_101 : decode cX12_findOften 101 = .ok (.getfield 74, 3) := by decide +kernel
theorem dX12_findOften_104 : decode cX12_findOften 104 = .ok (.bipush 12, 2) := by decide +kernel
theorem dX12_findOften_106 : decode cX12_findOften 106 = .ok (.aload_n 0, 1) := by decide +kernel
theorem dX12_findOften_107 : decode cX12_findOften 107 = .ok (.getfield 29, 3) := by decide +kernel
theorem dX12_findOften_110 : decode cX12_findOften 110 = .ok (.iload_n 3, 1) := by decide +kernel
theorem dX12_findOften_111 : decode cX12_findOften 111 = .ok (.iaload, 1) := by decide +kernel
theorem dX12_findOften_112 : decode cX12_findOften 112 = .ok (.invokestatic 223, 3) := by decide +kernel
theorem dX12_findOften_115 : decode cX12_findOften 115 = .ok (.imul, 1) := by decide +kernel
theorem dX12_findOften_116 : decode cX12_findOften 116 = .ok (.aload_n 0, 1) := by decide +kernel
theorem dX12_findOften_117 : decode cX12_findOften 117 = .ok (.getfield 29, 3) := by decide +kernel
theorem dX12_findOften_120 : decode cX12_findOften 120 = .ok (.iload 4, 2) := by decide +kernel
theorem dX12_findOften_122 : decode cX12_findOften 122 = .ok (.iaload, 1) := by decide +kernel
theorem dX12_findOften_123 : decode cX12_findOften 123 = .ok (.invokestatic 223, 3) := by decide +kernel
theorem dX12_findOften_126 : decode cX12_findOften 126 = .ok (.iadd, 1) := by decide +kernel
theorem dX12_findOften_127 : decode cX12_findOften 127 = .ok (.dup2, 1) := by decide +kernel
theorem dX12_findOften_128 : decode cX12_findOften 128 = .ok (.iaload, 1) := by decide +kernel
theorem dX12_findOften_129 : decode cX12_findOften 129 = .ok (.iconst 1, 1) := by decide +kernel
theorem dX12_findOften_130 : decode cX12_findOften 130 = .ok (.iadd, 1) := by decide +kernel
theorem dX12_findOften_131 : decode cX12_findOften 131 = .ok (.iastore, 1) := by decide +kernel
theorem dX12_findOften_132 : decode cX12_findOften 132 = .ok (.iinc 2 1, 3) := by decide +kernel
theorem dX12_findOften_135 : decode cX12_findOften 135 = .ok (.goto (-97), 3) := by decide +kernel
theorem dX12_findOften_138 : decode cX12_findOften 138 = .ok (.iinc 1 1, 3) := by decide +kernel
theorem dX12_findOften_141 : decode cX12_findOften 141 = .ok (.goto (-113), 3) := by decide +kernel
theorem dX12_findOften_144 : decode cX12_findOften 144 = .ok (.return_, 1) := by decide +kernel
theorem dX12_way_0 : decode cX12_way 0 = .ok (.aload_n 0, 1) := by decide +kernel
theorem dX12_way_1 : decode cX12_way 1 = .ok (.invokevirtual 244, 3) := by decide +kernel
theorem dX12_way_4 : decode cX12_way 4 = .ok (.iconst 0, 1) := by decide +kernel
theorem dX12_way_5 : decode cX12_way 5 = .ok (.istore_n 1, 1) := by decide +kernel
theorem dX12_way_6 : decode cX12_way 6 = .ok (.iconst 0, 1) := by decide +kernel
theorem dX12_way_7 : decode cX12_way 7 = .ok (.istore_n 2, 1) := by decide +kernel
theorem dX12_way_8 : decode cX12_way 8 = .ok (.iload_n 2, 1) := by decide +kernel
theorem dX12_way_9 : decode cX12_way 9 = .ok (.aload_n 0, 1) := by decide +kernel
theorem dX12_way_10 : decode cX12_way 10 = .ok (.getfield 110, 3) := by decide +kernel
theorem dX12_way_13 : decode cX12_way 13 = .ok (.if_icmp .ge 68, 3) := by decide +kernel
theorem dX12_way_16 : decode cX12_way 16 = .ok (.iconst 0, 1) := by decide +kernel
theorem dX12_way_17 : decode cX12_way 17 = .ok (.istore_n 3, 1) := by decide +kernel
theorem dX12_way_18 : decode cX12_way 18 = .ok (.iload_n 3, 1) := by decide +kernel
theorem dX12_way_19 : decode cX12_way 19 = .ok (.aload_n 0, 1) := by decide +kernel
theorem dX12_way_20 : decode cX12_way 20 = .ok (.getfield 110, 3) := by decide +kernel
theorem dX12_way_23 : decode cX12_way 23 = .ok (.if_icmp .ge 52, 3) := by decide +kernel
theorem dX12_way_26 : decode cX12_way 26 = .ok (.aload_n 0, 1) := by decide +kernel
theorem dX12_way_27 : decode cX12_way 27 = .ok (.getfield 23, 3) := by decide +kernel
theorem dX12_way_30 : decode cX12_way 30 = .ok (.iload_n 2, 1) := by decide +kernel
theorem dX12_way_31 : decode cX12_way 31 = .ok (.iaload, 1) := by decide +kernel
theorem dX12_way_32 : decode cX12_way 32 = .ok (.aload_n 0, 1) := by decide +kernel
theorem dX12_way_33 : decode cX12_way 33 = .ok (.getfield 23, 3) := by decide +kernel
theorem dX12_way_36 : decode cX12_way 36 = .ok (.iload_n 3, 1) := by decide +kernel
theorem dX12_way_37 : decode cX12_way 37 = .ok (.iaload, 1) := by decide +kernel
theorem dX12_way_38 : decode cX12_way 38 = .ok (.isub, 1) := by decide +kernel
theorem dX12_way_39 : decode cX12_way 39 = .ok (.istore 4, 2) := by decide +kernel
theorem dX12_way_41 : decode cX12_way 41 = .ok (.iload_n 1, 1) := by decide +kernel
theorem dX12_way_42 : decode cX12_way 42 = .ok (.aload_n 0, 1) := by decide +kernel
theorem dX12_way_43 : decode cX12_way 43 = .ok (.getfield 74, 3) := by decide +kernel
theorem dX12_way_46 : decode cX12_way 46 = .ok (.bipush 12, 2) := by decide +kernel
theorem dX12_way_48 : decode cX12_way 48 = .ok (.iload_n 2, 1) := by decide +kernel
theorem dX12_way_49 : decode cX12_way 49 = .ok (.imul, 1) := by decide +kernel
theorem dX12_way_50 : decode cX12_way 50 = .ok (.iload_n 3, 1) := by decide +kernel
theorem dX12_way_51 : decode cX12_way 51 = .ok (.iadd, 1) := by decide +kernel
theorem dX12_way_52 : decode cX12_way 52 = .ok (.iaload, 1) := by decide +kernel
theorem dX12_way_53 : decode cX12_way 53 = .ok (.iload 4, 2) := by decide +kernel
theorem dX12_way_55 : decode cX12_way 55 = .ok (.ifCond .ge 9, 3) := by decide +kernel
theorem dX12_way_58 : decode cX12_way 58 = .ok (.iload 4, 2) := by decide +kernel
theorem dX12_way_60 : decode cX12_way 60 = .ok (.ineg, 1) := by decide +kernel
theorem dX12_way_61 : decode cX12_way 61 = .ok (.goto 5, 3) := by decide +kernel
theorem dX12_way_64 : decode cX12_way 64 = .ok (.iload 4, 2) := by decide +kernel
theorem dX12_way_66 : decode cX12_way 66 = .ok (.imul, 1) := by decide +kernel
theorem dX12_way_67 : decode cX12_way 67 = .ok (.iadd, 1) := by decide +kernel
theorem dX12_way_68 : decode cX12_way 68 = .ok (.istore_n 1, 1) := by decide +kernel
theorem dX12_way_69 : decode cX12_way 69 = .ok (.iinc 3 1, 3) := by decide +kernel
theorem dX12_way_72 : decode cX12_way 72 = .ok (.goto (-54), 3) := by decide +kernel
theorem dX12_way_75 : decode cX12_way 75 = .ok (.iinc 2 1, 3) := by decide +kernel
theorem dX12_way_78 : decode cX12_way 78 = .ok (.goto (-70), 3) := by decide +kernel
theorem dX12_way_81 : decode cX12_way 81 = .ok (.iload_n 1, 1) := by decide +kernel
theorem dX12_way_82 : decode cX12_way 82 = .ok (.ireturn, 1) := by decide +kernel
theorem dX12_findLeast_0 : decode cX12_findLeast 0 = .ok (.aload_n 0, 1) := by decide +kernel
theorem dX12_findLeast_1 : decode cX12_findLeast 1 = .ok (.invokevirtual 244, 3) := by decide +kernel
theorem dX12_findLeast_4 : decode cX12_findLeast 4 = .ok (.iconst 1, 1) := by decide +kernel
theorem dX12_findLeast_5 : decode cX12_findLeast 5 = .ok (.aload_n 0, 1) := by decide +kernel
theorem dX12_findLeast_6 : decode cX12_findLeast 6 = .ok (.getfield 110, 3) := by decide +kernel
theorem dX12_findLeast_9 : decode cX12_findLeast 9 = .ok (.ishl, 1) := by decide +kernel
theorem dX12_findLeast_10 : decode cX12_findLeast 10 = .ok (.iconst 1, 1) := by decide +kernel
theorem dX12_findLeast_11 : decode cX12_findLeast 11 = .ok (.isub, 1) := by decide +kernel
theorem dX12_findLeast_12 : decode cX12_findLeast 12 = .ok (.istore_n 1, 1) := by decide +kernel
theorem dX12_findLeast_13 : decode cX12_findLeast 13 = .ok (.iconst 0, 1) := by decide +kernel
theorem dX12_findLeast_14 : decode cX12_findLeast 14 = .ok (.istore_n 2, 1) := by decide +kernel
theorem dX12_findLeast_15 : decode cX12_findLeast 15 = .ok (.iload_n 2, 1) := by decide +kernel
theorem dX12_findLeast_16 : decode cX12_findLeast 16 = .ok (.iload_n 1, 1) := by decide +kernel
theorem dX12_findLeast_17 : decode cX12_findLeast 17 = .ok (.if_icmp .gt 89, 3) := by decide +kernel
theorem dX12_findLeast_20 : decode cX12_findLeast 20 = .ok (.aload_n 0, 1) := by decide +kernel
theorem dX12_findLeast_21 : decode cX12_findLeast 21 = .ok (.getfield 77, 3) := by decide +kernel
theorem dX12_findLeast_24 : decode cX12_findLeast 24 = .ok (.iload_n 2, 1) := by decide +kernel
theorem dX12_findLeast_25 : decode cX12_findLeast 25 = .ok (.iconst 0, 1) := by decide +kernel
theorem dX12_findLeast_26 : decode cX12_findLeast 26 = .ok (.iastore, 1) := by decide +kernel
theorem dX12_findLeast_27 : decode cX12_findLeast 27 = .ok (.iconst 0, 1) := by decide +kernel
theorem dX12_findLeast_28 : decode cX12_findLeast 28 = .ok (.istore_n 3, 1) := by decide +kernel
theorem dX12_findLeast_29 : decode cX12_findLeast 29 = .ok (.iload_n 3, 1) := by decide +kernel
theorem dX12_findLeast_30 : decode cX12_findLeast 30 = .ok (.aload_n 0, 1) := by decide +kernel
theorem dX12_findLeast_31 : decode cX12_findLeast 31 = .ok (.getfield 110, 3) := by decide +kernel
theorem dX12_findLeast_34 : decode cX12_findLeast 34 = .ok (.if_icmp .ge 66, 3) := by decide +kernel
theorem dX12_findLeast_37 : decode cX12_findLeast 37 = .ok (.iconst 0, 1) := by decide +kernel
theorem dX12_findLeast_38 : decode cX12_findLeast 38 = .ok (.istore 4, 2) := by decide +kernel
theorem dX12_findLeast_40 : decode cX12_findLeast 40 = .ok (.iload 4, 2) := by decide +kernel
theorem dX12_findLeast_42 : decode cX12_findLeast 42 = .ok (.aload_n 0, 1) := by decide +kernel
theorem dX12_findLeast_43 : decode cX12_findLeast 43 = .ok (.getfield 110, 3) := by decide +kernel
theorem dX12_findLeast_46 : decode cX12_findLeast 46 = .ok (.if_icmp .ge 48, 3) := by decide +kernel
theorem dX12_findLeast_49 : decode cX12_findLeast 49 = .ok (.aload_n 0, 1) := by decide +kernel
theorem dX12_findLeast_50 : decode cX12_findLeast 50 = .ok (.getfield 77, 3) := by decide +kernel
theorem dX12_findLeast_53 : decode cX12_findLeast 53 = .ok (.iload_n 2, 1) := by decide +kernel
theorem dX12_findLeast_54 : decode cX12_findLeast 54 = .ok (.dup2, 1) := by decide +kernel
theorem dX12_findLeast_55 : decode cX12_findLeast 55 = .ok (.iaload, 1) := by decide +kernel
theorem dX12_findLeast_56 : decode cX12_findLeast 56 = .ok (.iload_n 2, 1) := by decide +kernel
theorem dX12_findLeast_57 : decode cX12_findLeast 57 = .ok (.iload_n 3, 1) := by decide +kernel
theorem dX12_findLeast_58 : decode cX12_findLeast 58 = .ok (.ishr, 1) := by decide +kernel
theorem dX12_findLeast_59 : decode cX12_findLeast 59 = .ok (.iconst 1, 1) := by decide +kernel
theorem dX12_findLeast_60 : decode cX12_findLeast 60 = .ok (.iand, 1) := by decide +kernel
theorem dX12_findLeast_61 : decode cX12_findLeast 61 = .ok (.iload_n 2, 1) := by decide +kernel
theorem dX12_findLeast_62 : decode cX12_findLeast 62 = .ok (.iload 4, 2) := by decide +kernel
theorem dX12_findLeast_64 : decode cX12_findLeast 64 = .ok (.ishr, 1) := by decide +kernel
theorem dX12_findLeast_65 : decode cX12_findLeast 65 = .ok (.iconst 1, 1) := by decide +kernel
theorem dX12_findLeast_66 : decode cX12_findLeast 66 = .ok (.iand, 1) := by decide +kernel
theorem dX12_findLeast_67 : decode cX12_findLeast 67 = .ok (.if_icmp .eq 18, 3) := by decide +kernel
theorem dX12_findLeast_70 : decode cX12_findLeast 70 = .ok (.aload_n 0, 1) := by decide +kernel
theorem dX12_findLeast_71 : decode cX12_findLeast 71 = .ok (.getfield 74, 3) := by decide +kernel
theorem dX12_findLeast_74 : decode cX12_findLeast 74 = .ok (.bipush 12, 2) := by decide +kernel
theorem dX12_findLeast_76 : decode cX12_findLeast 76 = .ok (.iload_n 3, 1) := by decide +kernel
theorem dX12_findLeast_77 : decode cX12_findLeast 77 = .ok (.imul, 1) := by decide +kernel
theorem dX12_findLeast_78 : decode cX12_findLeast 78 = .ok (.iload 4, 2) := by decide +kernel
theorem dX12_findLeast_80 : decode cX12_findLeast 80 = .ok (.iadd, 1) := by decide +kernel
theorem dX12_findLeast_81 : decode cX12_findLeast 81 = .ok (.iaload, 1) := by decide +kernel
theorem dX12_findLeast_82 : decode cX12_findLeast 82 = .ok (.goto 4, 3) := by decide +kernel
theorem dX12_findLeast_85 : decode cX12_findLeast 85 = .ok (.iconst 0, 1) := by decide +kernel
theorem dX12_findLeast_86 : decode cX12_findLeast 86 = .ok (.iadd, 1) := by decide +kernel
theorem dX12_findLeast_87 : decode cX12_findLeast 87 = .ok (.iastore, 1) := by decide +kernel
theorem dX12_findLeast_88 : decode cX12_findLeast 88 = .ok (.iinc 4 1, 3) := by decide +kernel
theorem dX12_findLeast_91 : decode cX12_findLeast 91 = .ok (.goto (-51), 3) := by decide +kernel
theorem dX12_findLeast_94 : decode cX12_findLeast 94 = .ok (.iinc 3 1, 3) := by decide +kernel
theorem dX12_findLeast_97 : decode cX12_findLeast 97 = .ok (.goto (-68), 3) := by decide +kernel
theorem dX12_findLeast_100 : decode cX12_findLeast 100 = .ok (.iinc 2 1, 3) := by decide +kernel
theorem dX12_findLeast_103 : decode cX12_findLeast 103 = .ok (.goto (-88), 3) := by decide +kernel
theorem dX12_findLeast_106 : decode cX12_findLeast 106 = .ok (.aload_n 0, 1) := by decide +kernel
theorem dX12_findLeast_107 : decode cX12_findLeast 107 = .ok (.getfield 80, 3) := by decide +kernel
theorem dX12_findLeast_110 : decode cX12_findLeast 110 = .ok (.iload_n 1, 1) := by decide +kernel
theorem dX12_findLeast_111 : decode cX12_findLeast 111 = .ok (.iconst 0, 1) := by decide +kernel
theorem dX12_findLeast_112 : decode cX12_findLeast 112 = .ok (.iastore, 1) := by decide +kernel
theorem dX12_findLeast_113 : decode cX12_findLeast 113 = .ok (.iload_n 1, 1) := by decide +kernel
theorem dX12_findLeast_114 : decode cX12_findLeast 114 = .ok (.iconst 1, 1) := by decide +kernel
theorem dX12_findLeast_115 : decode cX12_findLeast 115 = .ok (.isub, 1) := by decide +kernel
theorem dX12_findLeast_116 : decode cX12_findLeast 116 = .ok (.istore_n 2, 1) := by decide +kernel
theorem dX12_findLeast_117 : decode cX12_findLeast 117 = .ok (.iload_n 2, 1) := by decide +kernel
theorem dX12_findLeast_118 : decode cX12_findLeast 118 = .ok (.ifCond .lt 93, 3) := by decide +kernel
theorem dX12_findLeast_121 : decode cX12_findLeast 121 = .ok (.aload_n 0, 1) := by decide +kernel
theorem dX12_findLeast_122 : decode cX12_findLeast 122 = .ok (.getfield 80, 3) := by decide +kernel
theorem dX12_findLeast_125 : decode cX12_findLeast 125 = .ok (.iload_n 2, 1) := by decide +kernel
theorem dX12_findLeast_126 : decode cX12_findLeast 126 = .ok (.ldc 247, 2) := by decide +kernel
theorem dX12_findLeast_128 : decode cX12_findLeast 128 = .ok (.iastore, 1) := by decide +kernel
theorem dX12_findLeast_129 : decode cX12_findLeast 129 = .ok (.iconst 0, 1) := by decide +kernel
theorem dX12_findLeast_130 : decode cX12_findLeast 130 = .ok (.istore_n 3, 1) := by decide +kernel
theorem dX12_findLeast_131 : decode cX12_findLeast 131 = .ok (.iload_n 3, 1) := by decide +kernel
theorem dX12_findLeast_132 : decode cX12_findLeast 132 = .ok (.aload_n 0, 1) := by decide +kernel
theorem dX12_findLeast_133 : decode cX12_findLeast 133 = .ok (.getfield 110, 3) := by decide +kernel
theorem dX12_findLeast_136 : decode cX12_findLeast 136 = .ok (.if_icmp .ge 69, 3) := by decide +kernel
theorem dX12_findLeast_139 : decode cX12_findLeast 139 = .ok (.iload_n 2, 1) := by decide +kernel
theorem dX12_findLeast_140 : decode cX12_findLeast 140 = .ok (.iload_n 3, 1) := by decide +kernel
theorem dX12_findLeast_141 : decode cX12_findLeast 141 = .ok (.ishr, 1) := by decide +kernel
theorem dX12_findLeast_142 : decode cX12_findLeast 142 = .ok (.iconst 1, 1) := by decide +kernel
theorem dX12_findLeast_143 : decode cX12_findLeast 143 = .ok (.iand, 1) := by decide +kernel
theorem dX12_findLeast_144 : decode cX12_findLeast 144 = .ok (.ifCond .ne 55, 3) := by decide +kernel
theorem dX12_findLeast_147 : decode cX12_findLeast 147 = .ok (.iload_n 2, 1) := by decide +kernel
theorem dX12_findLeast_148 : decode cX12_findLeast 148 = .ok (.iconst 1, 1) := by decide +kernel
theorem dX12_findLeast_149 : decode cX12_findLeast 149 = .ok (.iload_n 3, 1) := by decide +kernel
theorem dX12_findLeast_150 : decode cX12_findLeast 150 = .ok (.ishl, 1) := by decide +kernel
theorem dX12_findLeast_151 : decode cX12_findLeast 151 = .ok (.ior, 1) := by decide +kernel
theorem dX12_findLeast_152 : decode cX12_findLeast 152 = .ok (.istore 4, 2) := by decide +kernel
theorem dX12_findLeast_154 : decode cX12_findLeast 154 = .ok (.aload_n 0, 1) := by decide +kernel
theorem dX12_findLeast_155 : decode cX12_findLeast 155 = .ok (.getfield 77, 3) := by decide +kernel
theorem dX12_findLeast_158 : decode cX12_findLeast 158 = .ok (.iload 4, 2) := by decide +kernel
theorem dX12_findLeast_160 : decode cX12_findLeast 160 = .ok (.iaload, 1) := by decide +kernel
theorem dX12_findLeast_161 : decode cX12_findLeast 161 = .ok (.aload_n 0, 1) := by decide +kernel
theorem dX12_findLeast_162 : decode cX12_findLeast 162 = .ok (.getfield 80, 3) := by decide +kernel
theorem dX12_findLeast_165 : decode cX12_findLeast 165 = .ok (.iload 4, 2) := by decide +kernel
theorem dX12_findLeast_167 : decode cX12_findLeast 167 = .ok (.iaload, 1) := by decide +kernel
theorem dX12_findLeast_168 : decode cX12_findLeast 168 = .ok (.iadd, 1) := by decide +kernel
theorem dX12_findLeast_169 : decode cX12_findLeast 169 = .ok (.istore 5, 2) := by decide +kernel
theorem dX12_findLeast_171 : decode cX12_findLeast 171 = .ok (.aload_n 0, 1) := by decide +kernel
theorem dX12_findLeast_172 : decode cX12_findLeast 172 = .ok (.getfield 80, 3) := by decide +kernel
theorem dX12_findLeast_175 : decode cX12_findLeast 175 = .ok (.iload_n 2, 1) := by decide +kernel
theorem dX12_findLeast_176 : decode cX12_findLeast 176 = .ok (.iload 5, 2) := by decide +kernel
theorem dX12_findLeast_178 : decode cX12_findLeast 178 = .ok (.aload_n 0, 1) := by decide +kernel
theorem dX12_findLeast_179 : decode cX12_findLeast 179 = .ok (.getfield 80, 3) := by decide +kernel
theorem dX12_findLeast_182 : decode cX12_findLeast 182 = .ok (.iload_n 2, 1) := by decide +kernel
theorem dX12_findLeast_183 : decode cX12_findLeast 183 = .ok (.iaload, 1) := by decide +kernel
theorem dX12_findLeast_184 : decode cX12_findLeast 184 = .ok (.if_icmp .ge 8, 3) := by decide +kernel
theorem dX12_findLeast_187 : decode cX12_findLeast 187 = .ok (.iload 5, 2) := by decide +kernel
theorem dX12_findLeast_189 : decode cX12_findLeast 189 = .ok (.goto 9, 3) := by decide +kernel
theorem dX12_findLeast_192 : decode cX12_findLeast 192 = .ok (.aload_n 0, 1) := by decide +kernel
theorem dX12_findLeast_193 : decode cX12_findLeast 193 = .ok (.getfield 80, 3) := by decide +kernel
theorem dX12_findLeast_196 : decode cX12_findLeast 196 = .ok (.iload_n 2, 1) := by decide +kernel
theorem dX12_findLeast_197 : decode cX12_findLeast 197 = .ok (.iaload, 1) := by decide +kernel
theorem dX12_findLeast_198 : decode cX12_findLeast 198 = .ok (.iastore, 1) := by decide +kernel
theorem dX12_findLeast_199 : decode cX12_findLeast 199 = .ok (.iinc 3 1, 3) := by decide +kernel
theorem dX12_findLeast_202 : decode cX12_findLeast 202 = .ok (.goto (-71), 3) := by decide +kernel
theorem dX12_findLeast_205 : decode cX12_findLeast 205 = .ok (.iinc 2 (-1), 3) := by decide +kernel
theorem dX12_findLeast_208 : decode cX12_findLeast 208 = .ok (.goto (-91), 3) := by decide +kernel
theorem dX12_findLeast_211 : decode cX12_findLeast 211 = .ok (.return_, 1) := by decide +kernel
theorem dX12_least_0 : decode cX12_least 0 = .ok (.aload_n 0, 1) := by decide +kernel
theorem dX12_least_1 : decode cX12_least 1 = .ok (.invokevirtual 248, 3) := by decide +kernel
theorem dX12_least_4 : decode cX12_least 4 = .ok (.aload_n 0, 1) := by decide +kernel
theorem dX12_least_5 : decode cX12_least 5 = .ok (.getfield 80, 3) := by decide +kernel
theorem dX12_least_8 : decode cX12_least 8 = .ok (.iconst 0, 1) := by decide +kernel
theorem dX12_least_9 : decode cX12_least 9 = .ok (.iaload, 1) := by decide +kernel
theorem dX12_least_10 : decode cX12_least 10 = .ok (.ireturn, 1) := by decide +kernel
theorem dX12_arrange_0 : decode cX12_arrange 0 = .ok (.aload_n 0, 1) := by decide +kernel
theorem dX12_arrange_1 : decode cX12_arrange 1 = .ok (.invokevirtual 248, 3) := by decide +kernel
theorem dX12_arrange_4 : decode cX12_arrange 4 = .ok (.iconst 0, 1) := by decide +kernel
theorem dX12_arrange_5 : decode cX12_arrange 5 = .ok (.istore_n 1, 1) := by decide +kernel
theorem dX12_arrange_6 : decode cX12_arrange 6 = .ok (.iconst 0, 1) := by decide +kernel
theorem dX12_arrange_7 : decode cX12_arrange 7 = .ok (.istore_n 2, 1) := by decide +kernel
theorem dX12_arrange_8 : decode cX12_arrange 8 = .ok (.iconst 0, 1) := by decide +kernel
theorem dX12_arrange_9 : decode cX12_arrange 9 = .ok (.istore_n 3, 1) := by decide +kernel
theorem dX12_arrange_10 : decode cX12_arrange 10 = .ok (.iload_n 3, 1) := by decide +kernel
theorem dX12_arrange_11 : decode cX12_arrange 11 = .ok (.aload_n 0, 1) := by decide +kernel
theorem dX12_arrange_12 : decode cX12_arrange 12 = .ok (.getfield 110, 3) := by decide +kernel
theorem dX12_arrange_15 : decode cX12_arrange 15 = .ok (.if_icmp .ge 94, 3) := by decide +kernel
theorem dX12_arrange_18 : decode cX12_arrange 18 = .ok (.iconst 0, 1) := by decide +kernel
theorem dX12_arrange_19 : decode cX12_arrange 19 = .ok (.istore 4, 2) := by decide +kernel
theorem dX12_arrange_21 : decode cX12_arrange 21 = .ok (.iload_n 1, 1) := by decide +kernel
theorem dX12_arrange_22 : decode cX12_arrange 22 = .ok (.iload 4, 2) := by decide +kernel
theorem dX12_arrange_24 : decode cX12_arrange 24 = .ok (.ishr, 1) := by decide +kernel
theorem dX12_arrange_25 : decode cX12_arrange 25 = .ok (.iconst 1, 1) := by decide +kernel
theorem dX12_arrange_26 : decode cX12_arrange 26 = .ok (.iand, 1) := by decide +kernel
theorem dX12_arrange_27 : decode cX12_arrange 27 = .ok (.iconst 1, 1) := by decide +kernel
theorem dX12_arrange_28 : decode cX12_arrange 28 = .ok (.if_icmp .eq 35, 3) := by decide +kernel
theorem dX12_arrange_31 : decode cX12_arrange 31 = .ok (.aload_n 0, 1) := by decide +kernel
theorem dX12_arrange_32 : decode cX12_arrange 32 = .ok (.getfield 77, 3) := by decide +kernel
theorem dX12_arrange_35 : decode cX12_arrange 35 = .ok (.iload_n 1, 1) := by decide +kernel
theorem dX12_arrange_36 : decode cX12_arrange 36 = .ok (.iconst 1, 1) := by decide +kernel
theorem dX12_arrange_37 : decode cX12_arrange 37 = .ok (.iload 4, 2) := by decide +kernel
theorem dX12_arrange_39 : decode cX12_arrange 39 = .ok (.ishl, 1) := by decide +kernel
theorem dX12_arrange_40 : decode cX12_arrange 40 = .ok (.ior, 1) := by decide +kernel
theorem dX12_arrange_41 : decode cX12_arrange 41 = .ok (.iaload, 1) := by decide +kernel
theorem dX12_arrange_42 : decode cX12_arrange 42 = .ok (.aload_n 0, 1) := by decide +kernel
theorem dX12_arrange_43 : decode cX12_arrange 43 = .ok (.getfield 80, 3) := by decide +kernel
theorem dX12_arrange_46 : decode cX12_arrange 46 = .ok (.iload_n 1, 1) := by decide +kernel
theorem dX12_arrange_47 : decode cX12_arrange 47 = .ok (.iconst 1, 1) := by decide +kernel
theorem dX12_arrange_48 : decode cX12_arrange 48 = .ok (.iload 4, 2) := by decide +kernel
theorem dX12_arrange_50 : decode cX12_arrange 50 = .ok (.ishl, 1) := by decide +kernel
theorem dX12_arrange_51 : decode cX12_arrange 51 = .ok (.ior, 1) := by decide +kernel
theorem dX12_arrange_52 : decode cX12_arrange 52 = .ok (.iaload, 1) := by decide +kernel
theorem dX12_arrange_53 : decode cX12_arrange 53 = .ok (.iadd, 1) := by decide +kernel
theorem dX12_arrange_54 : decode cX12_arrange 54 = .ok (.aload_n 0, 1) := by decide +kernel
theorem dX12_arrange_55 : decode cX12_arrange 55 = .ok (.getfield 80, 3) := by decide +kernel
theorem dX12_arrange_58 : decode cX12_arrange 58 = .ok (.iload_n 1, 1) := by decide +kernel
theorem dX12_arrange_59 : decode cX12_arrange 59 = .ok (.iaload, 1) := by decide +kernel
theorem dX12_arrange_60 : decode cX12_arrange 60 = .ok (.if_icmp .eq 9, 3) := by decide +kernel
theorem dX12_arrange_63 : decode cX12_arrange 63 = .ok (.iinc 4 1, 3) := by decide +kernel
theorem dX12_arrange_66 : decode cX12_arrange 66 = .ok (.goto (-45), 3) := by decide +kernel
theorem dX12_arrange_69 : decode cX12_arrange 69 = .ok (.iload_n 2, 1) := by decide +kernel
theorem dX12_arrange_70 : decode cX12_arrange 70 = .ok (.aload_n 0, 1) := by decide +kernel
theorem dX12_arrange_71 : decode cX12_arrange 71 = .ok (.getfield 23, 3) := by decide +kernel
theorem dX12_arrange_74 : decode cX12_arrange 74 = .ok (.iload 4, 2) := by decide +kernel
theorem dX12_arrange_76 : decode cX12_arrange 76 = .ok (.iaload, 1) := by decide +kernel
theorem dX12_arrange_77 : decode cX12_arrange 77 = .ok (.iload_n 3, 1) := by decide +kernel
theorem dX12_arrange_78 : decode cX12_arrange 78 = .ok (.if_icmp .ne 7, 3) := by decide +kernel
theorem dX12_arrange_81 : decode cX12_arrange 81 = .ok (.iconst 0, 1) := by decide +kernel
theorem dX12_arrange_82 : decode cX12_arrange 82 = .ok (.goto 4, 3) := by decide +kernel
theorem dX12_arrange_85 : decode cX12_arrange 85 = .ok (.iconst 1, 1) := by decide +kernel
theorem dX12_arrange_86 : decode cX12_arrange 86 = .ok (.iadd, 1) := by decide +kernel
theorem dX12_arrange_87 : decode cX12_arrange 87 = .ok (.istore_n 2, 1) := by decide +kernel
theorem dX12_arrange_88 : decode cX12_arrange 88 = .ok (.aload_n 0, 1) := by decide +kernel
theorem dX12_arrange_89 : decode cX12_arrange 89 = .ok (.getfield 23, 3) := by decide +kernel
theorem dX12_arrange_92 : decode cX12_arrange 92 = .ok (.iload 4, 2) := by decide +kernel
theorem dX12_arrange_94 : decode cX12_arrange 94 = .ok (.iload_n 3, 1) := by decide +kernel
theorem dX12_arrange_95 : decode cX12_arrange 95 = .ok (.iastore, 1) := by decide +kernel
theorem dX12_arrange_96 : decode cX12_arrange 96 = .ok (.iload_n 1, 1) := by decide +kernel
theorem dX12_arrange_97 : decode cX12_arrange 97 = .ok (.iconst 1, 1) := by decide +kernel
theorem dX12_arrange_98 : decode cX12_arrange 98 = .ok (.iload 4, 2) := by decide +kernel
theorem dX12_arrange_100 : decode cX12_arrange 100 = .ok (.ishl, 1) := by decide +kernel
theorem dX12_arrange_101 : decode cX12_arrange 101 = .ok (.ior, 1) := by decide +kernel
theorem dX12_arrange_102 : decode cX12_arrange 102 = .ok (.istore_n 1, 1) := by decide +kernel
theorem dX12_arrange_103 : decode cX12_arrange 103 = .ok (.iinc 3 1, 3) := by decide +kernel
theorem dX12_arrange_106 : decode cX12_arrange 106 = .ok (.goto (-96), 3) := by decide +kernel
theorem dX12_arrange_109 : decode cX12_arrange 109 = .ok (.iload_n 2, 1) := by decide +kernel
theorem dX12_arrange_110 : decode cX12_arrange 110 = .ok (.ireturn, 1) := by decide +kernel
theorem dX12_troubleAt_0 : decode cX12_troubleAt 0 = .ok (.aload_n 0, 1) := by decide +kernel
theorem dX12_troubleAt_1 : decode cX12_troubleAt 1 = .ok (.iload_n 1, 1) := by decide +kernel
theorem dX12_troubleAt_2 : decode cX12_troubleAt 2 = .ok (.iload_n 2, 1) := by decide +kernel
theorem dX12_troubleAt_3 : decode cX12_troubleAt 3 = .ok (.aload_n 0, 1) := by decide +kernel
theorem dX12_troubleAt_4 : decode cX12_troubleAt 4 = .ok (.getfield 44, 3) := by decide +kernel
theorem dX12_troubleAt_7 : decode cX12_troubleAt 7 = .ok (.iload_n 1, 1) := by decide +kernel
theorem dX12_troubleAt_8 : decode cX12_troubleAt 8 = .ok (.iaload, 1) := by decide +kernel
theorem dX12_troubleAt_9 : decode cX12_troubleAt 9 = .ok (.invokevirtual 191, 3) := by decide +kernel
theorem dX12_troubleAt_12 : decode cX12_troubleAt 12 = .ok (.invokestatic 125, 3) := by decide +kernel
theorem dX12_troubleAt_15 : decode cX12_troubleAt 15 = .ok (.istore 4, 2) := by decide +kernel
theorem dX12_troubleAt_17 : decode cX12_troubleAt 17 = .ok (.bipush 10, 2) := by decide +kernel
theorem dX12_troubleAt_19 : decode cX12_troubleAt 19 = .ok (.iload 4, 2) := by decide +kernel
theorem dX12_troubleAt_21 : decode cX12_troubleAt 21 = .ok (.aload_n 0, 1) := by decide +kernel
theorem dX12_troubleAt_22 : decode cX12_troubleAt 22 = .ok (.getfield 32, 3) := by decide +kernel
theorem dX12_troubleAt_25 : decode cX12_troubleAt 25 = .ok (.iload_n 3, 1) := by decide +kernel
theorem dX12_troubleAt_26 : decode cX12_troubleAt 26 = .ok (.iaload, 1) := by decide +kernel
theorem dX12_troubleAt_27 : decode cX12_troubleAt 27 = .ok (.ixor, 1) := by decide +kernel
theorem dX12_troubleAt_28 : decode cX12_troubleAt 28 = .ok (.invokestatic 238, 3) := by decide +kernel
theorem dX12_troubleAt_31 : decode cX12_troubleAt 31 = .ok (.imul, 1) := by decide +kernel
theorem dX12_troubleAt_32 : decode cX12_troubleAt 32 = .ok (.istore 5, 2) := by decide +kernel
theorem dX12_troubleAt_34 : decode cX12_troubleAt 34 = .ok (.aload_n 0, 1) := by decide +kernel
theorem dX12_troubleAt_35 : decode cX12_troubleAt 35 = .ok (.iload_n 1, 1) := by decide +kernel
theorem dX12_troubleAt_36 : decode cX12_troubleAt 36 = .ok (.iload_n 2, 1) := by decide +kernel
theorem dX12_troubleAt_37 : decode cX12_troubleAt 37 = .ok (.invokevirtual 195, 3) := by decide +kernel
theorem dX12_troubleAt_40 : decode cX12_troubleAt 40 = .ok (.ifCond .eq 32, 3) := by decide +kernel
theorem dX12_troubleAt_43 : decode cX12_troubleAt 43 = .ok (.aload_n 0, 1) := by decide +kernel
theorem dX12_troubleAt_44 : decode cX12_troubleAt 44 = .ok (.aload_n 0, 1) := by decide +kernel
theorem dX12_troubleAt_45 : decode cX12_troubleAt 45 = .ok (.iload_n 1, 1) := by decide +kernel
theorem dX12_troubleAt_46 : decode cX12_troubleAt 46 = .ok (.iload_n 2, 1) := by decide +kernel
theorem dX12_troubleAt_47 : decode cX12_troubleAt 47 = .ok (.aload_n 0, 1) := by decide +kernel
theorem dX12_troubleAt_48 : decode cX12_troubleAt 48 = .ok (.getfield 44, 3) := by decide +kernel
theorem dX12_troubleAt_51 : decode cX12_troubleAt 51 = .ok (.iload_n 1, 1) := by decide +kernel
theorem dX12_troubleAt_52 : decode cX12_troubleAt 52 = .ok (.iaload, 1) := by decide +kernel
theorem dX12_troubleAt_53 : decode cX12_troubleAt 53 = .ok (.invokevirtual 198, 3) := by decide +kernel
theorem dX12_troubleAt_56 : decode cX12_troubleAt 56 = .ok (.aload_n 0, 1) := by decide +kernel
theorem dX12_troubleAt_57 : decode cX12_troubleAt 57 = .ok (.getfield 29, 3) := by decide +kernel
theorem dX12_troubleAt_60 : decode cX12_troubleAt 60 = .ok (.iload_n 3, 1) := by decide +kernel
theorem dX12_troubleAt_61 : decode cX12_troubleAt 61 = .ok (.iaload, 1) := by decide +kernel
theorem dX12_troubleAt_62 : decode cX12_troubleAt 62 = .ok (.invokevirtual 204, 3) := by decide +kernel
theorem dX12_troubleAt_65 : decode cX12_troubleAt 65 = .ok (.ifCond .ne 7, 3) := by decide +kernel
theorem dX12_troubleAt_68 : decode cX12_troubleAt 68 = .ok (.iconst 1, 1) := by decide +kernel
theorem dX12_troubleAt_69 : decode cX12_troubleAt 69 = .ok (.goto 4, 3) := by decide +kernel
theorem dX12_troubleAt_72 : decode cX12_troubleAt 72 = .ok (.iconst 0, 1) := by decide +kernel
theorem dX12_troubleAt_73 : decode cX12_troubleAt 73 = .ok (.istore 6, 2) := by decide +kernel
theorem dX12_troubleAt_75 : decode cX12_troubleAt 75 = .ok (.iload 6, 2) := by decide +kernel
theorem dX12_troubleAt_77 : decode cX12_troubleAt 77 = .ok (.ifCond .eq 11, 3) := by decide +kernel
theorem dX12_troubleAt_80 : decode cX12_troubleAt 80 = .ok (.iload 5, 2) := by decide +kernel
theorem dX12_troubleAt_82 : decode cX12_troubleAt 82 = .ok (.bipush 30, 2) := by decide +kernel
theorem dX12_troubleAt_84 : decode cX12_troubleAt 84 = .ok (.iadd, 1) := by decide +kernel
theorem dX12_troubleAt_85 : decode cX12_troubleAt 85 = .ok (.goto 5, 3) := by decide +kernel
theorem dX12_troubleAt_88 : decode cX12_troubleAt 88 = .ok (.iload 5, 2) := by decide +kernel
theorem dX12_troubleAt_90 : decode cX12_troubleAt 90 = .ok (.ireturn, 1) := by decide +kernel
theorem dX12_goingOn_0 : decode cX12_goingOn 0 = .ok (.iconst 2, 1) := by decide +kernel
theorem dX12_goingOn_1 : decode cX12_goingOn 1 = .ok (.aload_n 0, 1) := by decide +kernel
theorem dX12_goingOn_2 : decode cX12_goingOn 2 = .ok (.getfield 29, 3) := by decide +kernel
theorem dX12_goingOn_5 : decode cX12_goingOn 5 = .ok (.iload_n 2, 1) := by decide +kernel
theorem dX12_goingOn_6 : decode cX12_goingOn 6 = .ok (.iaload, 1) := by decide +kernel
theorem dX12_goingOn_7 : decode cX12_goingOn 7 = .ok (.aload_n 0, 1) := by decide +kernel
theorem dX12_goingOn_8 : decode cX12_goingOn 8 = .ok (.getfield 29, 3) := by decide +kernel
theorem dX12_goingOn_11 : decode cX12_goingOn 11 = .ok (.iload_n 3, 1) := by decide +kernel
theorem dX12_goingOn_12 : decode cX12_goingOn 12 = .ok (.iaload, 1) := by decide +kernel
theorem dX12_goingOn_13 : decode cX12_goingOn 13 = .ok (.ixor, 1) := by decide +kernel
theorem dX12_goingOn_14 : decode cX12_goingOn 14 = .ok (.invokestatic 238, 3) := by decide +kernel
theorem dX12_goingOn_17 : decode cX12_goingOn 17 = .ok (.imul, 1) := by decide +kernel
theorem dX12_goingOn_18 : decode cX12_goingOn 18 = .ok (.aload_n 0, 1) := by decide +kernel
theorem dX12_goingOn_19 : decode cX12_goingOn 19 = .ok (.getfield 86, 3) := by decide +kernel
theorem dX12_goingOn_22 : decode cX12_goingOn 22 = .ok (.bipush 79, 2) := by decide +kernel
theorem dX12_goingOn_24 : decode cX12_goingOn 24 = .ok (.iload_n 1, 1) := by decide +kernel
theorem dX12_goingOn_25 : decode cX12_goingOn 25 = .ok (.imul, 1) := by decide +kernel
theorem dX12_goingOn_26 : decode cX12_goingOn 26 = .ok (.bipush 79, 2) := by decide +kernel
theorem dX12_goingOn_28 : decode cX12_goingOn 28 = .ok (.iadd, 1) := by decide +kernel
theorem dX12_goingOn_29 : decode cX12_goingOn 29 = .ok (.iload_n 3, 1) := by decide +kernel
theorem dX12_goingOn_30 : decode cX12_goingOn 30 = .ok (.iadd, 1) := by decide +kernel
theorem dX12_goingOn_31 : decode cX12_goingOn 31 = .ok (.iaload, 1) := by decide +kernel
theorem dX12_goingOn_32 : decode cX12_goingOn 32 = .ok (.iadd, 1) := by decide +kernel
theorem dX12_goingOn_33 : decode cX12_goingOn 33 = .ok (.ireturn, 1) := by decide +kernel
theorem dX12_findTrouble_0 : decode cX12_findTrouble 0 = .ok (.aload_n 0, 1) := by decide +kernel
theorem dX12_findTrouble_1 : decode cX12_findTrouble 1 = .ok (.invokevirtual 174, 3) := by decide +kernel
theorem dX12_findTrouble_4 : decode cX12_findTrouble 4 = .ok (.aload_n 0, 1) := by decide +kernel
theorem dX12_findTrouble_5 : decode cX12_findTrouble 5 = .ok (.getfield 41, 3) := by decide +kernel
theorem dX12_findTrouble_8 : decode cX12_findTrouble 8 = .ok (.iload_n 1, 1) := by decide +kernel
theorem dX12_findTrouble_9 : decode cX12_findTrouble 9 = .ok (.iaload, 1) := by decide +kernel
theorem dX12_findTrouble_10 : decode cX12_findTrouble 10 = .ok (.iconst 1, 1) := by decide +kernel
theorem dX12_findTrouble_11 : decode cX12_findTrouble 11 = .ok (.isub, 1) := by decide +kernel
theorem dX12_findTrouble_12 : decode cX12_findTrouble 12 = .ok (.istore_n 2, 1) := by decide +kernel
theorem dX12_findTrouble_13 : decode cX12_findTrouble 13 = .ok (.iload_n 2, 1) := by decide +kernel
theorem dX12_findTrouble_14 : decode cX12_findTrouble 14 = .ok (.ifCond .lt 122, 3) := by decide +kernel
theorem dX12_findTrouble_17 : decode cX12_findTrouble 17 = .ok (.iconst 0, 1) := by decide +kernel
theorem dX12_findTrouble_18 : decode cX12_findTrouble 18 = .ok (.istore_n 3, 1) := by decide +kernel
theorem dX12_findTrouble_19 : decode cX12_findTrouble 19 = .ok (.iload_n 3, 1) := by decide +kernel
theorem dX12_findTrouble_20 : decode cX12_findTrouble 20 = .ok (.aload_n 0, 1) := by decide +kernel
theorem dX12_findTrouble_21 : decode cX12_findTrouble 21 = .ok (.getfield 167, 3) := by decide +kernel
theorem dX12_findTrouble_24 : decode cX12_findTrouble 24 = .ok (.if_icmp .ge 106, 3) := by decide +kernel
theorem dX12_findTrouble_27 : decode cX12_findTrouble 27 = .ok (.iload_n 2, 1) := by decide +kernel
theorem dX12_findTrouble_28 : decode cX12_findTrouble 28 = .ok (.aload_n 0, 1) := by decide +kernel
theorem dX12_findTrouble_29 : decode cX12_findTrouble 29 = .ok (.getfield 41, 3) := by decide +kernel
theorem dX12_findTrouble_32 : decode cX12_findTrouble 32 = .ok (.iload_n 1, 1) := by decide +kernel
theorem dX12_findTrouble_33 : decode cX12_findTrouble 33 = .ok (.iaload, 1) := by decide +kernel
theorem dX12_findTrouble_34 : decode cX12_findTrouble 34 = .ok (.iconst 1, 1) := by decide +kernel
theorem dX12_findTrouble_35 : decode cX12_findTrouble 35 = .ok (.isub, 1) := by decide +kernel
theorem dX12_findTrouble_36 : decode cX12_findTrouble 36 = .ok (.if_icmp .ne 7, 3) := by decide +kernel
theorem dX12_findTrouble_39 : decode cX12_findTrouble 39 = .ok (.iconst 0, 1) := by decide +kernel
theorem dX12_findTrouble_40 : decode cX12_findTrouble 40 = .ok (.goto 5, 3) := by decide +kernel
theorem dX12_findTrouble_43 : decode cX12_findTrouble 43 = .ok (.ldc 247, 2) := by decide +kernel
theorem dX12_findTrouble_45 : decode cX12_findTrouble 45 = .ok (.istore 4, 2) := by decide +kernel
theorem dX12_findTrouble_47 : decode cX12_findTrouble 47 = .ok (.iconst 0, 1) := by decide +kernel
theorem dX12_findTrouble_48 : decode cX12_findTrouble 48 = .ok (.istore 5, 2) := by decide +kernel
theorem dX12_findTrouble_50 : decode cX12_findTrouble 50 = .ok (.iload 5, 2) := by decide +kernel
theorem dX12_findTrouble_52 : decode cX12_findTrouble 52 = .ok (.aload_n 0, 1) := by decide +kernel
theorem dX12_findTrouble_53 : decode cX12_findTrouble 53 = .ok (.getfield 167, 3) := by decide +kernel
theorem dX12_findTrouble_56 : decode cX12_findTrouble 56 = .ok (.if_icmp .ge 47, 3) := by decide +kernel
theorem dX12_findTrouble_59 : decode cX12_findTrouble 59 = .ok (.iload_n 2, 1) := by decide +kernel
theorem dX12_findTrouble_60 : decode cX12_findTrouble 60 = .ok (.aload_n 0, 1) := by decide +kernel
theorem dX12_findTrouble_61 : decode cX12_findTrouble 61 = .ok (.getfield 41, 3) := by decide +kernel
theorem dX12_findTrouble_64 : decode cX12_findTrouble 64 = .ok (.iload_n 1, 1) := by decide +kernel
theorem dX12_findTrouble_65 : decode cX12_findTrouble 65 = .ok (.iaload, 1) := by decide +kernel
theorem dX12_findTrouble_66 : decode cX12_findTrouble 66 = .ok (.iconst 1, 1) := by decide +kernel
theorem dX12_findTrouble_67 : decode cX12_findTrouble 67 = .ok (.isub, 1) := by decide +kernel
theorem dX12_findTrouble_68 : decode cX12_findTrouble 68 = .ok (.if_icmp .ge 35, 3) := by decide +kernel
theorem dX12_findTrouble_71 : decode cX12_findTrouble 71 = .ok (.aload_n 0, 1) := by decide +kernel
theorem dX12_findTrouble_72 : decode cX12_findTrouble 72 = .ok (.iload_n 2, 1) := by decide +kernel
theorem dX12_findTrouble_73 : decode cX12_findTrouble 73 = .ok (.iload_n 3, 1) := by decide +kernel
theorem dX12_findTrouble_74 : decode cX12_findTrouble 74 = .ok (.iload 5, 2) := by decide +kernel
theorem dX12_findTrouble_76 : decode cX12_findTrouble 76 = .ok (.invokevirtual 251, 3) := by decide +kernel
theorem dX12_findTrouble_79 : decode cX12_findTrouble 79 = .ok (.istore 6, 2) := by decide +kernel
theorem dX12_findTrouble_81 : decode cX12_findTrouble 81 = .ok (.iload 6, 2) := by decide +kernel
theorem dX12_findTrouble_83 : decode cX12_findTrouble 83 = .ok (.iload 4, 2) := by decide +kernel
theorem dX12_findTrouble_85 : decode cX12_findTrouble 85 = .ok (.if_icmp .ge 8, 3) := by decide +kernel
theorem dX12_findTrouble_88 : decode cX12_findTrouble 88 = .ok (.iload 6, 2) := by decide +kernel
theorem dX12_findTrouble_90 : decode cX12_findTrouble 90 = .ok (.goto 5, 3) := by decide +kernel
theorem dX12_findTrouble_93 : decode cX12_findTrouble 93 = .ok (.iload 4, 2) := by decide +kernel
theorem dX12_findTrouble_95 : decode cX12_findTrouble 95 = .ok (.istore 4, 2) := by decide +kernel
theorem dX12_findTrouble_97 : decode cX12_findTrouble 97 = .ok (.iinc 5 1, 3) := by decide +kernel
theorem dX12_findTrouble_100 : decode cX12_findTrouble 100 = .ok (.goto (-50), 3) := by decide +kernel
theorem dX12_findTrouble_103 : decode cX12_findTrouble 103 = .ok (.aload_n 0, 1) := by decide +kernel
theorem dX12_findTrouble_104 : decode cX12_findTrouble 104 = .ok (.getfield 86, 3) := by decide +kernel
theorem dX12_findTrouble_107 : decode cX12_findTrouble 107 = .ok (.bipush 79, 2) := by decide +kernel
theorem dX12_findTrouble_109 : decode cX12_findTrouble 109 = .ok (.iload_n 2, 1) := by decide +kernel
theorem dX12_findTrouble_110 : decode cX12_findTrouble 110 = .ok (.imul, 1) := by decide +kernel
theorem dX12_findTrouble_111 : decode cX12_findTrouble 111 = .ok (.iload_n 3, 1) := by decide +kernel
theorem dX12_findTrouble_112 : decode cX12_findTrouble 112 = .ok (.iadd, 1) := by decide +kernel
theorem dX12_findTrouble_113 : decode cX12_findTrouble 113 = .ok (.aload_n 0, 1) := by decide +kernel
theorem dX12_findTrouble_114 : decode cX12_findTrouble 114 = .ok (.iload_n 1, 1) := by decide +kernel
theorem dX12_findTrouble_115 : decode cX12_findTrouble 115 = .ok (.iload_n 2, 1) := by decide +kernel
theorem dX12_findTrouble_116 : decode cX12_findTrouble 116 = .ok (.iload_n 3, 1) := by decide +kernel
theorem dX12_findTrouble_117 : decode cX12_findTrouble 117 = .ok (.invokevirtual 254, 3) := by decide +kernel
theorem dX12_findTrouble_120 : decode cX12_findTrouble 120 = .ok (.iload 4, 2) := by decide +kernel
theorem dX12_findTrouble_122 : decode cX12_findTrouble 122 = .ok (.iadd, 1) := by decide +kernel
theorem dX12_findTrouble_123 : decode cX12_findTrouble 123 = .ok (.iastore, 1) := by decide +kernel
theorem dX12_findTrouble_124 : decode cX12_findTrouble 124 = .ok (.iinc 3 1, 3) := by decide +kernel
theorem dX12_findTrouble_127 : decode cX12_findTrouble 127 = .ok (.goto (-108), 3) := by decide +kernel
theorem dX12_findTrouble_130 : decode cX12_findTrouble 130 = .ok (.iinc 2 (-1), 3) := by decide +kernel
theorem dX12_findTrouble_133 : decode cX12_findTrouble 133 = .ok (.goto (-120), 3) := by decide +kernel
theorem dX12_findTrouble_136 : decode cX12_findTrouble 136 = .ok (.return_, 1) := by decide +kernel
theorem dX12_leastFirst_0 : decode cX12_leastFirst 0 = .ok (.iconst 0, 1) := by decide +kernel
theorem dX12_leastFirst_1 : decode cX12_leastFirst 1 = .ok (.istore_n 1, 1) := by decide +kernel
theorem dX12_leastFirst_2 : decode cX12_leastFirst 2 = .ok (.iconst 1, 1) := by decide +kernel
theorem dX12_leastFirst_3 : decode cX12_leastFirst 3 = .ok (.istore_n 2, 1) := by decide +kernel
theorem dX12_leastFirst_4 : decode cX12_leastFirst 4 = .ok (.iload_n 2, 1) := by decide +kernel
theorem dX12_leastFirst_5 : decode cX12_leastFirst 5 = .ok (.aload_n 0, 1) := by decide +kernel
theorem dX12_leastFirst_6 : decode cX12_leastFirst 6 = .ok (.getfield 167, 3) := by decide +kernel
theorem dX12_leastFirst_9 : decode cX12_leastFirst 9 = .ok (.if_icmp .ge 30, 3) := by decide +kernel
theorem dX12_leastFirst_12 : decode cX12_leastFirst 12 = .ok (.aload_n 0, 1) := by decide +kernel
theorem dX12_leastFirst_13 : decode cX12_leastFirst 13 = .ok (.getfield 86, 3) := by decide +kernel
theorem dX12_leastFirst_16 : decode cX12_leastFirst 16 = .ok (.iload_n 2, 1) := by decide +kernel
theorem dX12_leastFirst_17 : decode cX12_leastFirst 17 = .ok (.iaload, 1) := by decide +kernel
theorem dX12_leastFirst_18 : decode cX12_leastFirst 18 = .ok (.aload_n 0, 1) := by decide +kernel
theorem dX12_leastFirst_19 : decode cX12_leastFirst 19 = .ok (.getfield 86, 3) := by decide +kernel
theorem dX12_leastFirst_22 : decode cX12_leastFirst 22 = .ok (.iload_n 1, 1) := by decide +kernel
theorem dX12_leastFirst_23 : decode cX12_leastFirst 23 = .ok (.iaload, 1) := by decide +kernel
theorem dX12_leastFirst_24 : decode cX12_leastFirst 24 = .ok (.if_icmp .ge 7, 3) := by decide +kernel
theorem dX12_leastFirst_27 : decode cX12_leastFirst 27 = .ok (.iload_n 2, 1) := by decide +kernel
theorem dX12_leastFirst_28 : decode cX12_leastFirst 28 = .ok (.goto 4, 3) := by decide +kernel
theorem dX12_leastFirst_31 : decode cX12_leastFirst 31 = .ok (.iload_n 1, 1) := by decide +kernel
theorem dX12_leastFirst_32 : decode cX12_leastFirst 32 = .ok (.istore_n 1, 1) := by decide +kernel
theorem dX12_leastFirst_33 : decode cX12_leastFirst 33 = .ok (.iinc 2 1, 3) := by decide +kernel
theorem dX12_leastFirst_36 : decode cX12_leastFirst 36 = .ok (.goto (-32), 3) := by decide +kernel
theorem dX12_leastFirst_39 : decode cX12_leastFirst 39 = .ok (.iload_n 1, 1) := by decide +kernel
theorem dX12_leastFirst_40 : decode cX12_leastFirst 40 = .ok (.ireturn, 1) := by decide +kernel
theorem dX12_trouble_0 : decode cX12_trouble 0 = .ok (.aload_n 0, 1) := by decide +kernel
theorem dX12_trouble_1 : decode cX12_trouble 1 = .ok (.iload_n 1, 1) := by decide +kernel
theorem dX12_trouble_2 : decode cX12_trouble 2 = .ok (.invokevirtual 183, 3) := by decide +kernel
theorem dX12_trouble_5 : decode cX12_trouble 5 = .ok (.ifCond .ne 5, 3) := by decide +kernel
theorem dX12_trouble_8 : decode cX12_trouble 8 = .ok (.iconst (-1), 1) := by decide +kernel
theorem dX12_trouble_9 : decode cX12_trouble 9 = .ok (.ireturn, 1) := by decide +kernel
theorem dX12_trouble_10 : decode cX12_trouble 10 = .ok (.aload_n 0, 1) := by decide +kernel
theorem dX12_trouble_11 : decode cX12_trouble 11 = .ok (.iload_n 1, 1) := by decide +kernel
theorem dX12_trouble_12 : decode cX12_trouble 12 = .ok (.invokevirtual 257, 3) := by decide +kernel
theorem dX12_trouble_15 : decode cX12_trouble 15 = .ok (.aload_n 0, 1) := by decide +kernel
theorem dX12_trouble_16 : decode cX12_trouble 16 = .ok (.getfield 86, 3) := by decide +kernel
theorem dX12_trouble_19 : decode cX12_trouble 19 = .ok (.aload_n 0, 1) := by decide +kernel
theorem dX12_trouble_20 : decode cX12_trouble 20 = .ok (.invokevirtual 260, 3) := by decide +kernel
theorem dX12_trouble_23 : decode cX12_trouble 23 = .ok (.iaload, 1) := by decide +kernel
theorem dX12_trouble_24 : decode cX12_trouble 24 = .ok (.ireturn, 1) := by decide +kernel
theorem dX12_grip_0 : decode cX12_grip 0 = .ok (.aload_n 0, 1) := by decide +kernel
theorem dX12_grip_1 : decode cX12_grip 1 = .ok (.iload_n 1, 1) := by decide +kernel
theorem dX12_grip_2 : decode cX12_grip 2 = .ok (.iload_n 2, 1) := by decide +kernel
theorem dX12_grip_3 : decode cX12_grip 3 = .ok (.invokevirtual 211, 3) := by decide +kernel
theorem dX12_grip_6 : decode cX12_grip 6 = .ok (.ifCond .ne 5, 3) := by decide +kernel
theorem dX12_grip_9 : decode cX12_grip 9 = .ok (.iconst (-1), 1) := by decide +kernel
theorem dX12_grip_10 : decode cX12_grip 10 = .ok (.ireturn, 1) := by decide +kernel
theorem dX12_grip_11 : decode cX12_grip 11 = .ok (.aload_n 0, 1) := by decide +kernel
theorem dX12_grip_12 : decode cX12_grip 12 = .ok (.iload_n 1, 1) := by decide +kernel
theorem dX12_grip_13 : decode cX12_grip 13 = .ok (.invokevirtual 257, 3) := by decide +kernel
theorem dX12_grip_16 : decode cX12_grip 16 = .ok (.aload_n 0, 1) := by decide +kernel
theorem dX12_grip_17 : decode cX12_grip 17 = .ok (.invokevirtual 260, 3) := by decide +kernel
theorem dX12_grip_20 : decode cX12_grip 20 = .ok (.istore_n 3, 1) := by decide +kernel
theorem dX12_grip_21 : decode cX12_grip 21 = .ok (.iconst 0, 1) := by decide +kernel
theorem dX12_grip_22 : decode cX12_grip 22 = .ok (.istore 4, 2) := by decide +kernel
theorem dX12_grip_24 : decode cX12_grip 24 = .ok (.iload 4, 2) := by decide +kernel
theorem dX12_grip_26 : decode cX12_grip 26 = .ok (.iload_n 2, 1) := by decide +kernel
theorem dX12_grip_27 : decode cX12_grip 27 = .ok (.if_icmp .ge 63, 3) := by decide +kernel
theorem dX12_grip_30 : decode cX12_grip 30 = .ok (.iconst 0, 1) := by decide +kernel
theorem dX12_grip_31 : decode cX12_grip 31 = .ok (.istore 5, 2) := by decide +kernel
theorem dX12_grip_33 : decode cX12_grip 33 = .ok (.iconst 1, 1) := by decide +kernel
theorem dX12_grip_34 : decode cX12_grip 34 = .ok (.istore 6, 2) := by decide +kernel
theorem dX12_grip_36 : decode cX12_grip 36 = .ok (.iload 6, 2) := by decide +kernel
theorem dX12_grip_38 : decode cX12_grip 38 = .ok (.aload_n 0, 1) := by decide +kernel
theorem dX12_grip_39 : decode cX12_grip 39 = .ok (.getfield 167, 3) := by decide +kernel
theorem dX12_grip_42 : decode cX12_grip 42 = .ok (.if_icmp .ge 39, 3) := by decide +kernel
theorem dX12_grip_45 : decode cX12_grip 45 = .ok (.aload_n 0, 1) := by decide +kernel
theorem dX12_grip_46 : decode cX12_grip 46 = .ok (.iload 4, 2) := by decide +kernel
theorem dX12_grip_48 : decode cX12_grip 48 = .ok (.iload_n 3, 1) := by decide +kernel
theorem dX12_grip_49 : decode cX12_grip 49 = .ok (.iload 6, 2) := by decide +kernel
theorem dX12_grip_51 : decode cX12_grip 51 = .ok (.invokevirtual 251, 3) := by decide +kernel
theorem dX12_grip_54 : decode cX12_grip 54 = .ok (.aload_n 0, 1) := by decide +kernel
theorem dX12_grip_55 : decode cX12_grip 55 = .ok (.iload 4, 2) := by decide +kernel
theorem dX12_grip_57 : decode cX12_grip 57 = .ok (.iload_n 3, 1) := by decide +kernel
theorem dX12_grip_58 : decode cX12_grip 58 = .ok (.iload 5, 2) := by decide +kernel
theorem dX12_grip_60 : decode cX12_grip 60 = .ok (.invokevirtual 251, 3) := by decide +kernel
theorem dX12_grip_63 : decode cX12_grip 63 = .ok (.if_icmp .ge 8, 3) := by decide +kernel
theorem dX12_grip_66 : decode cX12_grip 66 = .ok (.iload 6, 2) := by decide +kernel
theorem dX12_grip_68 : decode cX12_grip 68 = .ok (.goto 5, 3) := by decide +kernel
theorem dX12_grip_71 : decode cX12_grip 71 = .ok (.iload 5, 2) := by decide +kernel
theorem dX12_grip_73 : decode cX12_grip 73 = .ok (.istore 5, 2) := by decide +kernel
theorem dX12_grip_75 : decode cX12_grip 75 = .ok (.iinc 6 1, 3) := by decide +kernel
theorem dX12_grip_78 : decode cX12_grip 78 = .ok (.goto (-42), 3) := by decide +kernel
theorem dX12_grip_81 : decode cX12_grip 81 = .ok (.iload 5, 2) := by decide +kernel
theorem dX12_grip_83 : decode cX12_grip 83 = .ok (.istore_n 3, 1) := by decide +kernel
theorem dX12_grip_84 : decode cX12_grip 84 = .ok (.iinc 4 1, 3) := by decide +kernel
theorem dX12_grip_87 : decode cX12_grip 87 = .ok (.goto (-63), 3) := by decide +kernel
theorem dX12_grip_90 : decode cX12_grip 90 = .ok (.aload_n 0, 1) := by decide +kernel
theorem dX12_grip_91 : decode cX12_grip 91 = .ok (.getfield 29, 3) := by decide +kernel
theorem dX12_grip_94 : decode cX12_grip 94 = .ok (.iload_n 3, 1) := by decide +kernel
theorem dX12_grip_95 : decode cX12_grip 95 = .ok (.iaload, 1) := by decide +kernel
theorem dX12_grip_96 : decode cX12_grip 96 = .ok (.ireturn, 1) := by decide +kernel
theorem dX12_heard_0 : decode cX12_heard 0 = .ok (.aload_n 0, 1) := by decide +kernel
theorem dX12_heard_1 : decode cX12_heard 1 = .ok (.iconst 0, 1) := by decide +kernel
theorem dX12_heard_2 : decode cX12_heard 2 = .ok (.putfield 101, 3) := by decide +kernel
theorem dX12_heard_5 : decode cX12_heard 5 = .ok (.iload_n 2, 1) := by decide +kernel
theorem dX12_heard_6 : decode cX12_heard 6 = .ok (.iconst 0, 1) := by decide +kernel
theorem dX12_heard_7 : decode cX12_heard 7 = .ok (.iconst 3, 1) := by decide +kernel
theorem dX12_heard_8 : decode cX12_heard 8 = .ok (.invokestatic 113, 3) := by decide +kernel
theorem dX12_heard_11 : decode cX12_heard 11 = .ok (.ifCond .ne 5, 3) := by decide +kernel
theorem dX12_heard_14 : decode cX12_heard 14 = .ok (.iconst (-1), 1) := by decide +kernel
theorem dX12_heard_15 : decode cX12_heard 15 = .ok (.ireturn, 1) := by decide +kernel
theorem dX12_heard_16 : decode cX12_heard 16 = .ok (.aload_n 0, 1) := by decide +kernel
theorem dX12_heard_17 : decode cX12_heard 17 = .ok (.iload_n 1, 1) := by decide +kernel
theorem dX12_heard_18 : decode cX12_heard 18 = .ok (.invokevirtual 160, 3) := by decide +kernel
theorem dX12_heard_21 : decode cX12_heard 21 = .ok (.ifCond .eq 12, 3) := by decide +kernel
theorem dX12_heard_24 : decode cX12_heard 24 = .ok (.iload_n 3, 1) := by decide +kernel
theorem dX12_heard_25 : decode cX12_heard 25 = .ok (.iconst 0, 1) := by decide +kernel
theorem dX12_heard_26 : decode cX12_heard 26 = .ok (.iconst 2, 1) := by decide +kernel
theorem dX12_heard_27 : decode cX12_heard 27 = .ok (.invokestatic 113, 3) := by decide +kernel
theorem dX12_heard_30 : decode cX12_heard 30 = .ok (.ifCond .ne 6, 3) := by decide +kernel
theorem dX12_heard_33 : decode cX12_heard 33 = .ok (.bipush (-2), 2) := by decide +kernel
theorem dX12_heard_35 : decode cX12_heard 35 = .ok (.ireturn, 1) := by decide +kernel
theorem dX12_heard_36 : decode cX12_heard 36 = .ok (.aload_n 0, 1) := by decide +kernel
theorem dX12_heard_37 : decode cX12_heard 37 = .ok (.getfield 53, 3) := by decide +kernel
theorem dX12_heard_40 : decode cX12_heard 40 = .ok (.iload_n 2, 1) := by decide +kernel
theorem dX12_heard_41 : decode cX12_heard 41 = .ok (.iaload, 1) := by decide +kernel
theorem dX12_heard_42 : decode cX12_heard 42 = .ok (.bipush (-9), 2) := by decide +kernel
theorem dX12_heard_44 : decode cX12_heard 44 = .ok (.if_icmp .eq 19, 3) := by decide +kernel
theorem dX12_heard_47 : decode cX12_heard 47 = .ok (.aload_n 0, 1) := by decide +kernel
theorem dX12_heard_48 : decode cX12_heard 48 = .ok (.getfield 53, 3) := by decide +kernel
theorem dX12_heard_51 : decode cX12_heard 51 = .ok (.iload_n 2, 1) := by decide +kernel
theorem dX12_heard_52 : decode cX12_heard 52 = .ok (.iaload, 1) := by decide +kernel
theorem dX12_heard_53 : decode cX12_heard 53 = .ok (.iload_n 3, 1) := by decide +kernel
theorem dX12_heard_54 : decode cX12_heard 54 = .ok (.if_icmp .eq 9, 3) := by decide +kernel
theorem dX12_heard_57 : decode cX12_heard 57 = .ok (.aload_n 0, 1) := by decide +kernel
theorem dX12_heard_58 : decode cX12_heard 58 = .ok (.iconst 2, 1) := by decide +kernel
theorem dX12_heard_59 : decode cX12_heard 59 = .ok (.invokevirtual 186, 3) := by decide +kernel
theorem dX12_heard_62 : decode cX12_heard 62 = .ok (.ireturn, 1) := by decide +kernel
theorem dX12_heard_63 : decode cX12_heard 63 = .ok (.aload_n 0, 1) := by decide +kernel
theorem dX12_heard_64 : decode cX12_heard 64 = .ok (.getfield 53, 3) := by decide +kernel
theorem dX12_heard_67 : decode cX12_heard 67 = .ok (.iload_n 2, 1) := by decide +kernel
theorem dX12_heard_68 : decode cX12_heard 68 = .ok (.iaload, 1) := by decide +kernel
theorem dX12_heard_69 : decode cX12_heard 69 = .ok (.bipush (-9), 2) := by decide +kernel
theorem dX12_heard_71 : decode cX12_heard 71 = .ok (.if_icmp .ne 9, 3) := by decide +kernel
theorem dX12_heard_74 : decode cX12_heard 74 = .ok (.aload_n 0, 1) := by decide +kernel
theorem dX12_heard_75 : decode cX12_heard 75 = .ok (.iconst 1, 1) := by decide +kernel
theorem dX12_heard_76 : decode cX12_heard 76 = .ok (.invokevirtual 186, 3) := by decide +kernel
theorem dX12_heard_79 : decode cX12_heard 79 = .ok (.ireturn, 1) := by decide +kernel
theorem dX12_heard_80 : decode cX12_heard 80 = .ok (.iload 4, 2) := by decide +kernel
theorem dX12_heard_82 : decode cX12_heard 82 = .ok (.ifCond .lt 19, 3) := by decide +kernel
theorem dX12_heard_85 : decode cX12_heard 85 = .ok (.iload 4, 2) := by decide +kernel
theorem dX12_heard_87 : decode cX12_heard 87 = .ok (.aload_n 0, 1) := by decide +kernel
theorem dX12_heard_88 : decode cX12_heard 88 = .ok (.getfield 56, 3) := by decide +kernel
theorem dX12_heard_91 : decode cX12_heard 91 = .ok (.iload_n 2, 1) := by decide +kernel
theorem dX12_heard_92 : decode cX12_heard 92 = .ok (.iaload, 1) := by decide +kernel
theorem dX12_heard_93 : decode cX12_heard 93 = .ok (.aload_n 0, 1) := by decide +kernel
theorem dX12_heard_94 : decode cX12_heard 94 = .ok (.getfield 107, 3) := by decide +kernel
theorem dX12_heard_97 : decode cX12_heard 97 = .ok (.isub, 1) := by decide +kernel
theorem dX12_heard_98 : decode cX12_heard 98 = .ok (.if_icmp .le 9, 3) := by decide +kernel
theorem dX12_heard_101 : decode cX12_heard 101 = .ok (.aload_n 0, 1) := by decide +kernel
theorem dX12_heard_102 : decode cX12_heard 102 = .ok (.iconst 3, 1) := by decide +kernel
theorem dX12_heard_103 : decode cX12_heard 103 = .ok (.invokevirtual 186, 3) := by decide +kernel
theorem dX12_heard_106 : decode cX12_heard 106 = .ok (.ireturn, 1) := by decide +kernel
theorem dX12_heard_107 : decode cX12_heard 107 = .ok (.iconst 0, 1) := by decide +kernel
theorem dX12_heard_108 : decode cX12_heard 108 = .ok (.istore 5, 2) := by decide +kernel
theorem dX12_heard_110 : decode cX12_heard 110 = .ok (.iload 5, 2) := by decide +kernel
theorem dX12_heard_112 : decode cX12_heard 112 = .ok (.aload_n 0, 1) := by decide +kernel
theorem dX12_heard_113 : decode cX12_heard 113 = .ok (.getfield 107, 3) := by decide +kernel
theorem dX12_heard_116 : decode cX12_heard 116 = .ok (.if_icmp .ge 35, 3) := by decide +kernel
theorem dX12_heard_119 : decode cX12_heard 119 = .ok (.aload_n 0, 1) := by decide +kernel
theorem dX12_heard_120 : decode cX12_heard 120 = .ok (.getfield 59, 3) := by decide +kernel
theorem dX12_heard_123 : decode cX12_heard 123 = .ok (.bipush 64, 2) := by decide +kernel
theorem dX12_heard_125 : decode cX12_heard 125 = .ok (.iload_n 2, 1) := by decide +kernel
theorem dX12_heard_126 : decode cX12_heard 126 = .ok (.imul, 1) := by decide +kernel
theorem dX12_heard_127 : decode cX12_heard 127 = .ok (.iload 4, 2) := by decide +kernel
theorem dX12_heard_129 : decode cX12_heard 129 = .ok (.iadd, 1) := by decide +kernel
theorem dX12_heard_130 : decode cX12_heard 130 = .ok (.iload 5, 2) := by decide +kernel
theorem dX12_heard_132 : decode cX12_heard 132 = .ok (.iadd, 1) := by decide +kernel
theorem dX12_heard_133 : decode cX12_heard 133 = .ok (.iaload, 1) := by decide +kernel
theorem dX12_heard_134 : decode cX12_heard 134 = .ok (.iconst 0, 1) := by decide +kernel
theorem dX12_heard_135 : decode cX12_heard 135 = .ok (.iconst 2, 1) := by decide +kernel
theorem dX12_heard_136 : decode cX12_heard 136 = .ok (.invokestatic 113, 3) := by decide +kernel
theorem dX12_heard_139 : decode cX12_heard 139 = .ok (.ifCond .ne 6, 3) := by decide +kernel
theorem dX12_heard_142 : decode cX12_heard 142 = .ok (.bipush (-2), 2) := by decide +kernel
theorem dX12_heard_144 : decode cX12_heard 144 = .ok (.ireturn, 1) := by decide +kernel
theorem dX12_heard_145 : decode cX12_heard 145 = .ok (.iinc 5 1, 3) := by decide +kernel
theorem dX12_heard_148 : decode cX12_heard 148 = .ok (.goto (-38), 3) := by decide +kernel
theorem dX12_heard_151 : decode cX12_heard 151 = .ok (.aload_n 0, 1) := by decide +kernel
theorem dX12_heard_152 : decode cX12_heard 152 = .ok (.getfield 241, 3) := by decide +kernel
theorem dX12_heard_155 : decode cX12_heard 155 = .ok (.bipush 20, 2) := by decide +kernel
theorem dX12_heard_157 : decode cX12_heard 157 = .ok (.if_icmp .ne 6, 3) := by decide +kernel
theorem dX12_heard_160 : decode cX12_heard 160 = .ok (.bipush (-4), 2) := by decide +kernel
theorem dX12_heard_162 : decode cX12_heard 162 = .ok (.ireturn, 1) := by decide +kernel
theorem dX12_heard_163 : decode cX12_heard 163 = .ok (.aload_n 0, 1) := by decide +kernel
theorem dX12_heard_164 : decode cX12_heard 164 = .ok (.getfield 89, 3) := by decide +kernel
theorem dX12_heard_167 : decode cX12_heard 167 = .ok (.aload_n 0, 1) := by decide +kernel
theorem dX12_heard_168 : decode cX12_heard 168 = .ok (.getfield 241, 3) := by decide +kernel
theorem dX12_heard_171 : decode cX12_heard 171 = .ok (.iload_n 1, 1) := by decide +kernel
theorem dX12_heard_172 : decode cX12_heard 172 = .ok (.iastore, 1) := by decide +kernel
theorem dX12_heard_173 : decode cX12_heard 173 = .ok (.aload_n 0, 1) := by decide +kernel
theorem dX12_heard_174 : decode cX12_heard 174 = .ok (.getfield 92, 3) := by decide +kernel
theorem dX12_heard_177 : decode cX12_heard 177 = .ok (.aload_n 0, 1) := by decide +kernel
theorem dX12_heard_178 : decode cX12_heard 178 = .ok (.getfield 241, 3) := by decide +kernel
theorem dX12_heard_181 : decode cX12_heard 181 = .ok (.aload_n 0, 1) := by decide +kernel
theorem dX12_heard_182 : decode cX12_heard 182 = .ok (.getfield 107, 3) := by decide +kernel
theorem dX12_heard_185 : decode cX12_heard 185 = .ok (.iastore, 1) := by decide +kernel
theorem dX12_heard_186 : decode cX12_heard 186 = .ok (.iconst 0, 1) := by decide +kernel
theorem dX12_heard_187 : decode cX12_heard 187 = .ok (.istore 5, 2) := by decide +kernel
theorem dX12_heard_189 : decode cX12_heard 189 = .ok (.iload 5, 2) := by decide +kernel
theorem dX12_heard_191 : decode cX12_heard 191 = .ok (.aload_n 0, 1) := by decide +kernel
theorem dX12_heard_192 : decode cX12_heard 192 = .ok (.getfield 107, 3) := by decide +kernel
theorem dX12_heard_195 : decode cX12_heard 195 = .ok (.if_icmp .ge 39, 3) := by decide +kernel
theorem dX12_heard_198 : decode cX12_heard 198 = .ok (.aload_n 0, 1) := by decide +kernel
theorem dX12_heard_199 : decode cX12_heard 199 = .ok (.getfield 95, 3) := by decide +kernel
theorem dX12_heard_202 : decode cX12_heard 202 = .ok (.bipush 36, 2) := by decide +kernel
theorem dX12_heard_204 : decode cX12_heard 204 = .ok (.aload_n 0, 1) := by decide +kernel
theorem dX12_heard_205 : decode cX12_heard 205 = .ok (.getfield 241, 3) := by decide +kernel
theorem dX12_heard_208 : decode cX12_heard 208 = .ok (.imul, 1) := by decide +kernel
theorem dX12_heard_209 : decode cX12_heard 209 = .ok (.iload 5, 2) := by decide +kernel
theorem dX12_heard_211 : decode cX12_heard 211 = .ok (.iadd, 1) := by decide +kernel
theorem dX12_heard_212 : decode cX12_heard 212 = .ok (.aload_n 0, 1) := by decide +kernel
theorem dX12_heard_213 : decode cX12_heard 213 = .ok (.getfield 59, 3) := by decide +kernel
theorem dX12_heard_216 : decode cX12_heard 216 = .ok (.bipush 64, 2) := by decide +kernel
theorem dX12_heard_218 : decode cX12_heard 218 = .ok (.iload_n 2, 1) := by decide +kernel
theorem dX12_heard_219 : decode cX12_heard 219 = .ok (.imul, 1) := by decide +kernel
theorem dX12_heard_220 : decode cX12_heard 220 = .ok (.iload 4, 2) := by decide +kernel
theorem dX12_heard_222 : decode cX12_heard 222 = .ok (.iadd, 1) := by decide +kernel
theorem dX12_heard_223 : decode cX12_heard 223 = .ok (.iload 5, 2) := by decide +kernel
theorem dX12_heard_225 : decode cX12_heard 225 = .ok (.iadd, 1) := by decide +kernel
theorem dX12_heard_226 : decode cX12_heard 226 = .ok (.iaload, 1) := by decide +kernel
theorem dX12_heard_227 : decode cX12_heard 227 = .ok (.iastore, 1) := by decide +kernel
theorem dX12_heard_228 : decode cX12_heard 228 = .ok (.iinc 5 1, 3) := by decide +kernel
theorem dX12_heard_231 : decode cX12_heard 231 = .ok (.goto (-42), 3) := by decide +kernel
theorem dX12_heard_234 : decode cX12_heard 234 = .ok (.aload_n 0, 1) := by decide +kernel
theorem dX12_heard_235 : decode cX12_heard 235 = .ok (.dup, 1) := by decide +kernel
theorem dX12_heard_236 : decode cX12_heard 236 = .ok (.getfield 241, 3) := by decide +kernel
theorem dX12_heard_239 : decode cX12_heard 239 = .ok (.iconst 1, 1) := by decide +kernel
theorem dX12_heard_240 : decode cX12_heard 240 = .ok (.iadd, 1) := by decide +kernel
theorem dX12_heard_241 : decode cX12_heard 241 = .ok (.putfield 241, 3) := by decide +kernel
theorem dX12_heard_244 : decode cX12_heard 244 = .ok (.aload_n 0, 1) := by decide +kernel
theorem dX12_heard_245 : decode cX12_heard 245 = .ok (.getfield 241, 3) := by decide +kernel
theorem dX12_heard_248 : decode cX12_heard 248 = .ok (.iconst 1, 1) := by decide +kernel
theorem dX12_heard_249 : decode cX12_heard 249 = .ok (.isub, 1) := by decide +kernel
theorem dX12_heard_250 : decode cX12_heard 250 = .ok (.ireturn, 1) := by decide +kernel
theorem dX12_findMust_0 : decode cX12_findMust 0 = .ok (.iconst 0, 1) := by decide +kernel
theorem dX12_findMust_1 : decode cX12_findMust 1 = .ok (.istore_n 1, 1) := by decide +kernel
theorem dX12_findMust_2 : decode cX12_findMust 2 = .ok (.iload_n 1, 1) := by decide +kernel
theorem dX12_findMust_3 : decode cX12_findMust 3 = .ok (.sipush 432, 3) := by decide +kernel
theorem dX12_findMust_6 : decode cX12_findMust 6 = .ok (.if_icmp .ge 16, 3) := by decide +kernel
theorem dX12_findMust_9 : decode cX12_findMust 9 = .ok (.aload_n 0, 1) := by decide +kernel
theorem dX12_findMust_10 : decode cX12_findMust 10 = .ok (.getfield 98, 3) := by decide +kernel
theorem dX12_findMust_13 : decode cX12_findMust 13 = .ok (.iload_n 1, 1) := by decide +kernel
theorem dX12_findMust_14 : decode cX12_findMust 14 = .ok (.iconst 0, 1) := by decide +kernel
theorem dX12_findMust_15 : decode cX12_findMust 15 = .ok (.bastore, 1) := by decide +kernel
theorem dX12_findMust_16 : decode cX12_findMust 16 = .ok (.iinc 1 1, 3) := by decide +kernel
theorem dX12_findMust_19 : decode cX12_findMust 19 = .ok (.goto (-17), 3) := by decide +kernel
theorem dX12_findMust_22 : decode cX12_findMust 22 = .ok (.iconst 0, 1) := by decide +kernel
theorem dX12_findMust_23 : decode cX12_findMust 23 = .ok (.istore_n 1, 1) := by decide +kernel
theorem dX12_findMust_24 : decode cX12_findMust 24 = .ok (.iload_n 1, 1) := by decide +kernel
theorem dX12_findMust_25 : decode cX12_findMust 25 = .ok (.aload_n 0, 1) := by decide +kernel
theorem dX12_findMust_26 : decode cX12_findMust 26 = .ok (.getfield 241, 3) := by decide +kernel
theorem dX12_findMust_29 : decode cX12_findMust 29 = .ok (.if_icmp .ge 109, 3) := by decide +kernel
theorem dX12_findMust_32 : decode cX12_findMust 32 = .ok (.iconst 0, 1) := by decide +kernel
theorem dX12_findMust_33 : decode cX12_findMust 33 = .ok (.istore_n 2, 1) := by decide +kernel
theorem dX12_findMust_34 : decode cX12_findMust 34 = .ok (.iload_n 2, 1) := by decide +kernel
theorem dX12_findMust_35 : decode cX12_findMust 35 = .ok (.aload_n 0, 1) := by decide +kernel
theorem dX12_findMust_36 : decode cX12_findMust 36 = .ok (.getfield 92, 3) := by decide +kernel
theorem dX12_findMust_39 : decode cX12_findMust 39 = .ok (.iload_n 1, 1) := by decide +kernel
theorem dX12_findMust_40 : decode cX12_findMust 40 = .ok (.iaload, 1) := by decide +kernel
theorem dX12_findMust_41 : decode cX12_findMust 41 = .ok (.if_icmp .ge 91, 3) := by decide +kernel
theorem dX12_findMust_44 : decode cX12_findMust 44 = .ok (.iconst 0, 1) := by decide +kernel
theorem dX12_findMust_45 : decode cX12_findMust 45 = .ok (.istore_n 3, 1) := by decide +kernel
theorem dX12_findMust_46 : decode cX12_findMust 46 = .ok (.iload_n 3, 1) := by decide +kernel
theorem dX12_findMust_47 : decode cX12_findMust 47 = .ok (.aload_n 0, 1) := by decide +kernel
theorem dX12_findMust_48 : decode cX12_findMust 48 = .ok (.getfield 110, 3) := by decide +kernel
theorem dX12_findMust_51 : decode cX12_findMust 51 = .ok (.if_icmp .ge 75, 3) := by decide +kernel
theorem dX12_findMust_54 : decode cX12_findMust 54 = .ok (.aload_n 0, 1) := by decide +kernel
theorem dX12_findMust_55 : decode cX12_findMust 55 = .ok (.getfield 95, 3) := by decide +kernel
theorem dX12_findMust_58 : decode cX12_findMust 58 = .ok (.bipush 36, 2) := by decide +kernel
theorem dX12_findMust_60 : decode cX12_findMust 60 = .ok (.iload_n 1, 1) := by decide +kernel
theorem dX12_findMust_61 : decode cX12_findMust 61 = .ok (.imul, 1) := by decide +kernel
theorem dX12_findMust_62 : decode cX12_findMust 62 = .ok (.iload_n 2, 1) := by decide +kernel
theorem dX12_findMust_63 : decode cX12_findMust 63 = .ok (.iadd, 1) := by decide +kernel
theorem dX12_findMust_64 : decode cX12_findMust 64 = .ok (.iaload, 1) := by decide +kernel
theorem dX12_findMust_65 : decode cX12_findMust 65 = .ok (.iconst 1, 1) := by decide +kernel
theorem dX12_findMust_66 : decode cX12_findMust 66 = .ok (.if_icmp .ne 35, 3) := by decide +kernel
theorem dX12_findMust_69 : decode cX12_findMust 69 = .ok (.aload_n 0, 1) := by decide +kernel
theorem dX12_findMust_70 : decode cX12_findMust 70 = .ok (.getfield 89, 3) := by decide +kernel
theorem dX12_findMust_73 : decode cX12_findMust 73 = .ok (.iload_n 1, 1) := by decide +kernel
theorem dX12_findMust_74 : decode cX12_findMust 74 = .ok (.iaload, 1) := by decide +kernel
theorem dX12_findMust_75 : decode cX12_findMust 75 = .ok (.iload_n 3, 1) := by decide +kernel
theorem dX12_findMust_76 : decode cX12_findMust 76 = .ok (.ishr, 1) := by decide +kernel
theorem dX12_findMust_77 : decode cX12_findMust 77 = .ok (.iconst 1, 1) := by decide +kernel
theorem dX12_findMust_78 : decode cX12_findMust 78 = .ok (.iand, 1) := by decide +kernel
theorem dX12_findMust_79 : decode cX12_findMust 79 = .ok (.iconst 1, 1) := by decide +kernel
theorem dX12_findMust_80 : decode cX12_findMust 80 = .ok (.if_icmp .ne 21, 3) := by decide +kernel
theorem dX12_findMust_83 : decode cX12_findMust 83 = .ok (.aload_n 0, 1) := by decide +kernel
theorem dX12_findMust_84 : decode cX12_findMust 84 = .ok (.getfield 26, 3) := by decide +kernel
theorem dX12_findMust_87 : decode cX12_findMust 87 = .ok (.bipush 36, 2) := by decide +kernel
theorem dX12_findMust_89 : decode cX12_findMust 89 = .ok (.iload_n 3, 1) := by decide +kernel
theorem dX12_findMust_90 : decode cX12_findMust 90 = .ok (.imul, 1) := by decide +kernel
theorem dX12_findMust_91 : decode cX12_findMust 91 = .ok (.iload_n 2, 1) := by decide +kernel
theorem dX12_findMust_92 : decode cX12_findMust 92 = .ok (.iadd, 1) := by decide +kernel
theorem dX12_findMust_93 : decode cX12_findMust 93 = .ok (.iaload, 1) := by decide +kernel
theorem dX12_findMust_94 : decode cX12_findMust 94 = .ok (.ifCond .le 7, 3) := by decide +kernel
theorem dX12_findMust_97 : decode cX12_findMust 97 = .ok (.iconst 1, 1) := by decide +kernel
theorem dX12_findMust_98 : decode cX12_findMust 98 = .ok (.goto 4, 3) := by decide +kernel
theorem dX12_findMust_101 : decode cX12_findMust 101 = .ok (.iconst 0, 1) := by decide +kernel
theorem dX12_findMust_102 : decode cX12_findMust 102 = .ok (.istore 4, 2) := by decide +kernel
theorem dX12_findMust_104 : decode cX12_findMust 104 = .ok (.aload_n 0, 1) := by decide +kernel
theorem dX12_findMust_105 : decode cX12_findMust 105 = .ok (.getfield 98, 3) := by decide +kernel
theorem dX12_findMust_108 : decode cX12_findMust 108 = .ok (.bipush 36, 2) := by decide +kernel
theorem dX12_findMust_110 : decode cX12_findMust 110 = .ok (.iload_n 3, 1) := by decide +kernel
theorem dX12_findMust_111 : decode cX12_findMust 111 = .ok (.imul, 1) := by decide +kernel
theorem dX12_findMust_112 : decode cX12_findMust 112 = .ok (.iload_n 2, 1) := by decide +kernel
theorem dX12_findMust_113 : decode cX12_findMust 113 = .ok (.iadd, 1) := by decide +kernel
theorem dX12_findMust_114 : decode cX12_findMust 114 = .ok (.dup2, 1) := by decide +kernel
theorem dX12_findMust_115 : decode cX12_findMust 115 = .ok (.baload, 1) := by decide +kernel
theorem dX12_findMust_116 : decode cX12_findMust 116 = .ok (.iload 4, 2) := by decide +kernel
theorem dX12_findMust_118 : decode cX12_findMust 118 = .ok (.ior, 1) := by decide +kernel
theorem dX12_findMust_119 : decode cX12_findMust 119 = .ok (.bastore, 1) := by decide +kernel
theorem dX12_findMust_120 : decode cX12_findMust 120 = .ok (.iinc 3 1, 3) := by decide +kernel
theorem dX12_findMust_123 : decode cX12_findMust 123 = .ok (.goto (-77), 3) := by decide +kernel
theorem dX12_findMust_126 : decode cX12_findMust 126 = .ok (.iinc 2 1, 3) := by decide +kernel
theorem dX12_findMust_129 : decode cX12_findMust 129 = .ok (.goto (-95), 3) := by decide +kernel
theorem dX12_findMust_132 : decode cX12_findMust 132 = .ok (.iinc 1 1, 3) := by decide +kernel
theorem dX12_findMust_135 : decode cX12_findMust 135 = .ok (.goto (-111), 3) := by decide +kernel
theorem dX12_findMust_138 : decode cX12_findMust 138 = .ok (.return_, 1) := by decide +kernel
theorem dX12_mayBeWhole_0 : decode cX12_mayBeWhole 0 = .ok (.iconst 0, 1) := by decide +kernel
theorem dX12_mayBeWhole_1 : decode cX12_mayBeWhole 1 = .ok (.istore_n 3, 1) := by decide +kernel
theorem dX12_mayBeWhole_2 : decode cX12_mayBeWhole 2 = .ok (.iconst 0, 1) := by decide +kernel
theorem dX12_mayBeWhole_3 : decode cX12_mayBeWhole 3 = .ok (.istore 4, 2) := by decide +kernel
theorem dX12_mayBeWhole_5 : decode cX12_mayBeWhole 5 = .ok (.iload 4, 2) := by decide +kernel
theorem dX12_mayBeWhole_7 : decode cX12_mayBeWhole 7 = .ok (.aload_n 0, 1) := by decide +kernel
theorem dX12_mayBeWhole_8 : decode cX12_mayBeWhole 8 = .ok (.getfield 110, 3) := by decide +kernel
theorem dX12_mayBeWhole_11 : decode cX12_mayBeWhole 11 = .ok (.if_icmp .ge 62, 3) := by decide +kernel
theorem dX12_mayBeWhole_14 : decode cX12_mayBeWhole 14 = .ok (.iload_n 3, 1) := by decide +kernel
theorem dX12_mayBeWhole_15 : decode cX12_mayBeWhole 15 = .ok (.aload_n 0, 1) := by decide +kernel
theorem dX12_mayBeWhole_16 : decode cX12_mayBeWhole 16 = .ok (.getfield 89, 3) := by decide +kernel
theorem dX12_mayBeWhole_19 : decode cX12_mayBeWhole 19 = .ok (.iload_n 1, 1) := by decide +kernel
theorem dX12_mayBeWhole_20 : decode cX12_mayBeWhole 20 = .ok (.iaload, 1) := by decide +kernel
theorem dX12_mayBeWhole_21 : decode cX12_mayBeWhole 21 = .ok (.iload 4, 2) := by decide +kernel
theorem dX12_mayBeWhole_23 : decode cX12_mayBeWhole 23 = .ok (.ishr, 1) := by decide +kernel
theorem dX12_mayBeWhole_24 : decode cX12_mayBeWhole 24 = .ok (.iconst 1, 1) := by decide +kernel
theorem dX12_mayBeWhole_25 : decode cX12_mayBeWhole 25 = .ok (.iand, 1) := by decide +kernel
theorem dX12_mayBeWhole_26 : decode cX12_mayBeWhole 26 = .ok (.iconst 1, 1) := by decide +kernel
theorem dX12_mayBeWhole_27 : decode cX12_mayBeWhole 27 = .ok (.if_icmp .ne 37, 3) := by decide +kernel
theorem dX12_mayBeWhole_30 : decode cX12_mayBeWhole 30 = .ok (.aload_n 0, 1) := by decide +kernel
theorem dX12_mayBeWhole_31 : decode cX12_mayBeWhole 31 = .ok (.getfield 26, 3) := by decide +kernel
theorem dX12_mayBeWhole_34 : decode cX12_mayBeWhole 34 = .ok (.bipush 36, 2) := by decide +kernel
theorem dX12_mayBeWhole_36 : decode cX12_mayBeWhole 36 = .ok (.iload 4, 2) := by decide +kernel
theorem dX12_mayBeWhole_38 : decode cX12_mayBeWhole 38 = .ok (.imul, 1) := by decide +kernel
theorem dX12_mayBeWhole_39 : decode cX12_mayBeWhole 39 = .ok (.iload_n 2, 1) := by decide +kernel
theorem dX12_mayBeWhole_40 : decode cX12_mayBeWhole 40 = .ok (.iadd, 1) := by decide +kernel
theorem dX12_mayBeWhole_41 : decode cX12_mayBeWhole 41 = .ok (.iaload, 1) := by decide +kernel
theorem dX12_mayBeWhole_42 : decode cX12_mayBeWhole 42 = .ok (.ifCond .le 22, 3) := by decide +kernel
theorem dX12_mayBeWhole_45 : decode cX12_mayBeWhole 45 = .ok (.aload_n 0, 1) := by decide +kernel
theorem dX12_mayBeWhole_46 : decode cX12_mayBeWhole 46 = .ok (.getfield 98, 3) := by decide +kernel
theorem dX12_mayBeWhole_49 : decode cX12_mayBeWhole 49 = .ok (.bipush 36, 2) := by decide +kernel
theorem dX12_mayBeWhole_51 : decode cX12_mayBeWhole 51 = .ok (.iload 4, 2) := by decide +kernel
theorem dX12_mayBeWhole_53 : decode cX12_mayBeWhole 53 = .ok (.imul, 1) := by decide +kernel
theorem dX12_mayBeWhole_54 : decode cX12_mayBeWhole 54 = .ok (.iload_n 2, 1) := by decide +kernel
theorem dX12_mayBeWhole_55 : decode cX12_mayBeWhole 55 = .ok (.iadd, 1) := by decide +kernel
theorem dX12_mayBeWhole_56 : decode cX12_mayBeWhole 56 = .ok (.baload, 1) := by decide +kernel
theorem dX12_mayBeWhole_57 : decode cX12_mayBeWhole 57 = .ok (.ifCond .ne 7, 3) := by decide +kernel
theorem dX12_mayBeWhole_60 : decode cX12_mayBeWhole 60 = .ok (.iconst 1, 1) := by decide +kernel
theorem dX12_mayBeWhole_61 : decode cX12_mayBeWhole 61 = .ok (.goto 4, 3) := by decide +kernel
theorem dX12_mayBeWhole_64 : decode cX12_mayBeWhole 64 = .ok (.iconst 0, 1) := by decide +kernel
theorem dX12_mayBeWhole_65 : decode cX12_mayBeWhole 65 = .ok (.iadd, 1) := by decide +kernel
theorem dX12_mayBeWhole_66 : decode cX12_mayBeWhole 66 = .ok (.istore_n 3, 1) := by decide +kernel
theorem dX12_mayBeWhole_67 : decode cX12_mayBeWhole 67 = .ok (.iinc 4 1, 3) := by decide +kernel
theorem dX12_mayBeWhole_70 : decode cX12_mayBeWhole 70 = .ok (.goto (-65), 3) := by decide +kernel
theorem dX12_mayBeWhole_73 : decode cX12_mayBeWhole 73 = .ok (.iload_n 3, 1) := by decide +kernel
theorem dX12_mayBeWhole_74 : decode cX12_mayBeWhole 74 = .ok (.ireturn, 1) := by decide +kernel
theorem dX12_isExplained_0 : decode cX12_isExplained 0 = .ok (.aload_n 0, 1) := by decide +kernel
theorem dX12_isExplained_1 : decode cX12_isExplained 1 = .ok (.invokevirtual 263, 3) := by decide +kernel
theorem dX12_isExplained_4 : decode cX12_isExplained 4 = .ok (.iconst 0, 1) := by decide +kernel
theorem dX12_isExplained_5 : decode cX12_isExplained 5 = .ok (.istore_n 1, 1) := by decide +kernel
theorem dX12_isExplained_6 : decode cX12_isExplained 6 = .ok (.iload_n 1, 1) := by decide +kernel
theorem dX12_isExplained_7 : decode cX12_isExplained 7 = .ok (.aload_n 0, 1) := by decide +kernel
theorem dX12_isExplained_8 : decode cX12_isExplained 8 = .ok (.getfield 241, 3) := by decide +kernel
theorem dX12_isExplained_11 : decode cX12_isExplained 11 = .ok (.if_icmp .ge 52, 3) := by decide +kernel
theorem dX12_isExplained_14 : decode cX12_isExplained 14 = .ok (.iconst 0, 1) := by decide +kernel
theorem dX12_isExplained_15 : decode cX12_isExplained 15 = .ok (.istore_n 2, 1) := by decide +kernel
theorem dX12_isExplained_16 : decode cX12_isExplained 16 = .ok (.iload_n 2, 1) := by decide +kernel
theorem dX12_isExplained_17 : decode cX12_isExplained 17 = .ok (.aload_n 0, 1) := by decide +kernel
theorem dX12_isExplained_18 : decode cX12_isExplained 18 = .ok (.getfield 92, 3) := by decide +kernel
theorem dX12_isExplained_21 : decode cX12_isExplained 21 = .ok (.iload_n 1, 1) := by decide +kernel
theorem dX12_isExplained_22 : decode cX12_isExplained 22 = .ok (.iaload, 1) := by decide +kernel
theorem dX12_isExplained_23 : decode cX12_isExplained 23 = .ok (.if_icmp .ge 34, 3) := by decide +kernel
theorem dX12_isExplained_26 : decode cX12_isExplained 26 = .ok (.aload_n 0, 1) := by decide +kernel
theorem dX12_isExplained_27 : decode cX12_isExplained 27 = .ok (.getfield 95, 3) := by decide +kernel
theorem dX12_isExplained_30 : decode cX12_isExplained 30 = .ok (.bipush 36, 2) := by decide +kernel
theorem dX12_isExplained_32 : decode cX12_isExplained 32 = .ok (.iload_n 1, 1) := by decide +kernel
theorem dX12_isExplained_33 : decode cX12_isExplained 33 = .ok (.imul, 1) := by decide +kernel
theorem dX12_isExplained_34 : decode cX12_isExplained 34 = .ok (.iload_n 2, 1) := by decide +kernel
theorem dX12_isExplained_35 : decode cX12_isExplained 35 = .ok (.iadd, 1) := by decide +kernel
theorem dX12_isExplained_36 : decode cX12_isExplained 36 = .ok (.iaload, 1) := by decide +kernel
theorem dX12_isExplained_37 : decode cX12_isExplained 37 = .ok (.ifCond .ne 14, 3) := by decide +kernel
theorem dX12_isExplained_40 : decode cX12_isExplained 40 = .ok (.aload_n 0, 1) := by decide +kernel
theorem dX12_isExplained_41 : decode cX12_isExplained 41 = .ok (.iload_n 1, 1) := by decide +kernel
theorem dX12_isExplained_42 : decode cX12_isExplained 42 = .ok (.iload_n 2, 1) := by decide +kernel
theorem dX12_isExplained_43 : decode cX12_isExplained 43 = .ok (.invokevirtual 266, 3) := by decide +kernel
theorem dX12_isExplained_46 : decode cX12_isExplained 46 = .ok (.ifCond .ne 5, 3) := by decide +kernel
theorem dX12_isExplained_49 : decode cX12_isExplained 49 = .ok (.iconst 0, 1) := by decide +kernel
theorem dX12_isExplained_50 : decode cX12_isExplained 50 = .ok (.ireturn, 1) := by decide +kernel
theorem dX12_isExplained_51 : decode cX12_isExplained 51 = .ok (.iinc 2 1, 3) := by decide +kernel
theorem dX12_isExplained_54 : decode cX12_isExplained 54 = .ok (.goto (-38), 3) := by decide +kernel
theorem dX12_isExplained_57 : decode cX12_isExplained 57 = .ok (.iinc 1 1, 3) := by decide +kernel
theorem dX12_isExplained_60 : decode cX12_isExplained 60 = .ok (.goto (-54), 3) := by decide +kernel
theorem dX12_isExplained_63 : decode cX12_isExplained 63 = .ok (.iconst 1, 1) := by decide +kernel
theorem dX12_isExplained_64 : decode cX12_isExplained 64 = .ok (.ireturn, 1) := by decide +kernel
theorem dX12_worn_0 : decode cX12_worn 0 = .ok (.aload_n 0, 1) := by decide +kernel
theorem dX12_worn_1 : decode cX12_worn 1 = .ok (.invokevirtual 269, 3) := by decide +kernel
theorem dX12_worn_4 : decode cX12_worn 4 = .ok (.ifCond .ne 6, 3) := by decide +kernel
theorem dX12_worn_7 : decode cX12_worn 7 = .ok (.bipush (-9), 2) := by decide +kernel
theorem dX12_worn_9 : decode cX12_worn 9 = .ok (.ireturn, 1) := by decide +kernel
theorem dX12_worn_10 : decode cX12_worn 10 = .ok (.iconst 0, 1) := by decide +kernel
theorem dX12_worn_11 : decode cX12_worn 11 = .ok (.istore_n 1, 1) := by decide +kernel
theorem dX12_worn_12 : decode cX12_worn 12 = .ok (.iconst 0, 1) := by decide +kernel
theorem dX12_worn_13 : decode cX12_worn 13 = .ok (.istore_n 2, 1) := by decide +kernel
theorem dX12_worn_14 : decode cX12_worn 14 = .ok (.iload_n 2, 1) := by decide +kernel
theorem dX12_worn_15 : decode cX12_worn 15 = .ok (.sipush 432, 3) := by decide +kernel
theorem dX12_worn_18 : decode cX12_worn 18 = .ok (.if_icmp .ge 26, 3) := by decide +kernel
theorem dX12_worn_21 : decode cX12_worn 21 = .ok (.iload_n 1, 1) := by decide +kernel
theorem dX12_worn_22 : decode cX12_worn 22 = .ok (.aload_n 0, 1) := by decide +kernel
theorem dX12_worn_23 : decode cX12_worn 23 = .ok (.getfield 98, 3) := by decide +kernel
theorem dX12_worn_26 : decode cX12_worn 26 = .ok (.iload_n 2, 1) := by decide +kernel
theorem dX12_worn_27 : decode cX12_worn 27 = .ok (.baload, 1) := by decide +kernel
theorem dX12_worn_28 : decode cX12_worn 28 = .ok (.ifCond .eq 7, 3) := by decide +kernel
theorem dX12_worn_31 : decode cX12_worn 31 = .ok (.iconst 1, 1) := by decide +kernel
theorem dX12_worn_32 : decode cX12_worn 32 = .ok (.goto 4, 3) := by decide +kernel
theorem dX12_worn_35 : decode cX12_worn 35 = .ok (.iconst 0, 1) := by decide +kernel
theorem dX12_worn_36 : decode cX12_worn 36 = .ok (.iadd, 1) := by decide +kernel
theorem dX12_worn_37 : decode cX12_worn 37 = .ok (.istore_n 1, 1) := by decide +kernel
theorem dX12_worn_38 : decode cX12_worn 38 = .ok (.iinc 2 1, 3) := by decide +kernel
theorem dX12_worn_41 : decode cX12_worn 41 = .ok (.goto (-27), 3) := by decide +kernel
theorem dX12_worn_44 : decode cX12_worn 44 = .ok (.iload_n 1, 1) := by decide +kernel
theorem dX12_worn_45 : decode cX12_worn 45 = .ok (.ireturn, 1) := by decide +kernel
theorem dX12_sure_0 : decode cX12_sure 0 = .ok (.aload_n 0, 1) := by decide +kernel
theorem dX12_sure_1 : decode cX12_sure 1 = .ok (.iload_n 1, 1) := by decide +kernel
theorem dX12_sure_2 : decode cX12_sure 2 = .ok (.invokevirtual 148, 3) := by decide +kernel
theorem dX12_sure_5 : decode cX12_sure 5 = .ok (.ifCond .eq 25, 3) := by decide +kernel
theorem dX12_sure_8 : decode cX12_sure 8 = .ok (.aload_n 0, 1) := by decide +kernel
theorem dX12_sure_9 : decode cX12_sure 9 = .ok (.iload_n 2, 1) := by decide +kernel
theorem dX12_sure_10 : decode cX12_sure 10 = .ok (.invokevirtual 117, 3) := by decide +kernel
theorem dX12_sure_13 : decode cX12_sure 13 = .ok (.ifCond .eq 17, 3) := by decide +kernel
theorem dX12_sure_16 : decode cX12_sure 16 = .ok (.aload_n 0, 1) := by decide +kernel
theorem dX12_sure_17 : decode cX12_sure 17 = .ok (.getfield 26, 3) := by decide +kernel
theorem dX12_sure_20 : decode cX12_sure 20 = .ok (.bipush 36, 2) := by decide +kernel
theorem dX12_sure_22 : decode cX12_sure 22 = .ok (.iload_n 1, 1) := by decide +kernel
theorem dX12_sure_23 : decode cX12_sure 23 = .ok (.imul, 1) := by decide +kernel
theorem dX12_sure_24 : decode cX12_sure 24 = .ok (.iload_n 2, 1) := by decide +kernel
theorem dX12_sure_25 : decode cX12_sure 25 = .ok (.iadd, 1) := by decide +kernel
theorem dX12_sure_26 : decode cX12_sure 26 = .ok (.iaload, 1) := by decide +kernel
theorem dX12_sure_27 : decode cX12_sure 27 = .ok (.ifCond .ne 5, 3) := by decide +kernel
theorem dX12_sure_30 : decode cX12_sure 30 = .ok (.iconst (-1), 1) := by decide +kernel
theorem dX12_sure_31 : decode cX12_sure 31 = .ok (.ireturn, 1) := by decide +kernel
theorem dX12_sure_32 : decode cX12_sure 32 = .ok (.aload_n 0, 1) := by decide +kernel
theorem dX12_sure_33 : decode cX12_sure 33 = .ok (.invokevirtual 269, 3) := by decide +kernel
theorem dX12_sure_36 : decode cX12_sure 36 = .ok (.ifCond .ne 6, 3) := by decide +kernel
theorem dX12_sure_39 : decode cX12_sure 39 = .ok (.bipush (-3), 2) := by decide +kernel
theorem dX12_sure_41 : decode cX12_sure 41 = .ok (.ireturn, 1) := by decide +kernel
theorem dX12_sure_42 : decode cX12_sure 42 = .ok (.aload_n 0, 1) := by decide +kernel
theorem dX12_sure_43 : decode cX12_sure 43 = .ok (.getfield 98, 3) := by decide +kernel
theorem dX12_sure_46 : decode cX12_sure 46 = .ok (.bipush 36, 2) := by decide +kernel
theorem dX12_sure_48 : decode cX12_sure 48 = .ok (.iload_n 1, 1) := by decide +kernel
theorem dX12_sure_49 : decode cX12_sure 49 = .ok (.imul, 1) := by decide +kernel
theorem dX12_sure_50 : decode cX12_sure 50 = .ok (.iload_n 2, 1) := by decide +kernel
theorem dX12_sure_51 : decode cX12_sure 51 = .ok (.iadd, 1) := by decide +kernel
theorem dX12_sure_52 : decode cX12_sure 52 = .ok (.baload, 1) := by decide +kernel
theorem dX12_sure_53 : decode cX12_sure 53 = .ok (.ifCond .eq 5, 3) := by decide +kernel
theorem dX12_sure_56 : decode cX12_sure 56 = .ok (.iconst 1, 1) := by decide +kernel
theorem dX12_sure_57 : decode cX12_sure 57 = .ok (.ireturn, 1) := by decide +kernel
theorem dX12_sure_58 : decode cX12_sure 58 = .ok (.iconst 0, 1) := by decide +kernel
theorem dX12_sure_59 : decode cX12_sure 59 = .ok (.istore_n 3, 1) := by decide +kernel
theorem dX12_sure_60 : decode cX12_sure 60 = .ok (.iload_n 3, 1) := by decide +kernel
theorem dX12_sure_61 : decode cX12_sure 61 = .ok (.aload_n 0, 1) := by decide +kernel
theorem dX12_sure_62 : decode cX12_sure 62 = .ok (.getfield 241, 3) := by decide +kernel
theorem dX12_sure_65 : decode cX12_sure 65 = .ok (.if_icmp .ge 71, 3) := by decide +kernel
theorem dX12_sure_68 : decode cX12_sure 68 = .ok (.iload_n 2, 1) := by decide +kernel
theorem dX12_sure_69 : decode cX12_sure 69 = .ok (.aload_n 0, 1) := by decide +kernel
theorem dX12_sure_70 : decode cX12_sure 70 = .ok (.getfield 92, 3) := by decide +kernel
theorem dX12_sure_73 : decode cX12_sure 73 = .ok (.iload_n 3, 1) := by decide +kernel
theorem dX12_sure_74 : decode cX12_sure 74 = .ok (.iaload, 1) := by decide +kernel
theorem dX12_sure_75 : decode cX12_sure 75 = .ok (.if_icmp .ge 35, 3) := by decide +kernel
theorem dX12_sure_78 : decode cX12_sure 78 = .ok (.aload_n 0, 1) := by decide +kernel
theorem dX12_sure_79 : decode cX12_sure 79 = .ok (.getfield 95, 3) := by decide +kernel
theorem dX12_sure_82 : decode cX12_sure 82 = .ok (.bipush 36, 2) := by decide +kernel
theorem dX12_sure_84 : decode cX12_sure 84 = .ok (.iload_n 3, 1) := by decide +kernel
theorem dX12_sure_85 : decode cX12_sure 85 = .ok (.imul, 1) := by decide +kernel
theorem dX12_sure_86 : decode cX12_sure 86 = .ok (.iload_n 2, 1) := by decide +kernel
theorem dX12_sure_87 : decode cX12_sure 87 = .ok (.iadd, 1) := by decide +kernel
theorem dX12_sure_88 : decode cX12_sure 88 = .ok (.iaload, 1) := by decide +kernel
theorem dX12_sure_89 : decode cX12_sure 89 = .ok (.ifCond .ne 21, 3) := by decide +kernel
theorem dX12_sure_92 : decode cX12_sure 92 = .ok (.aload_n 0, 1) := by decide +kernel
theorem dX12_sure_93 : decode cX12_sure 93 = .ok (.getfield 89, 3) := by decide +kernel
theorem dX12_sure_96 : decode cX12_sure 96 = .ok (.iload_n 3, 1) := by decide +kernel
theorem dX12_sure_97 : decode cX12_sure 97 = .ok (.iaload, 1) := by decide +kernel
theorem dX12_sure_98 : decode cX12_sure 98 = .ok (.iload_n 1, 1) := by decide +kernel
theorem dX12_sure_99 : decode cX12_sure 99 = .ok (.ishr, 1) := by decide +kernel
theorem dX12_sure_100 : decode cX12_sure 100 = .ok (.iconst 1, 1) := by decide +kernel
theorem dX12_sure_101 : decode cX12_sure 101 = .ok (.iand, 1) := by decide +kernel
theorem dX12_sure_102 : decode cX12_sure 102 = .ok (.iconst 1, 1) := by decide +kernel
theorem dX12_sure_103 : decode cX12_sure 103 = .ok (.if_icmp .ne 7, 3) := by decide +kernel
theorem dX12_sure_106 : decode cX12_sure 106 = .ok (.iconst 1, 1) := by decide +kernel
theorem dX12_sure_107 : decode cX12_sure 107 = .ok (.goto 4, 3) := by decide +kernel
theorem dX12_sure_110 : decode cX12_sure 110 = .ok (.iconst 0, 1) := by decide +kernel
theorem dX12_sure_111 : decode cX12_sure 111 = .ok (.istore 4, 2) := by decide +kernel
theorem dX12_sure_113 : decode cX12_sure 113 = .ok (.iload 4, 2) := by decide +kernel
theorem dX12_sure_115 : decode cX12_sure 115 = .ok (.ifCond .eq 15, 3) := by decide +kernel
theorem dX12_sure_118 : decode cX12_sure 118 = .ok (.aload_n 0, 1) := by decide +kernel
theorem dX12_sure_119 : decode cX12_sure 119 = .ok (.iload_n 3, 1) := by decide +kernel
theorem dX12_sure_120 : decode cX12_sure 120 = .ok (.iload_n 2, 1) := by decide +kernel
theorem dX12_sure_121 : decode cX12_sure 121 = .ok (.invokevirtual 266, 3) := by decide +kernel
theorem dX12_sure_124 : decode cX12_sure 124 = .ok (.iconst 1, 1) := by decide +kernel
theorem dX12_sure_125 : decode cX12_sure 125 = .ok (.if_icmp .ne 5, 3) := by decide +kernel
theorem dX12_sure_128 : decode cX12_sure 128 = .ok (.iconst 0, 1) := by decide +kernel
theorem dX12_sure_129 : decode cX12_sure 129 = .ok (.ireturn, 1) := by decide +kernel
theorem dX12_sure_130 : decode cX12_sure 130 = .ok (.iinc 3 1, 3) := by decide +kernel
theorem dX12_sure_133 : decode cX12_sure 133 = .ok (.goto (-73), 3) := by decide +kernel
theorem dX12_sure_136 : decode cX12_sure 136 = .ok (.iconst 2, 1) := by decide +kernel
theorem dX12_sure_137 : decode cX12_sure 137 = .ok (.ireturn, 1) := by decide +kernel
theorem dX12_unhear_0 : decode cX12_unhear 0 = .ok (.aload_n 0, 1) := by decide +kernel
theorem dX12_unhear_1 : decode cX12_unhear 1 = .ok (.getfield 241, 3) := by decide +kernel
theorem dX12_unhear_4 : decode cX12_unhear 4 = .ok (.istore_n 1, 1) := by decide +kernel
theorem dX12_unhear_5 : decode cX12_unhear 5 = .ok (.aload_n 0, 1) := by decide +kernel
theorem dX12_unhear_6 : decode cX12_unhear 6 = .ok (.iconst 0, 1) := by decide +kernel
theorem dX12_unhear_7 : decode cX12_unhear 7 = .ok (.putfield 241, 3) := by decide +kernel
theorem dX12_unhear_10 : decode cX12_unhear 10 = .ok (.iload_n 1, 1) := by decide +kernel
theorem dX12_unhear_11 : decode cX12_unhear 11 = .ok (.ireturn, 1) := by decide +kernel
theorem dX12_songsWith_0 : decode cX12_songsWith 0 = .ok (.aload_n 0, 1) := by decide +kernel
theorem dX12_songsWith_1 : decode cX12_songsWith 1 = .ok (.getfield 7, 3) := by decide +kernel
theorem dX12_songsWith_4 : decode cX12_songsWith 4 = .ok (.iload_n 1, 1) := by decide +kernel
theorem dX12_songsWith_5 : decode cX12_songsWith 5 = .ok (.dup2, 1) := by decide +kernel
theorem dX12_songsWith_6 : decode cX12_songsWith 6 = .ok (.iaload, 1) := by decide +kernel
theorem dX12_songsWith_7 : decode cX12_songsWith 7 = .ok (.iload_n 2, 1) := by decide +kernel
theorem dX12_songsWith_8 : decode cX12_songsWith 8 = .ok (.iadd, 1) := by decide +kernel
theorem dX12_songsWith_9 : decode cX12_songsWith 9 = .ok (.iastore, 1) := by decide +kernel
theorem dX12_songsWith_10 : decode cX12_songsWith 10 = .ok (.aload_n 0, 1) := by decide +kernel
theorem dX12_songsWith_11 : decode cX12_songsWith 11 = .ok (.invokevirtual 217, 3) := by decide +kernel
theorem dX12_songsWith_14 : decode cX12_songsWith 14 = .ok (.invokestatic 238, 3) := by decide +kernel
theorem dX12_songsWith_17 : decode cX12_songsWith 17 = .ok (.istore_n 3, 1) := by decide +kernel
theorem dX12_songsWith_18 : decode cX12_songsWith 18 = .ok (.aload_n 0, 1) := by decide +kernel
theorem dX12_songsWith_19 : decode cX12_songsWith 19 = .ok (.getfield 7, 3) := by decide +kernel
theorem dX12_songsWith_22 : decode cX12_songsWith 22 = .ok (.iload_n 1, 1) := by decide +kernel
theorem dX12_songsWith_23 : decode cX12_songsWith 23 = .ok (.dup2, 1) := by decide +kernel
theorem dX12_songsWith_24 : decode cX12_songsWith 24 = .ok (.iaload, 1) := by decide +kernel
theorem dX12_songsWith_25 : decode cX12_songsWith 25 = .ok (.iload_n 2, 1) := by decide +kernel
theorem dX12_songsWith_26 : decode cX12_songsWith 26 = .ok (.isub, 1) := by decide +kernel
theorem dX12_songsWith_27 : decode cX12_songsWith 27 = .ok (.iastore, 1) := by decide +kernel
theorem dX12_songsWith_28 : decode cX12_songsWith 28 = .ok (.iload_n 3, 1) := by decide +kernel
theorem dX12_songsWith_29 : decode cX12_songsWith 29 = .ok (.ireturn, 1) := by decide +kernel
theorem dX12_isTurn_0 : decode cX12_isTurn 0 = .ok (.iload_n 0, 1) := by decide +kernel
theorem dX12_isTurn_1 : decode cX12_isTurn 1 = .ok (.bipush (-2), 2) := by decide +kernel
theorem dX12_isTurn_3 : decode cX12_isTurn 3 = .ok (.if_icmp .eq 18, 3) := by decide +kernel
theorem dX12_isTurn_6 : decode cX12_isTurn 6 = .ok (.iload_n 0, 1) := by decide +kernel
theorem dX12_isTurn_7 : decode cX12_isTurn 7 = .ok (.iconst (-1), 1) := by decide +kernel
theorem dX12_isTurn_8 : decode cX12_isTurn 8 = .ok (.if_icmp .eq 13, 3) := by decide +kernel
theorem dX12_isTurn_11 : decode cX12_isTurn 11 = .ok (.iload_n 0, 1) := by decide +kernel
theorem dX12_isTurn_12 : decode cX12_isTurn 12 = .ok (.iconst 1, 1) := by decide +kernel
theorem dX12_isTurn_13 : decode cX12_isTurn 13 = .ok (.if_icmp .eq 8, 3) := by decide +kernel
theorem dX12_isTurn_16 : decode cX12_isTurn 16 = .ok (.iload_n 0, 1) := by decide +kernel
theorem dX12_isTurn_17 : decode cX12_isTurn 17 = .ok (.iconst 2, 1) := by decide +kernel
theorem dX12_isTurn_18 : decode cX12_isTurn 18 = .ok (.if_icmp .ne 7, 3) := by decide +kernel
theorem dX12_isTurn_21 : decode cX12_isTurn 21 = .ok (.iconst 1, 1) := by decide +kernel
theorem dX12_isTurn_22 : decode cX12_isTurn 22 = .ok (.goto 4, 3) := by decide +kernel
theorem dX12_isTurn_25 : decode cX12_isTurn 25 = .ok (.iconst 0, 1) := by decide +kernel
theorem dX12_isTurn_26 : decode cX12_isTurn 26 = .ok (.ireturn, 1) := by decide +kernel
theorem dX12_otherwise_0 : decode cX12_otherwise 0 = .ok (.aload_n 0, 1) := by decide +kernel
theorem dX12_otherwise_1 : decode cX12_otherwise 1 = .ok (.iload_n 1, 1) := by decide +kernel
theorem dX12_otherwise_2 : decode cX12_otherwise 2 = .ok (.invokevirtual 117, 3) := by decide +kernel
theorem dX12_otherwise_5 : decode cX12_otherwise 5 = .ok (.ifCond .ne 5, 3) := by decide +kernel
theorem dX12_otherwise_8 : decode cX12_otherwise 8 = .ok (.iconst (-1), 1) := by decide +kernel
theorem dX12_otherwise_9 : decode cX12_otherwise 9 = .ok (.ireturn, 1) := by decide +kernel
theorem dX12_otherwise_10 : decode cX12_otherwise 10 = .ok (.iload_n 2, 1) := by decide +kernel
theorem dX12_otherwise_11 : decode cX12_otherwise 11 = .ok (.invokestatic 273, 3) := by decide +kernel
theorem dX12_otherwise_14 : decode cX12_otherwise 14 = .ok (.ifCond .eq 20, 3) := by decide +kernel
theorem dX12_otherwise_17 : decode cX12_otherwise 17 = .ok (.aload_n 0, 1) := by decide +kernel
theorem dX12_otherwise_18 : decode cX12_otherwise 18 = .ok (.getfield 7, 3) := by decide +kernel
theorem dX12_otherwise_21 : decode cX12_otherwise 21 = .ok (.iload_n 1, 1) := by decide +kernel
theorem dX12_otherwise_22 : decode cX12_otherwise 22 = .ok (.iaload, 1) := by decide +kernel
theorem dX12_otherwise_23 : decode cX12_otherwise 23 = .ok (.iload_n 2, 1) := by decide +kernel
theorem dX12_otherwise_24 : decode cX12_otherwise 24 = .ok (.iadd, 1) := by decide +kernel
theorem dX12_otherwise_25 : decode cX12_otherwise 25 = .ok (.iconst 0, 1) := by decide +kernel
theorem dX12_otherwise_26 : decode cX12_otherwise 26 = .ok (.bipush 60, 2) := by decide +kernel
theorem dX12_otherwise_28 : decode cX12_otherwise 28 = .ok (.invokestatic 113, 3) := by decide +kernel
theorem dX12_otherwise_31 : decode cX12_otherwise 31 = .ok (.ifCond .ne 6, 3) := by decide +kernel
theorem dX12_otherwise_34 : decode cX12_otherwise 34 = .ok (.bipush (-2), 2) := by decide +kernel
theorem dX12_otherwise_36 : decode cX12_otherwise 36 = .ok (.ireturn, 1) := by decide +kernel
theorem dX12_otherwise_37 : decode cX12_otherwise 37 = .ok (.aload_n 0, 1) := by decide +kernel
theorem dX12_otherwise_38 : decode cX12_otherwise 38 = .ok (.iload_n 1, 1) := by decide +kernel
theorem dX12_otherwise_39 : decode cX12_otherwise 39 = .ok (.iload_n 2, 1) := by decide +kernel
theorem dX12_otherwise_40 : decode cX12_otherwise 40 = .ok (.invokevirtual 276, 3) := by decide +kernel
theorem dX12_otherwise_43 : decode cX12_otherwise 43 = .ok (.ireturn, 1) := by decide +kernel
theorem dX12_best_0 : decode cX12_best 0 = .ok (.iload_n 1, 1) := by decide +kernel
theorem dX12_best_1 : decode cX12_best 1 = .ok (.iconst 0, 1) := by decide +kernel
theorem dX12_best_2 : decode cX12_best 2 = .ok (.iconst 2, 1) := by decide +kernel
theorem dX12_best_3 : decode cX12_best 3 = .ok (.invokestatic 113, 3) := by decide +kernel
theorem dX12_best_6 : decode cX12_best 6 = .ok (.ifCond .ne 6, 3) := by decide +kernel
theorem dX12_best_9 : decode cX12_best 9 = .ok (.bipush 99, 2) := by decide +kernel
theorem dX12_best_11 : decode cX12_best 11 = .ok (.ireturn, 1) := by decide +kernel
theorem dX12_best_12 : decode cX12_best 12 = .ok (.bipush (-9), 2) := by decide +kernel
theorem dX12_best_14 : decode cX12_best 14 = .ok (.istore_n 2, 1) := by decide +kernel
theorem dX12_best_15 : decode cX12_best 15 = .ok (.iconst 0, 1) := by decide +kernel
theorem dX12_best_16 : decode cX12_best 16 = .ok (.istore_n 3, 1) := by decide +kernel
theorem dX12_best_17 : decode cX12_best 17 = .ok (.aload_n 0, 1) := by decide +kernel
theorem dX12_best_18 : decode cX12_best 18 = .ok (.invokevirtual 217, 3) := by decide +kernel
theorem dX12_best_21 : decode cX12_best 21 = .ok (.invokestatic 238, 3) := by decide +kernel
theorem dX12_best_24 : decode cX12_best 24 = .ok (.istore 4, 2) := by decide +kernel
theorem dX12_best_26 : decode cX12_best 26 = .ok (.iconst 0, 1) := by decide +kernel
theorem dX12_best_27 : decode cX12_best 27 = .ok (.istore 5, 2) := by decide +kernel
theorem dX12_best_29 : decode cX12_best 29 = .ok (.iload 5, 2) := by decide +kernel
theorem dX12_best_31 : decode cX12_best 31 = .ok (.aload_n 0, 1) := by decide +kernel
theorem dX12_best_32 : decode cX12_best 32 = .ok (.getfield 107, 3) := by decide +kernel
theorem dX12_best_35 : decode cX12_best 35 = .ok (.if_icmp .ge 79, 3) := by decide +kernel
theorem dX12_best_38 : decode cX12_best 38 = .ok (.bipush (-2), 2) := by decide +kernel
theorem dX12_best_40 : decode cX12_best 40 = .ok (.istore 6, 2) := by decide +kernel
theorem dX12_best_42 : decode cX12_best 42 = .ok (.iload 6, 2) := by decide +kernel
theorem dX12_best_44 : decode cX12_best 44 = .ok (.iconst 2, 1) := by decide +kernel
theorem dX12_best_45 : decode cX12_best 45 = .ok (.if_icmp .gt 63, 3) := by decide +kernel
theorem dX12_best_48 : decode cX12_best 48 = .ok (.iload 6, 2) := by decide +kernel
theorem dX12_best_50 : decode cX12_best 50 = .ok (.ifCond .eq 52, 3) := by decide +kernel
theorem dX12_best_53 : decode cX12_best 53 = .ok (.aload_n 0, 1) := by decide +kernel
theorem dX12_best_54 : decode cX12_best 54 = .ok (.getfield 7, 3) := by decide +kernel
theorem dX12_best_57 : decode cX12_best 57 = .ok (.iload 5, 2) := by decide +kernel
theorem dX12_best_59 : decode cX12_best 59 = .ok (.iaload, 1) := by decide +kernel
theorem dX12_best_60 : decode cX12_best 60 = .ok (.iload 6, 2) := by decide +kernel
theorem dX12_best_62 : decode cX12_best 62 = .ok (.iadd, 1) := by decide +kernel
theorem dX12_best_63 : decode cX12_best 63 = .ok (.iconst 0, 1) := by decide +kernel
theorem dX12_best_64 : decode cX12_best 64 = .ok (.bipush 60, 2) := by decide +kernel
theorem dX12_best_66 : decode cX12_best 66 = .ok (.invokestatic 113, 3) := by decide +kernel
theorem dX12_best_69 : decode cX12_best 69 = .ok (.ifCond .ne 6, 3) := by decide +kernel
theorem dX12_best_72 : decode cX12_best 72 = .ok (.goto 30, 3) := by decide +kernel
theorem dX12_best_75 : decode cX12_best 75 = .ok (.aload_n 0, 1) := by decide +kernel
theorem dX12_best_76 : decode cX12_best 76 = .ok (.iload 5, 2) := by decide +kernel
theorem dX12_best_78 : decode cX12_best 78 = .ok (.iload 6, 2) := by decide +kernel
theorem dX12_best_80 : decode cX12_best 80 = .ok (.invokevirtual 276, 3) := by decide +kernel
theorem dX12_best_83 : decode cX12_best 83 = .ok (.istore 7, 2) := by decide +kernel
theorem dX12_best_85 : decode cX12_best 85 = .ok (.iload 7, 2) := by decide +kernel
theorem dX12_best_87 : decode cX12_best 87 = .ok (.iload 4, 2) := by decide +kernel
theorem dX12_best_89 : decode cX12_best 89 = .ok (.if_icmp .le 13, 3) := by decide +kernel
theorem dX12_best_92 : decode cX12_best 92 = .ok (.iload 7, 2) := by decide +kernel
theorem dX12_best_94 : decode cX12_best 94 = .ok (.istore 4, 2) := by decide +kernel
theorem dX12_best_96 : decode cX12_best 96 = .ok (.iload 5, 2) := by decide +kernel
theorem dX12_best_98 : decode cX12_best 98 = .ok (.istore_n 2, 1) := by decide +kernel
theorem dX12_best_99 : decode cX12_best 99 = .ok (.iload 6, 2) := by decide +kernel
theorem dX12_best_101 : decode cX12_best 101 = .ok (.istore_n 3, 1) := by decide +kernel
theorem dX12_best_102 : decode cX12_best 102 = .ok (.iinc 6 1, 3) := by decide +kernel
theorem dX12_best_105 : decode cX12_best 105 = .ok (.goto (-63), 3) := by decide +kernel
theorem dX12_best_108 : decode cX12_best 108 = .ok (.iinc 5 1, 3) := by decide +kernel
theorem dX12_best_111 : decode cX12_best 111 = .ok (.goto (-82), 3) := by decide +kernel
theorem dX12_best_114 : decode cX12_best 114 = .ok (.iload_n 1, 1) := by decide +kernel
theorem dX12_best_115 : decode cX12_best 115 = .ok (.ifCond .ne 7, 3) := by decide +kernel
theorem dX12_best_118 : decode cX12_best 118 = .ok (.iload_n 2, 1) := by decide +kernel
theorem dX12_best_119 : decode cX12_best 119 = .ok (.goto 25, 3) := by decide +kernel
theorem dX12_best_122 : decode cX12_best 122 = .ok (.iload_n 1, 1) := by decide +kernel
theorem dX12_best_123 : decode cX12_best 123 = .ok (.iconst 1, 1) := by decide +kernel
theorem dX12_best_124 : decode cX12_best 124 = .ok (.if_icmp .ne 7, 3) := by decide +kernel
theorem dX12_best_127 : decode cX12_best 127 = .ok (.iload_n 3, 1) := by decide +kernel
theorem dX12_best_128 : decode cX12_best 128 = .ok (.goto 16, 3) := by decide +kernel
theorem dX12_best_131 : decode cX12_best 131 = .ok (.iload_n 2, 1) := by decide +kernel
theorem dX12_best_132 : decode cX12_best 132 = .ok (.bipush (-9), 2) := by decide +kernel
theorem dX12_best_134 : decode cX12_best 134 = .ok (.if_icmp .ne 8, 3) := by decide +kernel
theorem dX12_best_137 : decode cX12_best 137 = .ok (.bipush (-9), 2) := by decide +kernel
theorem dX12_best_139 : decode cX12_best 139 = .ok (.goto 5, 3) := by decide +kernel
theorem dX12_best_142 : decode cX12_best 142 = .ok (.iload 4, 2) := by decide +kernel
theorem dX12_best_144 : decode cX12_best 144 = .ok (.ireturn, 1) := by decide +kernel
theorem dX12_sheet_0 : decode cX12_sheet 0 = .ok (.aload_n 0, 1) := by decide +kernel
theorem dX12_sheet_1 : decode cX12_sheet 1 = .ok (.iconst 0, 1) := by decide +kernel
theorem dX12_sheet_2 : decode cX12_sheet 2 = .ok (.putfield 101, 3) := by decide +kernel
theorem dX12_sheet_5 : decode cX12_sheet 5 = .ok (.iload_n 1, 1) := by decide +kernel
theorem dX12_sheet_6 : decode cX12_sheet 6 = .ok (.iconst 0, 1) := by decide +kernel
theorem dX12_sheet_7 : decode cX12_sheet 7 = .ok (.iconst 3, 1) := by decide +kernel
theorem dX12_sheet_8 : decode cX12_sheet 8 = .ok (.invokestatic 113, 3) := by decide +kernel
theorem dX12_sheet_11 : decode cX12_sheet 11 = .ok (.ifCond .ne 5, 3) := by decide +kernel
theorem dX12_sheet_14 : decode cX12_sheet 14 = .ok (.iconst (-1), 1) := by decide +kernel
theorem dX12_sheet_15 : decode cX12_sheet 15 = .ok (.ireturn, 1) := by decide +kernel
theorem dX12_sheet_16 : decode cX12_sheet 16 = .ok (.iload_n 2, 1) := by decide +kernel
theorem dX12_sheet_17 : decode cX12_sheet 17 = .ok (.iconst 0, 1) := by decide +kernel
theorem dX12_sheet_18 : decode cX12_sheet 18 = .ok (.iconst 2, 1) := by decide +kernel
theorem dX12_sheet_19 : decode cX12_sheet 19 = .ok (.invokestatic 113, 3) := by decide +kernel
theorem dX12_sheet_22 : decode cX12_sheet 22 = .ok (.ifCond .eq 9, 3) := by decide +kernel
theorem dX12_sheet_25 : decode cX12_sheet 25 = .ok (.iload_n 3, 1) := by decide +kernel
theorem dX12_sheet_26 : decode cX12_sheet 26 = .ok (.bipush 64, 2) := by decide +kernel
theorem dX12_sheet_28 : decode cX12_sheet 28 = .ok (.if_icmp .le 6, 3) := by decide +kernel
theorem dX12_sheet_31 : decode cX12_sheet 31 = .ok (.bipush (-2), 2) := by decide +kernel
theorem dX12_sheet_33 : decode cX12_sheet 33 = .ok (.ireturn, 1) := by decide +kernel
theorem dX12_sheet_34 : decode cX12_sheet 34 = .ok (.iload_n 3, 1) := by decide +kernel
theorem dX12_sheet_35 : decode cX12_sheet 35 = .ok (.ifCond .ge 9, 3) := by decide +kernel
theorem dX12_sheet_38 : decode cX12_sheet 38 = .ok (.aload_n 0, 1) := by decide +kernel
theorem dX12_sheet_39 : decode cX12_sheet 39 = .ok (.iconst 4, 1) := by decide +kernel
theorem dX12_sheet_40 : decode cX12_sheet 40 = .ok (.invokevirtual 186, 3) := by decide +kernel
theorem dX12_sheet_43 : decode cX12_sheet 43 = .ok (.ireturn, 1) := by decide +kernel
theorem dX12_sheet_44 : decode cX12_sheet 44 = .ok (.aload_n 0, 1) := by decide +kernel
theorem dX12_sheet_45 : decode cX12_sheet 45 = .ok (.getfield 53, 3) := by decide +kernel
theorem dX12_sheet_48 : decode cX12_sheet 48 = .ok (.iload_n 1, 1) := by decide +kernel
theorem dX12_sheet_49 : decode cX12_sheet 49 = .ok (.iload_n 2, 1) := by decide +kernel
theorem dX12_sheet_50 : decode cX12_sheet 50 = .ok (.iastore, 1) := by decide +kernel
theorem dX12_sheet_51 : decode cX12_sheet 51 = .ok (.aload_n 0, 1) := by decide +kernel
theorem dX12_sheet_52 : decode cX12_sheet 52 = .ok (.getfield 56, 3) := by decide +kernel
theorem dX12_sheet_55 : decode cX12_sheet 55 = .ok (.iload_n 1, 1) := by decide +kernel
theorem dX12_sheet_56 : decode cX12_sheet 56 = .ok (.iload_n 3, 1) := by decide +kernel
theorem dX12_sheet_57 : decode cX12_sheet 57 = .ok (.iastore, 1) := by decide +kernel
theorem dX12_sheet_58 : decode cX12_sheet 58 = .ok (.iconst 0, 1) := by decide +kernel
theorem dX12_sheet_59 : decode cX12_sheet 59 = .ok (.istore 4, 2) := by decide +kernel
theorem dX12_sheet_61 : decode cX12_sheet 61 = .ok (.iload 4, 2) := by decide +kernel
theorem dX12_sheet_63 : decode cX12_sheet 63 = .ok (.bipush 64, 2) := by decide +kernel
theorem dX12_sheet_65 : decode cX12_sheet 65 = .ok (.if_icmp .ge 22, 3) := by decide +kernel
theorem dX12_sheet_68 : decode cX12_sheet 68 = .ok (.aload_n 0, 1) := by decide +kernel
theorem dX12_sheet_69 : decode cX12_sheet 69 = .ok (.getfield 59, 3) := by decide +kernel
theorem dX12_sheet_72 : decode cX12_sheet 72 = .ok (.bipush 64, 2) := by decide +kernel
theorem dX12_sheet_74 : decode cX12_sheet 74 = .ok (.iload_n 1, 1) := by decide +kernel
theorem dX12_sheet_75 : decode cX12_sheet 75 = .ok (.imul, 1) := by decide +kernel
theorem dX12_sheet_76 : decode cX12_sheet 76 = .ok (.iload 4, 2) := by decide +kernel
theorem dX12_sheet_78 : decode cX12_sheet 78 = .ok (.iadd, 1) := by decide +kernel
theorem dX12_sheet_79 : decode cX12_sheet 79 = .ok (.iconst 0, 1) := by decide +kernel
theorem dX12_sheet_80 : decode cX12_sheet 80 = .ok (.iastore, 1) := by decide +kernel
theorem dX12_sheet_81 : decode cX12_sheet 81 = .ok (.iinc 4 1, 3) := by decide +kernel
theorem dX12_sheet_84 : decode cX12_sheet 84 = .ok (.goto (-23), 3) := by decide +kernel
theorem dX12_sheet_87 : decode cX12_sheet 87 = .ok (.iconst 1, 1) := by decide +kernel
theorem dX12_sheet_88 : decode cX12_sheet 88 = .ok (.ireturn, 1) := by decide +kernel
theorem dX12_lose_0 : decode cX12_lose 0 = .ok (.iload_n 1, 1) := by decide +kernel
theorem dX12_lose_1 : decode cX12_lose 1 = .ok (.iconst 0, 1) := by decide +kernel
theorem dX12_lose_2 : decode cX12_lose 2 = .ok (.iconst 3, 1) := by decide +kernel
theorem dX12_lose_3 : decode cX12_lose 3 = .ok (.invokestatic 113, 3) := by decide +kernel
theorem dX12_lose_6 : decode cX12_lose 6 = .ok (.ifCond .ne 5, 3) := by decide +kernel
theorem dX12_lose_9 : decode cX12_lose 9 = .ok (.iconst (-1), 1) := by decide +kernel
theorem dX12_lose_10 : decode cX12_lose 10 = .ok (.ireturn, 1) := by decide +kernel
theorem dX12_lose_11 : decode cX12_lose 11 = .ok (.aload_n 0, 1) := by decide +kernel
theorem dX12_lose_12 : decode cX12_lose 12 = .ok (.getfield 53, 3) := by decide +kernel
theorem dX12_lose_15 : decode cX12_lose 15 = .ok (.iload_n 1, 1) := by decide +kernel
theorem dX12_lose_16 : decode cX12_lose 16 = .ok (.iaload, 1) := by decide +kernel
theorem dX12_lose_17 : decode cX12_lose 17 = .ok (.bipush (-9), 2) := by decide +kernel
theorem dX12_lose_19 : decode cX12_lose 19 = .ok (.if_icmp .ne 7, 3) := by decide +kernel
theorem dX12_lose_22 : decode cX12_lose 22 = .ok (.iconst 0, 1) := by decide +kernel
theorem dX12_lose_23 : decode cX12_lose 23 = .ok (.goto 4, 3) := by decide +kernel
theorem dX12_lose_26 : decode cX12_lose 26 = .ok (.iconst 1, 1) := by decide +kernel
theorem dX12_lose_27 : decode cX12_lose 27 = .ok (.istore_n 2, 1) := by decide +kernel
theorem dX12_lose_28 : decode cX12_lose 28 = .ok (.aload_n 0, 1) := by decide +kernel
theorem dX12_lose_29 : decode cX12_lose 29 = .ok (.getfield 53, 3) := by decide +kernel
theorem dX12_lose_32 : decode cX12_lose 32 = .ok (.iload_n 1, 1) := by decide +kernel
theorem dX12_lose_33 : decode cX12_lose 33 = .ok (.bipush (-9), 2) := by decide +kernel
theorem dX12_lose_35 : decode cX12_lose 35 = .ok (.iastore, 1) := by decide +kernel
theorem dX12_lose_36 : decode cX12_lose 36 = .ok (.iload_n 2, 1) := by decide +kernel
theorem dX12_lose_37 : decode cX12_lose 37 = .ok (.ireturn, 1) := by decide +kernel
theorem dX12_put_0 : decode cX12_put 0 = .ok (.aload_n 0, 1) := by decide +kernel
theorem dX12_put_1 : decode cX12_put 1 = .ok (.iconst 0, 1) := by decide +kernel
theorem dX12_put_2 : decode cX12_put 2 = .ok (.putfield 101, 3) := by decide +kernel
theorem dX12_put_5 : decode cX12_put 5 = .ok (.iload_n 1, 1) := by decide +kernel
theorem dX12_put_6 : decode cX12_put 6 = .ok (.iconst 0, 1) := by decide +kernel
theorem dX12_put_7 : decode cX12_put 7 = .ok (.iconst 3, 1) := by decide +kernel
theorem dX12_put_8 : decode cX12_put 8 = .ok (.invokestatic 113, 3) := by decide +kernel
theorem dX12_put_11 : decode cX12_put 11 = .ok (.ifCond .ne 5, 3) := by decide +kernel
theorem dX12_put_14 : decode cX12_put 14 = .ok (.iconst (-1), 1) := by decide +kernel
theorem dX12_put_15 : decode cX12_put 15 = .ok (.ireturn, 1) := by decide +kernel
theorem dX12_put_16 : decode cX12_put 16 = .ok (.aload_n 0, 1) := by decide +kernel
theorem dX12_put_17 : decode cX12_put 17 = .ok (.getfield 53, 3) := by decide +kernel
theorem dX12_put_20 : decode cX12_put 20 = .ok (.iload_n 1, 1) := by decide +kernel
theorem dX12_put_21 : decode cX12_put 21 = .ok (.iaload, 1) := by decide +kernel
theorem dX12_put_22 : decode cX12_put 22 = .ok (.bipush (-9), 2) := by decide +kernel
theorem dX12_put_24 : decode cX12_put 24 = .ok (.if_icmp .ne 9, 3) := by decide +kernel
theorem dX12_put_27 : decode cX12_put 27 = .ok (.aload_n 0, 1) := by decide +kernel
theorem dX12_put_28 : decode cX12_put 28 = .ok (.iconst 1, 1) := by decide +kernel
theorem dX12_put_29 : decode cX12_put 29 = .ok (.invokevirtual 186, 3) := by decide +kernel
theorem dX12_put_32 : decode cX12_put 32 = .ok (.ireturn, 1) := by decide +kernel
theorem dX12_put_33 : decode cX12_put 33 = .ok (.iload_n 2, 1) := by decide +kernel
theorem dX12_put_34 : decode cX12_put 34 = .ok (.iconst 0, 1) := by decide +kernel
theorem dX12_put_35 : decode cX12_put 35 = .ok (.aload_n 0, 1) := by decide +kernel
theorem dX12_put_36 : decode cX12_put 36 = .ok (.getfield 56, 3) := by decide +kernel
theorem dX12_put_39 : decode cX12_put 39 = .ok (.iload_n 1, 1) := by decide +kernel
theorem dX12_put_40 : decode cX12_put 40 = .ok (.iaload, 1) := by decide +kernel
theorem dX12_put_41 : decode cX12_put 41 = .ok (.iconst 1, 1) := by decide +kernel
theorem dX12_put_42 : decode cX12_put 42 = .ok (.isub, 1) := by decide +kernel
theorem dX12_put_43 : decode cX12_put 43 = .ok (.invokestatic 113, 3) := by decide +kernel
theorem dX12_put_46 : decode cX12_put 46 = .ok (.ifCond .ne 9, 3) := by decide +kernel
theorem dX12_put_49 : decode cX12_put 49 = .ok (.aload_n 0, 1) := by decide +kernel
theorem dX12_put_50 : decode cX12_put 50 = .ok (.iconst 3, 1) := by decide +kernel
theorem dX12_put_51 : decode cX12_put 51 = .ok (.invokevirtual 186, 3) := by decide +kernel
theorem dX12_put_54 : decode cX12_put 54 = .ok (.ireturn, 1) := by decide +kernel
theorem dX12_put_55 : decode cX12_put 55 = .ok (.aload_n 0, 1) := by decide +kernel
theorem dX12_put_56 : decode cX12_put 56 = .ok (.getfield 59, 3) := by decide +kernel
theorem dX12_put_59 : decode cX12_put 59 = .ok (.bipush 64, 2) := by decide +kernel
theorem dX12_put_61 : decode cX12_put 61 = .ok (.iload_n 1, 1) := by decide +kernel
theorem dX12_put_62 : decode cX12_put 62 = .ok (.imul, 1) := by decide +kernel
theorem dX12_put_63 : decode cX12_put 63 = .ok (.iload_n 2, 1) := by decide +kernel
theorem dX12_put_64 : decode cX12_put 64 = .ok (.iadd, 1) := by decide +kernel
theorem dX12_put_65 : decode cX12_put 65 = .ok (.aload_n 0, 1) := by decide +kernel
theorem dX12_put_66 : decode cX12_put 66 = .ok (.getfield 53, 3) := by decide +kernel
theorem dX12_put_69 : decode cX12_put 69 = .ok (.iload_n 1, 1) := by decide +kernel
theorem dX12_put_70 : decode cX12_put 70 = .ok (.iaload, 1) := by decide +kernel
theorem dX12_put_71 : decode cX12_put 71 = .ok (.ifCond .ne 8, 3) := by decide +kernel
theorem dX12_put_74 : decode cX12_put 74 = .ok (.iload_n 3, 1) := by decide +kernel
theorem dX12_put_75 : decode cX12_put 75 = .ok (.i2b, 1) := by decide +kernel
theorem dX12_put_76 : decode cX12_put 76 = .ok (.goto 19, 3) := by decide +kernel
theorem dX12_put_79 : decode cX12_put 79 = .ok (.aload_n 0, 1) := by decide +kernel
theorem dX12_put_80 : decode cX12_put 80 = .ok (.getfield 53, 3) := by decide +kernel
theorem dX12_put_83 : decode cX12_put 83 = .ok (.iload_n 1, 1) := by decide +kernel
theorem dX12_put_84 : decode cX12_put 84 = .ok (.iaload, 1) := by decide +kernel
theorem dX12_put_85 : decode cX12_put 85 = .ok (.iconst 1, 1) := by decide +kernel
theorem dX12_put_86 : decode cX12_put 86 = .ok (.if_icmp .ne 8, 3) := by decide +kernel
theorem dX12_put_89 : decode cX12_put 89 = .ok (.iload_n 3, 1) := by decide +kernel
theorem dX12_put_90 : decode cX12_put 90 = .ok (.i2s, 1) := by decide +kernel
theorem dX12_put_91 : decode cX12_put 91 = .ok (.goto 4, 3) := by decide +kernel
theorem dX12_put_94 : decode cX12_put 94 = .ok (.iload_n 3, 1) := by decide +kernel
theorem dX12_put_95 : decode cX12_put 95 = .ok (.iastore, 1) := by decide +kernel
theorem dX12_put_96 : decode cX12_put 96 = .ok (.iconst 1, 1) := by decide +kernel
theorem dX12_put_97 : decode cX12_put 97 = .ok (.ireturn, 1) := by decide +kernel
theorem dX12_at_0 : decode cX12_at 0 = .ok (.aload_n 0, 1) := by decide +kernel
theorem dX12_at_1 : decode cX12_at 1 = .ok (.iconst 0, 1) := by decide +kernel
theorem dX12_at_2 : decode cX12_at 2 = .ok (.putfield 101, 3) := by decide +kernel
theorem dX12_at_5 : decode cX12_at 5 = .ok (.iload_n 1, 1) := by decide +kernel
theorem dX12_at_6 : decode cX12_at 6 = .ok (.iconst 0, 1) := by decide +kernel
theorem dX12_at_7 : decode cX12_at 7 = .ok (.iconst 3, 1) := by decide +kernel
theorem dX12_at_8 : decode cX12_at 8 = .ok (.invokestatic 113, 3) := by decide +kernel
theorem dX12_at_11 : decode cX12_at 11 = .ok (.ifCond .eq 12, 3) := by decide +kernel
theorem dX12_at_14 : decode cX12_at 14 = .ok (.iload_n 3, 1) := by decide +kernel
theorem dX12_at_15 : decode cX12_at 15 = .ok (.iconst 0, 1) := by decide +kernel
theorem dX12_at_16 : decode cX12_at 16 = .ok (.iconst 2, 1) := by decide +kernel
theorem dX12_at_17 : decode cX12_at 17 = .ok (.invokestatic 113, 3) := by decide +kernel
theorem dX12_at_20 : decode cX12_at 20 = .ok (.ifCond .ne 7, 3) := by decide +kernel
theorem dX12_at_23 : decode cX12_at 23 = .ok (.ldc2_w 105, 3) := by decide +kernel
theorem dX12_at_26 : decode cX12_at 26 = .ok (.lreturn, 1) := by decide +kernel
theorem dX12_at_27 : decode cX12_at 27 = .ok (.aload_n 0, 1) := by decide +kernel
theorem dX12_at_28 : decode cX12_at 28 = .ok (.getfield 53, 3) := by decide +kernel
theorem dX12_at_31 : decode cX12_at 31 = .ok (.iload_n 1, 1) := by decide +kernel
theorem dX12_at_32 : decode cX12_at 32 = .ok (.iaload, 1) := by decide +kernel
theorem dX12_at_33 : decode cX12_at 33 = .ok (.bipush (-9), 2) := by decide +kernel
theorem dX12_at_35 : decode cX12_at 35 = .ok (.if_icmp .eq 19, 3) := by decide +kernel
theorem dX12_at_38 : decode cX12_at 38 = .ok (.aload_n 0, 1) := by decide +kernel
theorem dX12_at_39 : decode cX12_at 39 = .ok (.getfield 53, 3) := by decide +kernel
theorem dX12_at_42 : decode cX12_at 42 = .ok (.iload_n 1, 1) := by decide +kernel
theorem dX12_at_43 : decode cX12_at 43 = .ok (.iaload, 1) := by decide +kernel
theorem dX12_at_44 : decode cX12_at 44 = .ok (.iload_n 3, 1) := by decide +kernel
theorem dX12_at_45 : decode cX12_at 45 = .ok (.if_icmp .eq 9, 3) := by decide +kernel
theorem dX12_at_48 : decode cX12_at 48 = .ok (.aload_n 0, 1) := by decide +kernel
theorem dX12_at_49 : decode cX12_at 49 = .ok (.iconst 2, 1) := by decide +kernel
theorem dX12_at_50 : decode cX12_at 50 = .ok (.invokevirtual 279, 3) := by decide +kernel
theorem dX12_at_53 : decode cX12_at 53 = .ok (.lreturn, 1) := by decide +kernel
theorem dX12_at_54 : decode cX12_at 54 = .ok (.aload_n 0, 1) := by decide +kernel
theorem dX12_at_55 : decode cX12_at 55 = .ok (.getfield 53, 3) := by decide +kernel
theorem dX12_at_58 : decode cX12_at 58 = .ok (.iload_n 1, 1) := by decide +kernel
theorem dX12_at_59 : decode cX12_at 59 = .ok (.iaload, 1) := by decide +kernel
theorem dX12_at_60 : decode cX12_at 60 = .ok (.bipush (-9), 2) := by decide +kernel
theorem dX12_at_62 : decode cX12_at 62 = .ok (.if_icmp .ne 9, 3) := by decide +kernel
theorem dX12_at_65 : decode cX12_at 65 = .ok (.aload_n 0, 1) := by decide +kernel
theorem dX12_at_66 : decode cX12_at 66 = .ok (.iconst 1, 1) := by decide +kernel
theorem dX12_at_67 : decode cX12_at 67 = .ok (.invokevirtual 279, 3) := by decide +kernel
theorem dX12_at_70 : decode cX12_at 70 = .ok (.lreturn, 1) := by decide +kernel
theorem dX12_at_71 : decode cX12_at 71 = .ok (.iload_n 2, 1) := by decide +kernel
theorem dX12_at_72 : decode cX12_at 72 = .ok (.iconst 0, 1) := by decide +kernel
theorem dX12_at_73 : decode cX12_at 73 = .ok (.aload_n 0, 1) := by decide +kernel
theorem dX12_at_74 : decode cX12_at 74 = .ok (.getfield 56, 3) := by decide +kernel
theorem dX12_at_77 : decode cX12_at 77 = .ok (.iload_n 1, 1) := by decide +kernel
theorem dX12_at_78 : decode cX12_at 78 = .ok (.iaload, 1) := by decide +kernel
theorem dX12_at_79 : decode cX12_at 79 = .ok (.iconst 1, 1) := by decide +kernel
theorem dX12_at_80 : decode cX12_at 80 = .ok (.isub, 1) := by decide +kernel
theorem dX12_at_81 : decode cX12_at 81 = .ok (.invokestatic 113, 3) := by decide +kernel
theorem dX12_at_84 : decode cX12_at 84 = .ok (.ifCond .ne 9, 3) := by decide +kernel
theorem dX12_at_87 : decode cX12_at 87 = .ok (.aload_n 0, 1) := by decide +kernel
theorem dX12_at_88 : decode cX12_at 88 = .ok (.iconst 3, 1) := by decide +kernel
theorem dX12_at_89 : decode cX12_at 89 = .ok (.invokevirtual 279, 3) := by decide +kernel
theorem dX12_at_92 : decode cX12_at 92 = .ok (.lreturn, 1) := by decide +kernel
theorem dX12_at_93 : decode cX12_at 93 = .ok (.aload_n 0, 1) := by decide +kernel
theorem dX12_at_94 : decode cX12_at 94 = .ok (.getfield 59, 3) := by decide +kernel
theorem dX12_at_97 : decode cX12_at 97 = .ok (.bipush 64, 2) := by decide +kernel
theorem dX12_at_99 : decode cX12_at 99 = .ok (.iload_n 1, 1) := by decide +kernel
theorem dX12_at_100 : decode cX12_at 100 = .ok (.imul, 1) := by decide +kernel
theorem dX12_at_101 : decode cX12_at 101 = .ok (.iload_n 2, 1) := by decide +kernel
theorem dX12_at_102 : decode cX12_at 102 = .ok (.iadd, 1) := by decide +kernel
theorem dX12_at_103 : decode cX12_at 103 = .ok (.iaload, 1) := by decide +kernel
theorem dX12_at_104 : decode cX12_at 104 = .ok (.i2l, 1) := by decide +kernel
theorem dX12_at_105 : decode cX12_at 105 = .ok (.lreturn, 1) := by decide +kernel
theorem dX12_begins_0 : decode cX12_begins 0 = .ok (.aload_n 0, 1) := by decide +kernel
theorem dX12_begins_1 : decode cX12_begins 1 = .ok (.bipush 31, 2) := by decide +kernel
theorem dX12_begins_3 : decode cX12_begins 3 = .ok (.aload_n 0, 1) := by decide +kernel
theorem dX12_begins_4 : decode cX12_begins 4 = .ok (.getfield 283, 3) := by decide +kernel
theorem dX12_begins_7 : decode cX12_begins 7 = .ok (.imul, 1) := by decide +kernel
theorem dX12_begins_8 : decode cX12_begins 8 = .ok (.iload_n 1, 1) := by decide +kernel
theorem dX12_begins_9 : decode cX12_begins 9 = .ok (.iadd, 1) := by decide +kernel
theorem dX12_begins_10 : decode cX12_begins 10 = .ok (.putfield 283, 3) := by decide +kernel
theorem dX12_begins_13 : decode cX12_begins 13 = .ok (.return_, 1) := by decide +kernel
theorem dX12_tell_0 : decode cX12_tell 0 = .ok (.aload_n 0, 1) := by decide +kernel
theorem dX12_tell_1 : decode cX12_tell 1 = .ok (.iload_n 1, 1) := by decide +kernel
theorem dX12_tell_2 : decode cX12_tell 2 = .ok (.invokevirtual 148, 3) := by decide +kernel
theorem dX12_tell_5 : decode cX12_tell 5 = .ok (.ifCond .ne 5, 3) := by decide +kernel
theorem dX12_tell_8 : decode cX12_tell 8 = .ok (.iconst (-1), 1) := by decide +kernel
theorem dX12_tell_9 : decode cX12_tell 9 = .ok (.ireturn, 1) := by decide +kernel
theorem dX12_tell_10 : decode cX12_tell 10 = .ok (.aload_n 0, 1) := by decide +kernel
theorem dX12_tell_11 : decode cX12_tell 11 = .ok (.iload_n 1, 1) := by decide +kernel
theorem dX12_tell_12 : decode cX12_tell 12 = .ok (.iconst 2, 1) := by decide +kernel
theorem dX12_tell_13 : decode cX12_tell 13 = .ok (.invokevirtual 151, 3) := by decide +kernel
theorem dX12_tell_16 : decode cX12_tell 16 = .ok (.istore_n 2, 1) := by decide +kernel
theorem dX12_tell_17 : decode cX12_tell 17 = .ok (.aload_n 0, 1) := by decide +kernel
theorem dX12_tell_18 : decode cX12_tell 18 = .ok (.getfield 17, 3) := by decide +kernel
theorem dX12_tell_21 : decode cX12_tell 21 = .ok (.iload_n 1, 1) := by decide +kernel
theorem dX12_tell_22 : decode cX12_tell 22 = .ok (.iaload, 1) := by decide +kernel
theorem dX12_tell_23 : decode cX12_tell 23 = .ok (.lookupswitch 75 #[(1, 25), (2, 44)], 25) := by decide +kernel
theorem dX12_tell_48 : decode cX12_tell 48 = .ok (.aload_n 0, 1) := by decide +kernel
theorem dX12_tell_49 : decode cX12_tell 49 = .ok (.iconst 2, 1) := by decide +kernel
theorem dX12_tell_50 : decode cX12_tell 50 = .ok (.invokevirtual 286, 3) := by decide +kernel
theorem dX12_tell_53 : decode cX12_tell 53 = .ok (.aload_n 0, 1) := by decide +kernel
theorem dX12_tell_54 : decode cX12_tell 54 = .ok (.iconst 1, 1) := by decide +kernel
theorem dX12_tell_55 : decode cX12_tell 55 = .ok (.invokevirtual 286, 3) := by decide +kernel
theorem dX12_tell_58 : decode cX12_tell 58 = .ok (.iload_n 2, 1) := by decide +kernel
theorem dX12_tell_59 : decode cX12_tell 59 = .ok (.aload_n 0, 1) := by decide +kernel
theorem dX12_tell_60 : decode cX12_tell 60 = .ok (.getfield 20, 3) := by decide +kernel
theorem dX12_tell_63 : decode cX12_tell 63 = .ok (.iload_n 1, 1) := by decide +kernel
theorem dX12_tell_64 : decode cX12_tell 64 = .ok (.iaload, 1) := by decide +kernel
theorem dX12_tell_65 : decode cX12_tell 65 = .ok (.iadd, 1) := by decide +kernel
theorem dX12_tell_66 : decode cX12_tell 66 = .ok (.ireturn, 1) := by decide +kernel
theorem dX12_tell_67 : decode cX12_tell 67 = .ok (.aload_n 0, 1) := by decide +kernel
theorem dX12_tell_68 : decode cX12_tell 68 = .ok (.iconst 3, 1) := by decide +kernel
theorem dX12_tell_69 : decode cX12_tell 69 = .ok (.invokevirtual 286, 3) := by decide +kernel
theorem dX12_tell_72 : decode cX12_tell 72 = .ok (.aload_n 0, 1) := by decide +kernel
theorem dX12_tell_73 : decode cX12_tell 73 = .ok (.iconst 2, 1) := by decide +kernel
theorem dX12_tell_74 : decode cX12_tell 74 = .ok (.invokevirtual 286, 3) := by decide +kernel
theorem dX12_tell_77 : decode cX12_tell 77 = .ok (.aload_n 0, 1) := by decide +kernel
theorem dX12_tell_78 : decode cX12_tell 78 = .ok (.iconst 1, 1) := by decide +kernel
theorem dX12_tell_79 : decode cX12_tell 79 = .ok (.invokevirtual 286, 3) := by decide +kernel
theorem dX12_tell_82 : decode cX12_tell 82 = .ok (.aload_n 0, 1) := by decide +kernel
theorem dX12_tell_83 : decode cX12_tell 83 = .ok (.iconst 1, 1) := by decide +kernel
theorem dX12_tell_84 : decode cX12_tell 84 = .ok (.invokevirtual 286, 3) := by decide +kernel
theorem dX12_tell_87 : decode cX12_tell 87 = .ok (.iconst 2, 1) := by decide +kernel
theorem dX12_tell_88 : decode cX12_tell 88 = .ok (.iload_n 2, 1) := by decide +kernel
theorem dX12_tell_89 : decode cX12_tell 89 = .ok (.imul, 1) := by decide +kernel
theorem dX12_tell_90 : decode cX12_tell 90 = .ok (.aload_n 0, 1) := by decide +kernel
theorem dX12_tell_91 : decode cX12_tell 91 = .ok (.getfield 20, 3) := by decide +kernel
theorem dX12_tell_94 : decode cX12_tell 94 = .ok (.iload_n 1, 1) := by decide +kernel
theorem dX12_tell_95 : decode cX12_tell 95 = .ok (.iaload, 1) := by decide +kernel
theorem dX12_tell_96 : decode cX12_tell 96 = .ok (.iadd, 1) := by decide +kernel
theorem dX12_tell_97 : decode cX12_tell 97 = .ok (.ireturn, 1) := by decide +kernel
theorem dX12_tell_98 : decode cX12_tell 98 = .ok (.aload_n 0, 1) := by decide +kernel
theorem dX12_tell_99 : decode cX12_tell 99 = .ok (.iconst 1, 1) := by decide +kernel
theorem dX12_tell_100 : decode cX12_tell 100 = .ok (.invokevirtual 286, 3) := by decide +kernel
theorem dX12_tell_103 : decode cX12_tell 103 = .ok (.iload_n 2, 1) := by decide +kernel
theorem dX12_tell_104 : decode cX12_tell 104 = .ok (.ireturn, 1) := by decide +kernel
theorem dX12_name_0 : decode cX12_name 0 = .ok (.aload_n 0, 1) := by decide +kernel
theorem dX12_name_1 : decode cX12_name 1 = .ok (.iload_n 1, 1) := by decide +kernel
theorem dX12_name_2 : decode cX12_name 2 = .ok (.invokevirtual 148, 3) := by decide +kernel
theorem dX12_name_5 : decode cX12_name 5 = .ok (.ifCond .ne 5, 3) := by decide +kernel
theorem dX12_name_8 : decode cX12_name 8 = .ok (.iconst (-1), 1) := by decide +kernel
theorem dX12_name_9 : decode cX12_name 9 = .ok (.ireturn, 1) := by decide +kernel
theorem dX12_name_10 : decode cX12_name 10 = .ok (.aload_n 0, 1) := by decide +kernel
theorem dX12_name_11 : decode cX12_name 11 = .ok (.aload_n 0, 1) := by decide +kernel
theorem dX12_name_12 : decode cX12_name 12 = .ok (.getfield 17, 3) := by decide +kernel
theorem dX12_name_15 : decode cX12_name 15 = .ok (.iload_n 1, 1) := by decide +kernel
theorem dX12_name_16 : decode cX12_name 16 = .ok (.iaload, 1) := by decide +kernel
theorem dX12_name_17 : decode cX12_name 17 = .ok (.iconst 2, 1) := by decide +kernel
theorem dX12_name_18 : decode cX12_name 18 = .ok (.if_icmp .ne 7, 3) := by decide +kernel
theorem dX12_name_21 : decode cX12_name 21 = .ok (.iconst 5, 1) := by decide +kernel
theorem dX12_name_22 : decode cX12_name 22 = .ok (.goto 4, 3) := by decide +kernel
theorem dX12_name_25 : decode cX12_name 25 = .ok (.iconst 4, 1) := by decide +kernel
theorem dX12_name_26 : decode cX12_name 26 = .ok (.invokevirtual 286, 3) := by decide +kernel
theorem dX12_name_29 : decode cX12_name 29 = .ok (.aload_n 0, 1) := by decide +kernel
theorem dX12_name_30 : decode cX12_name 30 = .ok (.getfield 17, 3) := by decide +kernel
theorem dX12_name_33 : decode cX12_name 33 = .ok (.iload_n 1, 1) := by decide +kernel
theorem dX12_name_34 : decode cX12_name 34 = .ok (.iaload, 1) := by decide +kernel
theorem dX12_name_35 : decode cX12_name 35 = .ok (.iconst 2, 1) := by decide +kernel
theorem dX12_name_36 : decode cX12_name 36 = .ok (.if_icmp .ne 8, 3) := by decide +kernel
theorem dX12_name_39 : decode cX12_name 39 = .ok (.bipush 77, 2) := by decide +kernel
theorem dX12_name_41 : decode cX12_name 41 = .ok (.goto 7, 3) := by decide +kernel
theorem dX12_name_44 : decode cX12_name 44 = .ok (.iload_n 1, 1) := by decide +kernel
theorem dX12_name_45 : decode cX12_name 45 = .ok (.bipush 10, 2) := by decide +kernel
theorem dX12_name_47 : decode cX12_name 47 = .ok (.iadd, 1) := by decide +kernel
theorem dX12_name_48 : decode cX12_name 48 = .ok (.ireturn, 1) := by decide +kernel
theorem dX12_as_0 : decode cX12_as 0 = .ok (.aload_n 0, 1) := by decide +kernel
theorem dX12_as_1 : decode cX12_as 1 = .ok (.iconst 0, 1) := by decide +kernel
theorem dX12_as_2 : decode cX12_as 2 = .ok (.putfield 101, 3) := by decide +kernel
theorem dX12_as_5 : decode cX12_as 5 = .ok (.aload_n 0, 1) := by decide +kernel
theorem dX12_as_6 : decode cX12_as 6 = .ok (.iload_n 1, 1) := by decide +kernel
theorem dX12_as_7 : decode cX12_as 7 = .ok (.invokevirtual 148, 3) := by decide +kernel
theorem dX12_as_10 : decode cX12_as 10 = .ok (.ifCond .ne 5, 3) := by decide +kernel
theorem dX12_as_13 : decode cX12_as 13 = .ok (.iconst (-1), 1) := by decide +kernel
theorem dX12_as_14 : decode cX12_as 14 = .ok (.ireturn, 1) := by decide +kernel
theorem dX12_as_15 : decode cX12_as 15 = .ok (.iload_n 2, 1) := by decide +kernel
theorem dX12_as_16 : decode cX12_as 16 = .ok (.iconst 0, 1) := by decide +kernel
theorem dX12_as_17 : decode cX12_as 17 = .ok (.iconst 2, 1) := by decide +kernel
theorem dX12_as_18 : decode cX12_as 18 = .ok (.invokestatic 113, 3) := by decide +kernel
theorem dX12_as_21 : decode cX12_as 21 = .ok (.ifCond .ne 6, 3) := by decide +kernel
theorem dX12_as_24 : decode cX12_as 24 = .ok (.bipush (-2), 2) := by decide +kernel
theorem dX12_as_26 : decode cX12_as 26 = .ok (.ireturn, 1) := by decide +kernel
theorem dX12_as_27 : decode cX12_as 27 = .ok (.aload_n 0, 1) := by decide +kernel
theorem dX12_as_28 : decode cX12_as 28 = .ok (.getfield 17, 3) := by decide +kernel
theorem dX12_as_31 : decode cX12_as 31 = .ok (.iload_n 1, 1) := by decide +kernel
theorem dX12_as_32 : decode cX12_as 32 = .ok (.iaload, 1) := by decide +kernel
theorem dX12_as_33 : decode cX12_as 33 = .ok (.iload_n 2, 1) := by decide +kernel
theorem dX12_as_34 : decode cX12_as 34 = .ok (.if_icmp .lt 7, 3) := by decide +kernel
theorem dX12_as_37 : decode cX12_as 37 = .ok (.iconst 1, 1) := by decide +kernel
theorem dX12_as_38 : decode cX12_as 38 = .ok (.goto 8, 3) := by decide +kernel
theorem dX12_as_41 : decode cX12_as 41 = .ok (.aload_n 0, 1) := by decide +kernel
theorem dX12_as_42 : decode cX12_as 42 = .ok (.iconst 2, 1) := by decide +kernel
theorem dX12_as_43 : decode cX12_as 43 = .ok (.invokevirtual 186, 3) := by decide +kernel
theorem dX12_as_46 : decode cX12_as 46 = .ok (.ireturn, 1) := by decide +kernel
theorem dX12_trace_0 : decode cX12_trace 0 = .ok (.aload_n 0, 1) := by decide +kernel
theorem dX12_trace_1 : decode cX12_trace 1 = .ok (.getfield 283, 3) := by decide +kernel
theorem dX12_trace_4 : decode cX12_trace 4 = .ok (.ireturn, 1) := by decide +kernel
theorem dX12_fault_0 : decode cX12_fault 0 = .ok (.aload_n 0, 1) := by decide +kernel
theorem dX12_fault_1 : decode cX12_fault 1 = .ok (.getfield 101, 3) := by decide +kernel
theorem dX12_fault_4 : decode cX12_fault 4 = .ok (.ireturn, 1) := by decide +kernel
theorem dX12_told_0 : decode cX12_told 0 = .ok (.iload_n 1, 1) := by decide +kernel
theorem dX12_told_1 : decode cX12_told 1 = .ok (.tableswitch 113 0 6 #[43, 48, 85, 90, 95, 100, 105], 43) := by decide +kernel
theorem dX12_told_44 : decode cX12_told 44 = .ok (.aload_n 0, 1) := by decide +kernel
theorem dX12_told_45 : decode cX12_told 45 = .ok (.getfield 107, 3) := by decide +kernel
theorem dX12_told_48 : decode cX12_told 48 = .ok (.ireturn, 1) := by decide +kernel
theorem dX12_told_49 : decode cX12_told 49 = .ok (.iconst 0, 1) := by decide +kernel
theorem dX12_told_50 : decode cX12_told 50 = .ok (.istore_n 2, 1) := by decide +kernel
theorem dX12_told_51 : decode cX12_told 51 = .ok (.iconst 0, 1) := by decide +kernel
theorem dX12_told_52 : decode cX12_told 52 = .ok (.istore_n 3, 1) := by decide +kernel
theorem dX12_told_53 : decode cX12_told 53 = .ok (.iload_n 3, 1) := by decide +kernel
theorem dX12_told_54 : decode cX12_told 54 = .ok (.aload_n 0, 1) := by decide +kernel
theorem dX12_told_55 : decode cX12_told 55 = .ok (.getfield 107, 3) := by decide +kernel
theorem dX12_told_58 : decode cX12_told 58 = .ok (.if_icmp .ge 26, 3) := by decide +kernel
theorem dX12_told_61 : decode cX12_told 61 = .ok (.iload_n 2, 1) := by decide +kernel
theorem dX12_told_62 : decode cX12_told 62 = .ok (.aload_n 0, 1) := by decide +kernel
theorem dX12_told_63 : decode cX12_told 63 = .ok (.getfield 13, 3) := by decide +kernel
theorem dX12_told_66 : decode cX12_told 66 = .ok (.iload_n 3, 1) := by decide +kernel
theorem dX12_told_67 : decode cX12_told 67 = .ok (.baload, 1) := by decide +kernel
theorem dX12_told_68 : decode cX12_told 68 = .ok (.ifCond .eq 7, 3) := by decide +kernel
theorem dX12_told_71 : decode cX12_told 71 = .ok (.iconst 1, 1) := by decide +kernel
theorem dX12_told_72 : decode cX12_told 72 = .ok (.goto 4, 3) := by decide +kernel
theorem dX12_told_75 : decode cX12_told 75 = .ok (.iconst 0, 1) := by decide +kernel
theorem dX12_told_76 : decode cX12_told 76 = .ok (.iadd, 1) := by decide +kernel
theorem dX12_told_77 : decode cX12_told 77 = .ok (.istore_n 2, 1) := by decide +kernel
theorem dX12_told_78 : decode cX12_told 78 = .ok (.iinc 3 1, 3) := by decide +kernel
theorem dX12_told_81 : decode cX12_told 81 = .ok (.goto (-28), 3) := by decide +kernel
theorem dX12_told_84 : decode cX12_told 84 = .ok (.iload_n 2, 1) := by decide +kernel
theorem dX12_told_85 : decode cX12_told 85 = .ok (.ireturn, 1) := by decide +kernel
theorem dX12_told_86 : decode cX12_told 86 = .ok (.aload_n 0, 1) := by decide +kernel
theorem dX12_told_87 : decode cX12_told 87 = .ok (.getfield 110, 3) := by decide +kernel
theorem dX12_told_90 : decode cX12_told 90 = .ok (.ireturn, 1) := by decide +kernel
theorem dX12_told_91 : decode cX12_told 91 = .ok (.aload_n 0, 1) := by decide +kernel
theorem dX12_told_92 : decode cX12_told 92 = .ok (.getfield 180, 3) := by decide +kernel
theorem dX12_told_95 : decode cX12_told 95 = .ok (.ireturn, 1) := by decide +kernel
theorem dX12_told_96 : decode cX12_told 96 = .ok (.aload_n 0, 1) := by decide +kernel
theorem dX12_told_97 : decode cX12_told 97 = .ok (.getfield 220, 3) := by decide +kernel
theorem dX12_told_100 : decode cX12_told 100 = .ok (.ireturn, 1) := by decide +kernel
theorem dX12_told_101 : decode cX12_told 101 = .ok (.aload_n 0, 1) := by decide +kernel
theorem dX12_told_102 : decode cX12_told 102 = .ok (.getfield 241, 3) := by decide +kernel
theorem dX12_told_105 : decode cX12_told 105 = .ok (.ireturn, 1) := by decide +kernel
theorem dX12_told_106 : decode cX12_told 106 = .ok (.aload_n 0, 1) := by decide +kernel
theorem dX12_told_107 : decode cX12_told 107 = .ok (.invokevirtual 163, 3) := by decide +kernel
theorem dX12_told_110 : decode cX12_told 110 = .ok (.invokestatic 238, 3) := by decide +kernel
theorem dX12_told_113 : decode cX12_told 113 = .ok (.ireturn, 1) := by decide +kernel
theorem dX12_told_114 : decode cX12_told 114 = .ok (.bipush (-2), 2) := by decide +kernel
theorem dX12_told_116 : decode cX12_told 116 = .ok (.ireturn, 1) := by decide +kernel
theorem dJ6_highestOneBit_0f7a4_0 : decode cJ6_highestOneBit_0f7a4 0 = .ok (.iload_n 0, 1) := by decide +kernel
theorem dJ6_highestOneBit_0f7a4_1 : decode cJ6_highestOneBit_0f7a4 1 = .ok (.ldc 127, 2) := by decide +kernel
theorem dJ6_highestOneBit_0f7a4_3 : decode cJ6_highestOneBit_0f7a4 3 = .ok (.iload_n 0, 1) := by decide +kernel
theorem dJ6_highestOneBit_0f7a4_4 : decode cJ6_highestOneBit_0f7a4 4 = .ok (.invokestatic 51, 3) := by decide +kernel
theorem dJ6_highestOneBit_0f7a4_7 : decode cJ6_highestOneBit_0f7a4 7 = .ok (.iushr, 1) := by decide +kernel
theorem dJ6_highestOneBit_0f7a4_8 : decode cJ6_highestOneBit_0f7a4 8 = .ok (.iand, 1) := by decide +kernel
theorem dJ6_highestOneBit_0f7a4_9 : decode cJ6_highestOneBit_0f7a4 9 = .ok (.ireturn, 1) := by decide +kernel
theorem dJ6_numberOfLeadingZeros_0f7a4_0 : decode cJ6_numberOfLeadingZeros_0f7a4 0 = .ok (.iload_n 0, 1) := by decide +kernel
theorem dJ6_numberOfLeadingZeros_0f7a4_1 : decode cJ6_numberOfLeadingZeros_0f7a4 1 = .ok (.ifCond .gt 14, 3) := by decide +kernel
theorem dJ6_numberOfLeadingZeros_0f7a4_4 : decode cJ6_numberOfLeadingZeros_0f7a4 4 = .ok (.iload_n 0, 1) := by decide +kernel
theorem dJ6_numberOfLeadingZeros_0f7a4_5 : decode cJ6_numberOfLeadingZeros_0f7a4 5 = .ok (.ifCond .ne 8, 3) := by decide +kernel
theorem dJ6_numberOfLeadingZeros_0f7a4_8 : decode cJ6_numberOfLeadingZeros_0f7a4 8 = .ok (.bipush 32, 2) := by decide +kernel
theorem dJ6_numberOfLeadingZeros_0f7a4_10 : decode cJ6_numberOfLeadingZeros_0f7a4 10 = .ok (.goto 4, 3) := by decide +kernel
theorem dJ6_numberOfLeadingZeros_0f7a4_13 : decode cJ6_numberOfLeadingZeros_0f7a4 13 = .ok (.iconst 0, 1) := by decide +kernel
theorem dJ6_numberOfLeadingZeros_0f7a4_14 : decode cJ6_numberOfLeadingZeros_0f7a4 14 = .ok (.ireturn, 1) := by decide +kernel
theorem dJ6_numberOfLeadingZeros_0f7a4_15 : decode cJ6_numberOfLeadingZeros_0f7a4 15 = .ok (.bipush 31, 2) := by decide +kernel
theorem dJ6_numberOfLeadingZeros_0f7a4_17 : decode cJ6_numberOfLeadingZeros_0f7a4 17 = .ok (.istore_n 1, 1) := by decide +kernel
theorem dJ6_numberOfLeadingZeros_0f7a4_18 : decode cJ6_numberOfLeadingZeros_0f7a4 18 = .ok (.iload_n 0, 1) := by decide +kernel
theorem dJ6_numberOfLeadingZeros_0f7a4_19 : decode cJ6_numberOfLeadingZeros_0f7a4 19 = .ok (.ldc_w 264, 3) := by decide +kernel
theorem dJ6_numberOfLeadingZeros_0f7a4_22 : decode cJ6_numberOfLeadingZeros_0f7a4 22 = .ok (.if_icmp .lt 11, 3) := by decide +kernel
theorem dJ6_numberOfLeadingZeros_0f7a4_25 : decode cJ6_numberOfLeadingZeros_0f7a4 25 = .ok (.iinc 1 (-16), 3) := by decide +kernel
theorem dJ6_numberOfLeadingZeros_0f7a4_28 : decode cJ6_numberOfLeadingZeros_0f7a4 28 = .ok (.iload_n 0, 1) := by decide +kernel
theorem dJ6_numberOfLeadingZeros_0f7a4_29 : decode cJ6_numberOfLeadingZeros_0f7a4 29 = .ok (.bipush 16, 2) := by decide +kernel
theorem dJ6_numberOfLeadingZeros_0f7a4_31 : decode cJ6_numberOfLeadingZeros_0f7a4 31 = .ok (.iushr, 1) := by decide +kernel
theorem dJ6_numberOfLeadingZeros_0f7a4_32 : decode cJ6_numberOfLeadingZeros_0f7a4 32 = .ok (.istore_n 0, 1) := by decide +kernel
theorem dJ6_numberOfLeadingZeros_0f7a4_33 : decode cJ6_numberOfLeadingZeros_0f7a4 33 = .ok (.iload_n 0, 1) := by decide +kernel
theorem dJ6_numberOfLeadingZeros_0f7a4_34 : decode cJ6_numberOfLeadingZeros_0f7a4 34 = .ok (.sipush 256, 3) := by decide +kernel
theorem dJ6_numberOfLeadingZeros_0f7a4_37 : decode cJ6_numberOfLeadingZeros_0f7a4 37 = .ok (.if_icmp .lt 11, 3) := by decide +kernel
theorem dJ6_numberOfLeadingZeros_0f7a4_40 : decode cJ6_numberOfLeadingZeros_0f7a4 40 = .ok (.iinc 1 (-8), 3) := by decide +kernel
theorem dJ6_numberOfLeadingZeros_0f7a4_43 : decode cJ6_numberOfLeadingZeros_0f7a4 43 = .ok (.iload_n 0, 1) := by decide +kernel
theorem dJ6_numberOfLeadingZeros_0f7a4_44 : decode cJ6_numberOfLeadingZeros_0f7a4 44 = .ok (.bipush 8, 2) := by decide +kernel
theorem dJ6_numberOfLeadingZeros_0f7a4_46 : decode cJ6_numberOfLeadingZeros_0f7a4 46 = .ok (.iushr, 1) := by decide +kernel
theorem dJ6_numberOfLeadingZeros_0f7a4_47 : decode cJ6_numberOfLeadingZeros_0f7a4 47 = .ok (.istore_n 0, 1) := by decide +kernel
theorem dJ6_numberOfLeadingZeros_0f7a4_48 : decode cJ6_numberOfLeadingZeros_0f7a4 48 = .ok (.iload_n 0, 1) := by decide +kernel
theorem dJ6_numberOfLeadingZeros_0f7a4_49 : decode cJ6_numberOfLeadingZeros_0f7a4 49 = .ok (.bipush 16, 2) := by decide +kernel
theorem dJ6_numberOfLeadingZeros_0f7a4_51 : decode cJ6_numberOfLeadingZeros_0f7a4 51 = .ok (.if_icmp .lt 10, 3) := by decide +kernel
theorem dJ6_numberOfLeadingZeros_0f7a4_54 : decode cJ6_numberOfLeadingZeros_0f7a4 54 = .ok (.iinc 1 (-4), 3) := by decide +kernel
theorem dJ6_numberOfLeadingZeros_0f7a4_57 : decode cJ6_numberOfLeadingZeros_0f7a4 57 = .ok (.iload_n 0, 1) := by decide +kernel
theorem dJ6_numberOfLeadingZeros_0f7a4_58 : decode cJ6_numberOfLeadingZeros_0f7a4 58 = .ok (.iconst 4, 1) := by decide +kernel
theorem dJ6_numberOfLeadingZeros_0f7a4_59 : decode cJ6_numberOfLeadingZeros_0f7a4 59 = .ok (.iushr, 1) := by decide +kernel
theorem dJ6_numberOfLeadingZeros_0f7a4_60 : decode cJ6_numberOfLeadingZeros_0f7a4 60 = .ok (.istore_n 0, 1) := by decide +kernel
theorem dJ6_numberOfLeadingZeros_0f7a4_61 : decode cJ6_numberOfLeadingZeros_0f7a4 61 = .ok (.iload_n 0, 1) := by decide +kernel
theorem dJ6_numberOfLeadingZeros_0f7a4_62 : decode cJ6_numberOfLeadingZeros_0f7a4 62 = .ok (.iconst 4, 1) := by decide +kernel
theorem dJ6_numberOfLeadingZeros_0f7a4_63 : decode cJ6_numberOfLeadingZeros_0f7a4 63 = .ok (.if_icmp .lt 10, 3) := by decide +kernel
theorem dJ6_numberOfLeadingZeros_0f7a4_66 : decode cJ6_numberOfLeadingZeros_0f7a4 66 = .ok (.iinc 1 (-2), 3) := by decide +kernel
theorem dJ6_numberOfLeadingZeros_0f7a4_69 : decode cJ6_numberOfLeadingZeros_0f7a4 69 = .ok (.iload_n 0, 1) := by decide +kernel
theorem dJ6_numberOfLeadingZeros_0f7a4_70 : decode cJ6_numberOfLeadingZeros_0f7a4 70 = .ok (.iconst 2, 1) := by decide +kernel
theorem dJ6_numberOfLeadingZeros_0f7a4_71 : decode cJ6_numberOfLeadingZeros_0f7a4 71 = .ok (.iushr, 1) := by decide +kernel
theorem dJ6_numberOfLeadingZeros_0f7a4_72 : decode cJ6_numberOfLeadingZeros_0f7a4 72 = .ok (.istore_n 0, 1) := by decide +kernel
theorem dJ6_numberOfLeadingZeros_0f7a4_73 : decode cJ6_numberOfLeadingZeros_0f7a4 73 = .ok (.iload_n 1, 1) := by decide +kernel
theorem dJ6_numberOfLeadingZeros_0f7a4_74 : decode cJ6_numberOfLeadingZeros_0f7a4 74 = .ok (.iload_n 0, 1) := by decide +kernel
theorem dJ6_numberOfLeadingZeros_0f7a4_75 : decode cJ6_numberOfLeadingZeros_0f7a4 75 = .ok (.iconst 1, 1) := by decide +kernel
theorem dJ6_numberOfLeadingZeros_0f7a4_76 : decode cJ6_numberOfLeadingZeros_0f7a4 76 = .ok (.iushr, 1) := by decide +kernel
theorem dJ6_numberOfLeadingZeros_0f7a4_77 : decode cJ6_numberOfLeadingZeros_0f7a4 77 = .ok (.isub, 1) := by decide +kernel
theorem dJ6_numberOfLeadingZeros_0f7a4_78 : decode cJ6_numberOfLeadingZeros_0f7a4 78 = .ok (.ireturn, 1) := by decide +kernel
theorem dJ6_numberOfTrailingZeros_0f7a4_0 : decode cJ6_numberOfTrailingZeros_0f7a4 0 = .ok (.iload_n 0, 1) := by decide +kernel
theorem dJ6_numberOfTrailingZeros_0f7a4_1 : decode cJ6_numberOfTrailingZeros_0f7a4 1 = .ok (.iconst (-1), 1) := by decide +kernel
theorem dJ6_numberOfTrailingZeros_0f7a4_2 : decode cJ6_numberOfTrailingZeros_0f7a4 2 = .ok (.ixor, 1) := by decide +kernel
theorem dJ6_numberOfTrailingZeros_0f7a4_3 : decode cJ6_numberOfTrailingZeros_0f7a4 3 = .ok (.iload_n 0, 1) := by decide +kernel
theorem dJ6_numberOfTrailingZeros_0f7a4_4 : decode cJ6_numberOfTrailingZeros_0f7a4 4 = .ok (.iconst 1, 1) := by decide +kernel
theorem dJ6_numberOfTrailingZeros_0f7a4_5 : decode cJ6_numberOfTrailingZeros_0f7a4 5 = .ok (.isub, 1) := by decide +kernel
theorem dJ6_numberOfTrailingZeros_0f7a4_6 : decode cJ6_numberOfTrailingZeros_0f7a4 6 = .ok (.iand, 1) := by decide +kernel
theorem dJ6_numberOfTrailingZeros_0f7a4_7 : decode cJ6_numberOfTrailingZeros_0f7a4 7 = .ok (.istore_n 0, 1) := by decide +kernel
theorem dJ6_numberOfTrailingZeros_0f7a4_8 : decode cJ6_numberOfTrailingZeros_0f7a4 8 = .ok (.iload_n 0, 1) := by decide +kernel
theorem dJ6_numberOfTrailingZeros_0f7a4_9 : decode cJ6_numberOfTrailingZeros_0f7a4 9 = .ok (.ifCond .gt 8, 3) := by decide +kernel
theorem dJ6_numberOfTrailingZeros_0f7a4_12 : decode cJ6_numberOfTrailingZeros_0f7a4 12 = .ok (.iload_n 0, 1) := by decide +kernel
theorem dJ6_numberOfTrailingZeros_0f7a4_13 : decode cJ6_numberOfTrailingZeros_0f7a4 13 = .ok (.bipush 32, 2) := by decide +kernel
theorem dJ6_numberOfTrailingZeros_0f7a4_15 : decode cJ6_numberOfTrailingZeros_0f7a4 15 = .ok (.iand, 1) := by decide +kernel
theorem dJ6_numberOfTrailingZeros_0f7a4_16 : decode cJ6_numberOfTrailingZeros_0f7a4 16 = .ok (.ireturn, 1) := by decide +kernel
theorem dJ6_numberOfTrailingZeros_0f7a4_17 : decode cJ6_numberOfTrailingZeros_0f7a4 17 = .ok (.iconst 1, 1) := by decide +kernel
theorem dJ6_numberOfTrailingZeros_0f7a4_18 : decode cJ6_numberOfTrailingZeros_0f7a4 18 = .ok (.istore_n 1, 1) := by decide +kernel
theorem dJ6_numberOfTrailingZeros_0f7a4_19 : decode cJ6_numberOfTrailingZeros_0f7a4 19 = .ok (.iload_n 0, 1) := by decide +kernel
theorem dJ6_numberOfTrailingZeros_0f7a4_20 : decode cJ6_numberOfTrailingZeros_0f7a4 20 = .ok (.ldc_w 264, 3) := by decide +kernel
theorem dJ6_numberOfTrailingZeros_0f7a4_23 : decode cJ6_numberOfTrailingZeros_0f7a4 23 = .ok (.if_icmp .le 11, 3) := by decide +kernel
theorem dJ6_numberOfTrailingZeros_0f7a4_26 : decode cJ6_numberOfTrailingZeros_0f7a4 26 = .ok (.iinc 1 16, 3) := by decide +kernel
theorem dJ6_numberOfTrailingZeros_0f7a4_29 : decode cJ6_numberOfTrailingZeros_0f7a4 29 = .ok (.iload_n 0, 1) := by decide +kernel
theorem dJ6_numberOfTrailingZeros_0f7a4_30 : decode cJ6_numberOfTrailingZeros_0f7a4 30 = .ok (.bipush 16, 2) := by decide +kernel
theorem dJ6_numberOfTrailingZeros_0f7a4_32 : decode cJ6_numberOfTrailingZeros_0f7a4 32 = .ok (.iushr, 1) := by decide +kernel
theorem dJ6_numberOfTrailingZeros_0f7a4_33 : decode cJ6_numberOfTrailingZeros_0f7a4 33 = .ok (.istore_n 0, 1) := by decide +kernel
theorem dJ6_numberOfTrailingZeros_0f7a4_34 : decode cJ6_numberOfTrailingZeros_0f7a4 34 = .ok (.iload_n 0, 1) := by decide +kernel
theorem dJ6_numberOfTrailingZeros_0f7a4_35 : decode cJ6_numberOfTrailingZeros_0f7a4 35 = .ok (.sipush 256, 3) := by decide +kernel
theorem dJ6_numberOfTrailingZeros_0f7a4_38 : decode cJ6_numberOfTrailingZeros_0f7a4 38 = .ok (.if_icmp .le 11, 3) := by decide +kernel
theorem dJ6_numberOfTrailingZeros_0f7a4_41 : decode cJ6_numberOfTrailingZeros_0f7a4 41 = .ok (.iinc 1 8, 3) := by decide +kernel
theorem dJ6_numberOfTrailingZeros_0f7a4_44 : decode cJ6_numberOfTrailingZeros_0f7a4 44 = .ok (.iload_n 0, 1) := by decide +kernel
theorem dJ6_numberOfTrailingZeros_0f7a4_45 : decode cJ6_numberOfTrailingZeros_0f7a4 45 = .ok (.bipush 8, 2) := by decide +kernel
theorem dJ6_numberOfTrailingZeros_0f7a4_47 : decode cJ6_numberOfTrailingZeros_0f7a4 47 = .ok (.iushr, 1) := by decide +kernel
theorem dJ6_numberOfTrailingZeros_0f7a4_48 : decode cJ6_numberOfTrailingZeros_0f7a4 48 = .ok (.istore_n 0, 1) := by decide +kernel
theorem dJ6_numberOfTrailingZeros_0f7a4_49 : decode cJ6_numberOfTrailingZeros_0f7a4 49 = .ok (.iload_n 0, 1) := by decide +kernel
theorem dJ6_numberOfTrailingZeros_0f7a4_50 : decode cJ6_numberOfTrailingZeros_0f7a4 50 = .ok (.bipush 16, 2) := by decide +kernel
theorem dJ6_numberOfTrailingZeros_0f7a4_52 : decode cJ6_numberOfTrailingZeros_0f7a4 52 = .ok (.if_icmp .le 10, 3) := by decide +kernel
theorem dJ6_numberOfTrailingZeros_0f7a4_55 : decode cJ6_numberOfTrailingZeros_0f7a4 55 = .ok (.iinc 1 4, 3) := by decide +kernel
theorem dJ6_numberOfTrailingZeros_0f7a4_58 : decode cJ6_numberOfTrailingZeros_0f7a4 58 = .ok (.iload_n 0, 1) := by decide +kernel
theorem dJ6_numberOfTrailingZeros_0f7a4_59 : decode cJ6_numberOfTrailingZeros_0f7a4 59 = .ok (.iconst 4, 1) := by decide +kernel
theorem dJ6_numberOfTrailingZeros_0f7a4_60 : decode cJ6_numberOfTrailingZeros_0f7a4 60 = .ok (.iushr, 1) := by decide +kernel
theorem dJ6_numberOfTrailingZeros_0f7a4_61 : decode cJ6_numberOfTrailingZeros_0f7a4 61 = .ok (.istore_n 0, 1) := by decide +kernel
theorem dJ6_numberOfTrailingZeros_0f7a4_62 : decode cJ6_numberOfTrailingZeros_0f7a4 62 = .ok (.iload_n 0, 1) := by decide +kernel
theorem dJ6_numberOfTrailingZeros_0f7a4_63 : decode cJ6_numberOfTrailingZeros_0f7a4 63 = .ok (.iconst 4, 1) := by decide +kernel
theorem dJ6_numberOfTrailingZeros_0f7a4_64 : decode cJ6_numberOfTrailingZeros_0f7a4 64 = .ok (.if_icmp .le 10, 3) := by decide +kernel
theorem dJ6_numberOfTrailingZeros_0f7a4_67 : decode cJ6_numberOfTrailingZeros_0f7a4 67 = .ok (.iinc 1 2, 3) := by decide +kernel
theorem dJ6_numberOfTrailingZeros_0f7a4_70 : decode cJ6_numberOfTrailingZeros_0f7a4 70 = .ok (.iload_n 0, 1) := by decide +kernel
theorem dJ6_numberOfTrailingZeros_0f7a4_71 : decode cJ6_numberOfTrailingZeros_0f7a4 71 = .ok (.iconst 2, 1) := by decide +kernel
theorem dJ6_numberOfTrailingZeros_0f7a4_72 : decode cJ6_numberOfTrailingZeros_0f7a4 72 = .ok (.iushr, 1) := by decide +kernel
theorem dJ6_numberOfTrailingZeros_0f7a4_73 : decode cJ6_numberOfTrailingZeros_0f7a4 73 = .ok (.istore_n 0, 1) := by decide +kernel
theorem dJ6_numberOfTrailingZeros_0f7a4_74 : decode cJ6_numberOfTrailingZeros_0f7a4 74 = .ok (.iload_n 1, 1) := by decide +kernel
theorem dJ6_numberOfTrailingZeros_0f7a4_75 : decode cJ6_numberOfTrailingZeros_0f7a4 75 = .ok (.iload_n 0, 1) := by decide +kernel
theorem dJ6_numberOfTrailingZeros_0f7a4_76 : decode cJ6_numberOfTrailingZeros_0f7a4 76 = .ok (.iconst 1, 1) := by decide +kernel
theorem dJ6_numberOfTrailingZeros_0f7a4_77 : decode cJ6_numberOfTrailingZeros_0f7a4 77 = .ok (.iushr, 1) := by decide +kernel
theorem dJ6_numberOfTrailingZeros_0f7a4_78 : decode cJ6_numberOfTrailingZeros_0f7a4 78 = .ok (.iadd, 1) := by decide +kernel
theorem dJ6_numberOfTrailingZeros_0f7a4_79 : decode cJ6_numberOfTrailingZeros_0f7a4 79 = .ok (.ireturn, 1) := by decide +kernel
theorem dJ6_bitCount_0f7a4_0 : decode cJ6_bitCount_0f7a4 0 = .ok (.iload_n 0, 1) := by decide +kernel
theorem dJ6_bitCount_0f7a4_1 : decode cJ6_bitCount_0f7a4 1 = .ok (.iload_n 0, 1) := by decide +kernel
theorem dJ6_bitCount_0f7a4_2 : decode cJ6_bitCount_0f7a4 2 = .ok (.iconst 1, 1) := by decide +kernel
theorem dJ6_bitCount_0f7a4_3 : decode cJ6_bitCount_0f7a4 3 = .ok (.iushr, 1) := by decide +kernel
theorem dJ6_bitCount_0f7a4_4 : decode cJ6_bitCount_0f7a4 4 = .ok (.ldc_w 265, 3) := by decide +kernel
theorem dJ6_bitCount_0f7a4_7 : decode cJ6_bitCount_0f7a4 7 = .ok (.iand, 1) := by decide +kernel
theorem dJ6_bitCount_0f7a4_8 : decode cJ6_bitCount_0f7a4 8 = .ok (.isub, 1) := by decide +kernel
theorem dJ6_bitCount_0f7a4_9 : decode cJ6_bitCount_0f7a4 9 = .ok (.istore_n 0, 1) := by decide +kernel
theorem dJ6_bitCount_0f7a4_10 : decode cJ6_bitCount_0f7a4 10 = .ok (.iload_n 0, 1) := by decide +kernel
theorem dJ6_bitCount_0f7a4_11 : decode cJ6_bitCount_0f7a4 11 = .ok (.ldc_w 266, 3) := by decide +kernel
theorem dJ6_bitCount_0f7a4_14 : decode cJ6_bitCount_0f7a4 14 = .ok (.iand, 1) := by decide +kernel
theorem dJ6_bitCount_0f7a4_15 : decode cJ6_bitCount_0f7a4 15 = .ok (.iload_n 0, 1) := by decide +kernel
theorem dJ6_bitCount_0f7a4_16 : decode cJ6_bitCount_0f7a4 16 = .ok (.iconst 2, 1) := by decide +kernel
theorem dJ6_bitCount_0f7a4_17 : decode cJ6_bitCount_0f7a4 17 = .ok (.iushr, 1) := by decide +kernel
theorem dJ6_bitCount_0f7a4_18 : decode cJ6_bitCount_0f7a4 18 = .ok (.ldc_w 266, 3) := by decide +kernel
theorem dJ6_bitCount_0f7a4_21 : decode cJ6_bitCount_0f7a4 21 = .ok (.iand, 1) := by decide +kernel
theorem dJ6_bitCount_0f7a4_22 : decode cJ6_bitCount_0f7a4 22 = .ok (.iadd, 1) := by decide +kernel
theorem dJ6_bitCount_0f7a4_23 : decode cJ6_bitCount_0f7a4 23 = .ok (.istore_n 0, 1) := by decide +kernel
theorem dJ6_bitCount_0f7a4_24 : decode cJ6_bitCount_0f7a4 24 = .ok (.iload_n 0, 1) := by decide +kernel
theorem dJ6_bitCount_0f7a4_25 : decode cJ6_bitCount_0f7a4 25 = .ok (.iload_n 0, 1) := by decide +kernel
theorem dJ6_bitCount_0f7a4_26 : decode cJ6_bitCount_0f7a4 26 = .ok (.iconst 4, 1) := by decide +kernel
theorem dJ6_bitCount_0f7a4_27 : decode cJ6_bitCount_0f7a4 27 = .ok (.iushr, 1) := by decide +kernel
theorem dJ6_bitCount_0f7a4_28 : decode cJ6_bitCount_0f7a4 28 = .ok (.iadd, 1) := by decide +kernel
theorem dJ6_bitCount_0f7a4_29 : decode cJ6_bitCount_0f7a4 29 = .ok (.ldc_w 267, 3) := by decide +kernel
theorem dJ6_bitCount_0f7a4_32 : decode cJ6_bitCount_0f7a4 32 = .ok (.iand, 1) := by decide +kernel
theorem dJ6_bitCount_0f7a4_33 : decode cJ6_bitCount_0f7a4 33 = .ok (.istore_n 0, 1) := by decide +kernel
theorem dJ6_bitCount_0f7a4_34 : decode cJ6_bitCount_0f7a4 34 = .ok (.iload_n 0, 1) := by decide +kernel
theorem dJ6_bitCount_0f7a4_35 : decode cJ6_bitCount_0f7a4 35 = .ok (.iload_n 0, 1) := by decide +kernel
theorem dJ6_bitCount_0f7a4_36 : decode cJ6_bitCount_0f7a4 36 = .ok (.bipush 8, 2) := by decide +kernel
theorem dJ6_bitCount_0f7a4_38 : decode cJ6_bitCount_0f7a4 38 = .ok (.iushr, 1) := by decide +kernel
theorem dJ6_bitCount_0f7a4_39 : decode cJ6_bitCount_0f7a4 39 = .ok (.iadd, 1) := by decide +kernel
theorem dJ6_bitCount_0f7a4_40 : decode cJ6_bitCount_0f7a4 40 = .ok (.istore_n 0, 1) := by decide +kernel
theorem dJ6_bitCount_0f7a4_41 : decode cJ6_bitCount_0f7a4 41 = .ok (.iload_n 0, 1) := by decide +kernel
theorem dJ6_bitCount_0f7a4_42 : decode cJ6_bitCount_0f7a4 42 = .ok (.iload_n 0, 1) := by decide +kernel
theorem dJ6_bitCount_0f7a4_43 : decode cJ6_bitCount_0f7a4 43 = .ok (.bipush 16, 2) := by decide +kernel
theorem dJ6_bitCount_0f7a4_45 : decode cJ6_bitCount_0f7a4 45 = .ok (.iushr, 1) := by decide +kernel
theorem dJ6_bitCount_0f7a4_46 : decode cJ6_bitCount_0f7a4 46 = .ok (.iadd, 1) := by decide +kernel
theorem dJ6_bitCount_0f7a4_47 : decode cJ6_bitCount_0f7a4 47 = .ok (.istore_n 0, 1) := by decide +kernel
theorem dJ6_bitCount_0f7a4_48 : decode cJ6_bitCount_0f7a4 48 = .ok (.iload_n 0, 1) := by decide +kernel
theorem dJ6_bitCount_0f7a4_49 : decode cJ6_bitCount_0f7a4 49 = .ok (.bipush 63, 2) := by decide +kernel
theorem dJ6_bitCount_0f7a4_51 : decode cJ6_bitCount_0f7a4 51 = .ok (.iand, 1) := by decide +kernel
theorem dJ6_bitCount_0f7a4_52 : decode cJ6_bitCount_0f7a4 52 = .ok (.ireturn, 1) := by decide +kernel
theorem dJ13_numberOfLeadingZeros_95d88_0 : decode cJ13_numberOfLeadingZeros_95d88 0 = .ok (.lload_n 0, 1) := by decide +kernel
theorem dJ13_numberOfLeadingZeros_95d88_1 : decode cJ13_numberOfLeadingZeros_95d88 1 = .ok (.bipush 32, 2) := by decide +kernel
theorem dJ13_numberOfLeadingZeros_95d88_3 : decode cJ13_numberOfLeadingZeros_95d88 3 = .ok (.lushr, 1) := by decide +kernel
theorem dJ13_numberOfLeadingZeros_95d88_4 : decode cJ13_numberOfLeadingZeros_95d88 4 = .ok (.l2i, 1) := by decide +kernel
theorem dJ13_numberOfLeadingZeros_95d88_5 : decode cJ13_numberOfLeadingZeros_95d88 5 = .ok (.istore_n 2, 1) := by decide +kernel
theorem dJ13_numberOfLeadingZeros_95d88_6 : decode cJ13_numberOfLeadingZeros_95d88 6 = .ok (.iload_n 2, 1) := by decide +kernel
theorem dJ13_numberOfLeadingZeros_95d88_7 : decode cJ13_numberOfLeadingZeros_95d88 7 = .ok (.ifCond .ne 14, 3) := by decide +kernel
theorem dJ13_numberOfLeadingZeros_95d88_10 : decode cJ13_numberOfLeadingZeros_95d88 10 = .ok (.bipush 32, 2) := by decide +kernel
theorem dJ13_numberOfLeadingZeros_95d88_12 : decode cJ13_numberOfLeadingZeros_95d88 12 = .ok (.lload_n 0, 1) := by decide +kernel
theorem dJ13_numberOfLeadingZeros_95d88_13 : decode cJ13_numberOfLeadingZeros_95d88 13 = .ok (.l2i, 1) := by decide +kernel
theorem dJ13_numberOfLeadingZeros_95d88_14 : decode cJ13_numberOfLeadingZeros_95d88 14 = .ok (.invokestatic 308, 3) := by decide +kernel
theorem dJ13_numberOfLeadingZeros_95d88_17 : decode cJ13_numberOfLeadingZeros_95d88 17 = .ok (.iadd, 1) := by decide +kernel
theorem dJ13_numberOfLeadingZeros_95d88_18 : decode cJ13_numberOfLeadingZeros_95d88 18 = .ok (.goto 7, 3) := by decide +kernel
theorem dJ13_numberOfLeadingZeros_95d88_21 : decode cJ13_numberOfLeadingZeros_95d88 21 = .ok (.iload_n 2, 1) := by decide +kernel
theorem dJ13_numberOfLeadingZeros_95d88_22 : decode cJ13_numberOfLeadingZeros_95d88 22 = .ok (.invokestatic 308, 3) := by decide +kernel
theorem dJ13_numberOfLeadingZeros_95d88_25 : decode cJ13_numberOfLeadingZeros_95d88 25 = .ok (.ireturn, 1) := by decide +kernel
theorem dJ13_numberOfTrailingZeros_95d88_0 : decode cJ13_numberOfTrailingZeros_95d88 0 = .ok (.lload_n 0, 1) := by decide +kernel
theorem dJ13_numberOfTrailingZeros_95d88_1 : decode cJ13_numberOfTrailingZeros_95d88 1 = .ok (.l2i, 1) := by decide +kernel
theorem dJ13_numberOfTrailingZeros_95d88_2 : decode cJ13_numberOfTrailingZeros_95d88 2 = .ok (.istore_n 2, 1) := by decide +kernel
theorem dJ13_numberOfTrailingZeros_95d88_3 : decode cJ13_numberOfTrailingZeros_95d88 3 = .ok (.iload_n 2, 1) := by decide +kernel
theorem dJ13_numberOfTrailingZeros_95d88_4 : decode cJ13_numberOfTrailingZeros_95d88 4 = .ok (.ifCond .ne 17, 3) := by decide +kernel
theorem dJ13_numberOfTrailingZeros_95d88_7 : decode cJ13_numberOfTrailingZeros_95d88 7 = .ok (.bipush 32, 2) := by decide +kernel
theorem dJ13_numberOfTrailingZeros_95d88_9 : decode cJ13_numberOfTrailingZeros_95d88 9 = .ok (.lload_n 0, 1) := by decide +kernel
theorem dJ13_numberOfTrailingZeros_95d88_10 : decode cJ13_numberOfTrailingZeros_95d88 10 = .ok (.bipush 32, 2) := by decide +kernel
theorem dJ13_numberOfTrailingZeros_95d88_12 : decode cJ13_numberOfTrailingZeros_95d88 12 = .ok (.lushr, 1) := by decide +kernel
theorem dJ13_numberOfTrailingZeros_95d88_13 : decode cJ13_numberOfTrailingZeros_95d88 13 = .ok (.l2i, 1) := by decide +kernel
theorem dJ13_numberOfTrailingZeros_95d88_14 : decode cJ13_numberOfTrailingZeros_95d88 14 = .ok (.invokestatic 311, 3) := by decide +kernel
theorem dJ13_numberOfTrailingZeros_95d88_17 : decode cJ13_numberOfTrailingZeros_95d88 17 = .ok (.iadd, 1) := by decide +kernel
theorem dJ13_numberOfTrailingZeros_95d88_18 : decode cJ13_numberOfTrailingZeros_95d88 18 = .ok (.goto 7, 3) := by decide +kernel
theorem dJ13_numberOfTrailingZeros_95d88_21 : decode cJ13_numberOfTrailingZeros_95d88 21 = .ok (.iload_n 2, 1) := by decide +kernel
theorem dJ13_numberOfTrailingZeros_95d88_22 : decode cJ13_numberOfTrailingZeros_95d88 22 = .ok (.invokestatic 311, 3) := by decide +kernel
theorem dJ13_numberOfTrailingZeros_95d88_25 : decode cJ13_numberOfTrailingZeros_95d88 25 = .ok (.ireturn, 1) := by decide +kernel
theorem dJ13_bitCount_95d88_0 : decode cJ13_bitCount_95d88 0 = .ok (.lload_n 0, 1) := by decide +kernel
theorem dJ13_bitCount_95d88_1 : decode cJ13_bitCount_95d88 1 = .ok (.lload_n 0, 1) := by decide +kernel
theorem dJ13_bitCount_95d88_2 : decode cJ13_bitCount_95d88 2 = .ok (.iconst 1, 1) := by decide +kernel
theorem dJ13_bitCount_95d88_3 : decode cJ13_bitCount_95d88 3 = .ok (.lushr, 1) := by decide +kernel
theorem dJ13_bitCount_95d88_4 : decode cJ13_bitCount_95d88 4 = .ok (.ldc2_w 314, 3) := by decide +kernel
theorem dJ13_bitCount_95d88_7 : decode cJ13_bitCount_95d88 7 = .ok (.land, 1) := by decide +kernel
theorem dJ13_bitCount_95d88_8 : decode cJ13_bitCount_95d88 8 = .ok (.lsub, 1) := by decide +kernel
theorem dJ13_bitCount_95d88_9 : decode cJ13_bitCount_95d88 9 = .ok (.lstore_n 0, 1) := by decide +kernel
theorem dJ13_bitCount_95d88_10 : decode cJ13_bitCount_95d88 10 = .ok (.lload_n 0, 1) := by decide +kernel
theorem dJ13_bitCount_95d88_11 : decode cJ13_bitCount_95d88 11 = .ok (.ldc2_w 316, 3) := by decide +kernel
theorem dJ13_bitCount_95d88_14 : decode cJ13_bitCount_95d88 14 = .ok (.land, 1) := by decide +kernel
theorem dJ13_bitCount_95d88_15 : decode cJ13_bitCount_95d88 15 = .ok (.lload_n 0, 1) := by decide +kernel
theorem dJ13_bitCount_95d88_16 : decode cJ13_bitCount_95d88 16 = .ok (.iconst 2, 1) := by decide +kernel
theorem dJ13_bitCount_95d88_17 : decode cJ13_bitCount_95d88 17 = .ok (.lushr, 1) := by decide +kernel
theorem dJ13_bitCount_95d88_18 : decode cJ13_bitCount_95d88 18 = .ok (.ldc2_w 316, 3) := by decide +kernel
theorem dJ13_bitCount_95d88_21 : decode cJ13_bitCount_95d88 21 = .ok (.land, 1) := by decide +kernel
theorem dJ13_bitCount_95d88_22 : decode cJ13_bitCount_95d88 22 = .ok (.ladd, 1) := by decide +kernel
theorem dJ13_bitCount_95d88_23 : decode cJ13_bitCount_95d88 23 = .ok (.lstore_n 0, 1) := by decide +kernel
theorem dJ13_bitCount_95d88_24 : decode cJ13_bitCount_95d88 24 = .ok (.lload_n 0, 1) := by decide +kernel
theorem dJ13_bitCount_95d88_25 : decode cJ13_bitCount_95d88 25 = .ok (.lload_n 0, 1) := by decide +kernel
theorem dJ13_bitCount_95d88_26 : decode cJ13_bitCount_95d88 26 = .ok (.iconst 4, 1) := by decide +kernel
theorem dJ13_bitCount_95d88_27 : decode cJ13_bitCount_95d88 27 = .ok (.lushr, 1) := by decide +kernel
theorem dJ13_bitCount_95d88_28 : decode cJ13_bitCount_95d88 28 = .ok (.ladd, 1) := by decide +kernel
theorem dJ13_bitCount_95d88_29 : decode cJ13_bitCount_95d88 29 = .ok (.ldc2_w 318, 3) := by decide +kernel
theorem dJ13_bitCount_95d88_32 : decode cJ13_bitCount_95d88 32 = .ok (.land, 1) := by decide +kernel
theorem dJ13_bitCount_95d88_33 : decode cJ13_bitCount_95d88 33 = .ok (.lstore_n 0, 1) := by decide +kernel
theorem dJ13_bitCount_95d88_34 : decode cJ13_bitCount_95d88 34 = .ok (.lload_n 0, 1) := by decide +kernel
theorem dJ13_bitCount_95d88_35 : decode cJ13_bitCount_95d88 35 = .ok (.lload_n 0, 1) := by decide +kernel
theorem dJ13_bitCount_95d88_36 : decode cJ13_bitCount_95d88 36 = .ok (.bipush 8, 2) := by decide +kernel
theorem dJ13_bitCount_95d88_38 : decode cJ13_bitCount_95d88 38 = .ok (.lushr, 1) := by decide +kernel
theorem dJ13_bitCount_95d88_39 : decode cJ13_bitCount_95d88 39 = .ok (.ladd, 1) := by decide +kernel
theorem dJ13_bitCount_95d88_40 : decode cJ13_bitCount_95d88 40 = .ok (.lstore_n 0, 1) := by decide +kernel
theorem dJ13_bitCount_95d88_41 : decode cJ13_bitCount_95d88 41 = .ok (.lload_n 0, 1) := by decide +kernel
theorem dJ13_bitCount_95d88_42 : decode cJ13_bitCount_95d88 42 = .ok (.lload_n 0, 1) := by decide +kernel
theorem dJ13_bitCount_95d88_43 : decode cJ13_bitCount_95d88 43 = .ok (.bipush 16, 2) := by decide +kernel
theorem dJ13_bitCount_95d88_45 : decode cJ13_bitCount_95d88 45 = .ok (.lushr, 1) := by decide +kernel
theorem dJ13_bitCount_95d88_46 : decode cJ13_bitCount_95d88 46 = .ok (.ladd, 1) := by decide +kernel
theorem dJ13_bitCount_95d88_47 : decode cJ13_bitCount_95d88 47 = .ok (.lstore_n 0, 1) := by decide +kernel
theorem dJ13_bitCount_95d88_48 : decode cJ13_bitCount_95d88 48 = .ok (.lload_n 0, 1) := by decide +kernel
theorem dJ13_bitCount_95d88_49 : decode cJ13_bitCount_95d88 49 = .ok (.lload_n 0, 1) := by decide +kernel
theorem dJ13_bitCount_95d88_50 : decode cJ13_bitCount_95d88 50 = .ok (.bipush 32, 2) := by decide +kernel
theorem dJ13_bitCount_95d88_52 : decode cJ13_bitCount_95d88 52 = .ok (.lushr, 1) := by decide +kernel
theorem dJ13_bitCount_95d88_53 : decode cJ13_bitCount_95d88 53 = .ok (.ladd, 1) := by decide +kernel
theorem dJ13_bitCount_95d88_54 : decode cJ13_bitCount_95d88 54 = .ok (.lstore_n 0, 1) := by decide +kernel
theorem dJ13_bitCount_95d88_55 : decode cJ13_bitCount_95d88 55 = .ok (.lload_n 0, 1) := by decide +kernel
theorem dJ13_bitCount_95d88_56 : decode cJ13_bitCount_95d88 56 = .ok (.l2i, 1) := by decide +kernel
theorem dJ13_bitCount_95d88_57 : decode cJ13_bitCount_95d88 57 = .ok (.bipush 127, 2) := by decide +kernel
theorem dJ13_bitCount_95d88_59 : decode cJ13_bitCount_95d88 59 = .ok (.iand, 1) := by decide +kernel
theorem dJ13_bitCount_95d88_60 : decode cJ13_bitCount_95d88 60 = .ok (.ireturn, 1) := by decide +kernel
theorem dJ9_floorMod_7cf53_0 : decode cJ9_floorMod_7cf53 0 = .ok (.iload_n 0, 1) := by decide +kernel
theorem dJ9_floorMod_7cf53_1 : decode cJ9_floorMod_7cf53 1 = .ok (.iload_n 1, 1) := by decide +kernel
theorem dJ9_floorMod_7cf53_2 : decode cJ9_floorMod_7cf53 2 = .ok (.irem, 1) := by decide +kernel
theorem dJ9_floorMod_7cf53_3 : decode cJ9_floorMod_7cf53 3 = .ok (.istore_n 2, 1) := by decide +kernel
theorem dJ9_floorMod_7cf53_4 : decode cJ9_floorMod_7cf53 4 = .ok (.iload_n 0, 1) := by decide +kernel
theorem dJ9_floorMod_7cf53_5 : decode cJ9_floorMod_7cf53 5 = .ok (.iload_n 1, 1) := by decide +kernel
theorem dJ9_floorMod_7cf53_6 : decode cJ9_floorMod_7cf53 6 = .ok (.ixor, 1) := by decide +kernel
theorem dJ9_floorMod_7cf53_7 : decode cJ9_floorMod_7cf53 7 = .ok (.ifCond .ge 11, 3) := by decide +kernel
theorem dJ9_floorMod_7cf53_10 : decode cJ9_floorMod_7cf53 10 = .ok (.iload_n 2, 1) := by decide +kernel
theorem dJ9_floorMod_7cf53_11 : decode cJ9_floorMod_7cf53 11 = .ok (.ifCond .eq 7, 3) := by decide +kernel
theorem dJ9_floorMod_7cf53_14 : decode cJ9_floorMod_7cf53 14 = .ok (.iload_n 2, 1) := by decide +kernel
theorem dJ9_floorMod_7cf53_15 : decode cJ9_floorMod_7cf53 15 = .ok (.iload_n 1, 1) := by decide +kernel
theorem dJ9_floorMod_7cf53_16 : decode cJ9_floorMod_7cf53 16 = .ok (.iadd, 1) := by decide +kernel
theorem dJ9_floorMod_7cf53_17 : decode cJ9_floorMod_7cf53 17 = .ok (.ireturn, 1) := by decide +kernel
theorem dJ9_floorMod_7cf53_18 : decode cJ9_floorMod_7cf53 18 = .ok (.iload_n 2, 1) := by decide +kernel
theorem dJ9_floorMod_7cf53_19 : decode cJ9_floorMod_7cf53 19 = .ok (.ireturn, 1) := by decide +kernel
theorem dJ9_abs_0f7a4_0 : decode cJ9_abs_0f7a4 0 = .ok (.iload_n 0, 1) := by decide +kernel
theorem dJ9_abs_0f7a4_1 : decode cJ9_abs_0f7a4 1 = .ok (.ifCond .ge 8, 3) := by decide +kernel
theorem dJ9_abs_0f7a4_4 : decode cJ9_abs_0f7a4 4 = .ok (.iload_n 0, 1) := by decide +kernel
theorem dJ9_abs_0f7a4_5 : decode cJ9_abs_0f7a4 5 = .ok (.ineg, 1) := by decide +kernel
theorem dJ9_abs_0f7a4_6 : decode cJ9_abs_0f7a4 6 = .ok (.goto 4, 3) := by decide +kernel
theorem dJ9_abs_0f7a4_9 : decode cJ9_abs_0f7a4 9 = .ok (.iload_n 0, 1) := by decide +kernel
theorem dJ9_abs_0f7a4_10 : decode cJ9_abs_0f7a4 10 = .ok (.ireturn, 1) := by decide +kernel
theorem dJ9_max_7cf53_0 : decode cJ9_max_7cf53 0 = .ok (.iload_n 0, 1) := by decide +kernel
theorem dJ9_max_7cf53_1 : decode cJ9_max_7cf53 1 = .ok (.iload_n 1, 1) := by decide +kernel
theorem dJ9_max_7cf53_2 : decode cJ9_max_7cf53 2 = .ok (.if_icmp .lt 7, 3) := by decide +kernel
theorem dJ9_max_7cf53_5 : decode cJ9_max_7cf53 5 = .ok (.iload_n 0, 1) := by decide +kernel
theorem dJ9_max_7cf53_6 : decode cJ9_max_7cf53 6 = .ok (.goto 4, 3) := by decide +kernel
theorem dJ9_max_7cf53_9 : decode cJ9_max_7cf53 9 = .ok (.iload_n 1, 1) := by decide +kernel
theorem dJ9_max_7cf53_10 : decode cJ9_max_7cf53 10 = .ok (.ireturn, 1) := by decide +kernel
theorem dJ9_min_7cf53_0 : decode cJ9_min_7cf53 0 = .ok (.iload_n 0, 1) := by decide +kernel
theorem dJ9_min_7cf53_1 : decode cJ9_min_7cf53 1 = .ok (.iload_n 1, 1) := by decide +kernel
theorem dJ9_min_7cf53_2 : decode cJ9_min_7cf53 2 = .ok (.if_icmp .gt 7, 3) := by decide +kernel
theorem dJ9_min_7cf53_5 : decode cJ9_min_7cf53 5 = .ok (.iload_n 0, 1) := by decide +kernel
theorem dJ9_min_7cf53_6 : decode cJ9_min_7cf53 6 = .ok (.goto 4, 3) := by decide +kernel
theorem dJ9_min_7cf53_9 : decode cJ9_min_7cf53 9 = .ok (.iload_n 1, 1) := by decide +kernel
theorem dJ9_min_7cf53_10 : decode cJ9_min_7cf53 10 = .ok (.ireturn, 1) := by decide +kernel
theorem dJ7_fill_53178_0 : decode cJ7_fill_53178 0 = .ok (.iconst 0, 1) := by decide +kernel
theorem dJ7_fill_53178_1 : decode cJ7_fill_53178 1 = .ok (.istore_n 2, 1) := by decide +kernel
theorem dJ7_fill_53178_2 : decode cJ7_fill_53178 2 = .ok (.aload_n 0, 1) := by decide +kernel
theorem dJ7_fill_53178_3 : decode cJ7_fill_53178 3 = .ok (.arraylength, 1) := by decide +kernel
theorem dJ7_fill_53178_4 : decode cJ7_fill_53178 4 = .ok (.istore_n 3, 1) := by decide +kernel
theorem dJ7_fill_53178_5 : decode cJ7_fill_53178 5 = .ok (.iload_n 2, 1) := by decide +kernel
theorem dJ7_fill_53178_6 : decode cJ7_fill_53178 6 = .ok (.iload_n 3, 1) := by decide +kernel
theorem dJ7_fill_53178_7 : decode cJ7_fill_53178 7 = .ok (.if_icmp .ge 13, 3) := by decide +kernel
theorem dJ7_fill_53178_10 : decode cJ7_fill_53178 10 = .ok (.aload_n 0, 1) := by decide +kernel
theorem dJ7_fill_53178_11 : decode cJ7_fill_53178 11 = .ok (.iload_n 2, 1) := by decide +kernel
theorem dJ7_fill_53178_12 : decode cJ7_fill_53178 12 = .ok (.iload_n 1, 1) := by decide +kernel
theorem dJ7_fill_53178_13 : decode cJ7_fill_53178 13 = .ok (.iastore, 1) := by decide +kernel
theorem dJ7_fill_53178_14 : decode cJ7_fill_53178 14 = .ok (.iinc 2 1, 3) := by decide +kernel
theorem dJ7_fill_53178_17 : decode cJ7_fill_53178 17 = .ok (.goto (-12), 3) := by decide +kernel
theorem dJ7_fill_53178_20 : decode cJ7_fill_53178 20 = .ok (.return_, 1) := by decide +kernel
