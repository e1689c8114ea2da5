theorem dX11_misses_83 : decode cX11_misses 83 = .ok (.getfield 254, 3) := by decide +kernel
theorem dX11_misses_86 : decode cX11_misses 86 = .ok (.invokevirtual 281, 3) := by decide +kernel
theorem dX11_misses_89 : decode cX11_misses 89 = .ok (.ireturn, 1) := by decide +kernel
theorem dX11_misses_90 : decode cX11_misses 90 = .ok (.aload_n 0, 1) := by decide +kernel
theorem dX11_misses_91 : decode cX11_misses 91 = .ok (.getfield 28, 3) := by decide +kernel
theorem dX11_misses_94 : decode cX11_misses 94 = .ok (.aload_n 3, 1) := by decide +kernel
theorem dX11_misses_95 : decode cX11_misses 95 = .ok (.aload_n 3, 1) := by decide +kernel
theorem dX11_misses_96 : decode cX11_misses 96 = .ok (.getfield 254, 3) := by decide +kernel
theorem dX11_misses_99 : decode cX11_misses 99 = .ok (.invokevirtual 284, 3) := by decide +kernel
theorem dX11_misses_102 : decode cX11_misses 102 = .ok (.ireturn, 1) := by decide +kernel
theorem dX11_misses_103 : decode cX11_misses 103 = .ok (.aload_n 3, 1) := by decide +kernel
theorem dX11_misses_104 : decode cX11_misses 104 = .ok (.getfield 287, 3) := by decide +kernel
theorem dX11_misses_107 : decode cX11_misses 107 = .ok (.ireturn, 1) := by decide +kernel
theorem dX11_misses_108 : decode cX11_misses 108 = .ok (.aload_n 3, 1) := by decide +kernel
theorem dX11_misses_109 : decode cX11_misses 109 = .ok (.getfield 254, 3) := by decide +kernel
theorem dX11_misses_112 : decode cX11_misses 112 = .ok (.ireturn, 1) := by decide +kernel
theorem dX11_misses_113 : decode cX11_misses 113 = .ok (.bipush (-2), 2) := by decide +kernel
theorem dX11_misses_115 : decode cX11_misses 115 = .ok (.ireturn, 1) := by decide +kernel
theorem dX11_bestKey_0 : decode cX11_bestKey 0 = .ok (.aload_n 0, 1) := by decide +kernel
theorem dX11_bestKey_1 : decode cX11_bestKey 1 = .ok (.getfield 35, 3) := by decide +kernel
theorem dX11_bestKey_4 : decode cX11_bestKey 4 = .ok (.iload_n 1, 1) := by decide +kernel
theorem dX11_bestKey_5 : decode cX11_bestKey 5 = .ok (.invokevirtual 276, 3) := by decide +kernel
theorem dX11_bestKey_8 : decode cX11_bestKey 8 = .ok (.ifCond .ne 6, 3) := by decide +kernel
theorem dX11_bestKey_11 : decode cX11_bestKey 11 = .ok (.bipush 99, 2) := by decide +kernel
theorem dX11_bestKey_13 : decode cX11_bestKey 13 = .ok (.ireturn, 1) := by decide +kernel
theorem dX11_bestKey_14 : decode cX11_bestKey 14 = .ok (.aload_n 0, 1) := by decide +kernel
theorem dX11_bestKey_15 : decode cX11_bestKey 15 = .ok (.invokevirtual 195, 3) := by decide +kernel
theorem dX11_bestKey_18 : decode cX11_bestKey 18 = .ok (.aload_n 0, 1) := by decide +kernel
theorem dX11_bestKey_19 : decode cX11_bestKey 19 = .ok (.getfield 28, 3) := by decide +kernel
theorem dX11_bestKey_22 : decode cX11_bestKey 22 = .ok (.aload_n 0, 1) := by decide +kernel
theorem dX11_bestKey_23 : decode cX11_bestKey 23 = .ok (.getfield 35, 3) := by decide +kernel
theorem dX11_bestKey_26 : decode cX11_bestKey 26 = .ok (.getfield 250, 3) := by decide +kernel
theorem dX11_bestKey_29 : decode cX11_bestKey 29 = .ok (.iload_n 1, 1) := by decide +kernel
theorem dX11_bestKey_30 : decode cX11_bestKey 30 = .ok (.aaload, 1) := by decide +kernel
theorem dX11_bestKey_31 : decode cX11_bestKey 31 = .ok (.invokevirtual 290, 3) := by decide +kernel
theorem dX11_bestKey_34 : decode cX11_bestKey 34 = .ok (.ireturn, 1) := by decide +kernel
theorem dX11_playable_0 : decode cX11_playable 0 = .ok (.aload_n 0, 1) := by decide +kernel
theorem dX11_playable_1 : decode cX11_playable 1 = .ok (.invokevirtual 195, 3) := by decide +kernel
theorem dX11_playable_4 : decode cX11_playable 4 = .ok (.aload_n 0, 1) := by decide +kernel
theorem dX11_playable_5 : decode cX11_playable 5 = .ok (.getfield 35, 3) := by decide +kernel
theorem dX11_playable_8 : decode cX11_playable 8 = .ok (.aload_n 0, 1) := by decide +kernel
theorem dX11_playable_9 : decode cX11_playable 9 = .ok (.getfield 28, 3) := by decide +kernel
theorem dX11_playable_12 : decode cX11_playable 12 = .ok (.invokevirtual 294, 3) := by decide +kernel
theorem dX11_playable_15 : decode cX11_playable 15 = .ok (.ireturn, 1) := by decide +kernel
theorem dX11_offer_0 : decode cX11_offer 0 = .ok (.iload_n 1, 1) := by decide +kernel
theorem dX11_offer_1 : decode cX11_offer 1 = .ok (.invokestatic 104, 3) := by decide +kernel
theorem dX11_offer_4 : decode cX11_offer 4 = .ok (.ifCond .ne 6, 3) := by decide +kernel
theorem dX11_offer_7 : decode cX11_offer 7 = .ok (.bipush (-2), 2) := by decide +kernel
theorem dX11_offer_9 : decode cX11_offer 9 = .ok (.ireturn, 1) := by decide +kernel
theorem dX11_offer_10 : decode cX11_offer 10 = .ok (.aload_n 0, 1) := by decide +kernel
theorem dX11_offer_11 : decode cX11_offer 11 = .ok (.getfield 42, 3) := by decide +kernel
theorem dX11_offer_14 : decode cX11_offer 14 = .ok (.iload_n 1, 1) := by decide +kernel
theorem dX11_offer_15 : decode cX11_offer 15 = .ok (.invokevirtual 298, 3) := by decide +kernel
theorem dX11_offer_18 : decode cX11_offer 18 = .ok (.ifCond .eq 6, 3) := by decide +kernel
theorem dX11_offer_21 : decode cX11_offer 21 = .ok (.bipush (-3), 2) := by decide +kernel
theorem dX11_offer_23 : decode cX11_offer 23 = .ok (.ireturn, 1) := by decide +kernel
theorem dX11_offer_24 : decode cX11_offer 24 = .ok (.aload_n 0, 1) := by decide +kernel
theorem dX11_offer_25 : decode cX11_offer 25 = .ok (.getfield 42, 3) := by decide +kernel
theorem dX11_offer_28 : decode cX11_offer 28 = .ok (.invokevirtual 301, 3) := by decide +kernel
theorem dX11_offer_31 : decode cX11_offer 31 = .ok (.ifCond .eq 6, 3) := by decide +kernel
theorem dX11_offer_34 : decode cX11_offer 34 = .ok (.bipush (-4), 2) := by decide +kernel
theorem dX11_offer_36 : decode cX11_offer 36 = .ok (.ireturn, 1) := by decide +kernel
theorem dX11_offer_37 : decode cX11_offer 37 = .ok (.aload_n 0, 1) := by decide +kernel
theorem dX11_offer_38 : decode cX11_offer 38 = .ok (.getfield 42, 3) := by decide +kernel
theorem dX11_offer_41 : decode cX11_offer 41 = .ok (.iload_n 1, 1) := by decide +kernel
theorem dX11_offer_42 : decode cX11_offer 42 = .ok (.invokevirtual 302, 3) := by decide +kernel
theorem dX11_offer_45 : decode cX11_offer 45 = .ok (.ireturn, 1) := by decide +kernel
theorem dX11_serves_0 : decode cX11_serves 0 = .ok (.aload_n 0, 1) := by decide +kernel
theorem dX11_serves_1 : decode cX11_serves 1 = .ok (.getfield 42, 3) := by decide +kernel
theorem dX11_serves_4 : decode cX11_serves 4 = .ok (.iload_n 1, 1) := by decide +kernel
theorem dX11_serves_5 : decode cX11_serves 5 = .ok (.invokevirtual 304, 3) := by decide +kernel
theorem dX11_serves_8 : decode cX11_serves 8 = .ok (.ifCond .ne 6, 3) := by decide +kernel
theorem dX11_serves_11 : decode cX11_serves 11 = .ok (.bipush (-2), 2) := by decide +kernel
theorem dX11_serves_13 : decode cX11_serves 13 = .ok (.ireturn, 1) := by decide +kernel
theorem dX11_serves_14 : decode cX11_serves 14 = .ok (.aload_n 0, 1) := by decide +kernel
theorem dX11_serves_15 : decode cX11_serves 15 = .ok (.invokevirtual 305, 3) := by decide +kernel
theorem dX11_serves_18 : decode cX11_serves 18 = .ok (.aload_n 0, 1) := by decide +kernel
theorem dX11_serves_19 : decode cX11_serves 19 = .ok (.getfield 42, 3) := by decide +kernel
theorem dX11_serves_22 : decode cX11_serves 22 = .ok (.iload_n 1, 1) := by decide +kernel
theorem dX11_serves_23 : decode cX11_serves 23 = .ok (.invokevirtual 308, 3) := by decide +kernel
theorem dX11_serves_26 : decode cX11_serves 26 = .ok (.ireturn, 1) := by decide +kernel
theorem dX11_fewest_0 : decode cX11_fewest 0 = .ok (.aload_n 0, 1) := by decide +kernel
theorem dX11_fewest_1 : decode cX11_fewest 1 = .ok (.invokevirtual 305, 3) := by decide +kernel
theorem dX11_fewest_4 : decode cX11_fewest 4 = .ok (.aload_n 0, 1) := by decide +kernel
theorem dX11_fewest_5 : decode cX11_fewest 5 = .ok (.getfield 42, 3) := by decide +kernel
theorem dX11_fewest_8 : decode cX11_fewest 8 = .ok (.bipush 12, 2) := by decide +kernel
theorem dX11_fewest_10 : decode cX11_fewest 10 = .ok (.invokevirtual 311, 3) := by decide +kernel
theorem dX11_fewest_13 : decode cX11_fewest 13 = .ok (.istore_n 1, 1) := by decide +kernel
theorem dX11_fewest_14 : decode cX11_fewest 14 = .ok (.aload_n 0, 1) := by decide +kernel
theorem dX11_fewest_15 : decode cX11_fewest 15 = .ok (.getfield 42, 3) := by decide +kernel
theorem dX11_fewest_18 : decode cX11_fewest 18 = .ok (.iload_n 1, 1) := by decide +kernel
theorem dX11_fewest_19 : decode cX11_fewest 19 = .ok (.invokevirtual 308, 3) := by decide +kernel
theorem dX11_fewest_22 : decode cX11_fewest 22 = .ok (.aload_n 0, 1) := by decide +kernel
theorem dX11_fewest_23 : decode cX11_fewest 23 = .ok (.getfield 35, 3) := by decide +kernel
theorem dX11_fewest_26 : decode cX11_fewest 26 = .ok (.invokevirtual 314, 3) := by decide +kernel
theorem dX11_fewest_29 : decode cX11_fewest 29 = .ok (.if_icmp .ne 7, 3) := by decide +kernel
theorem dX11_fewest_32 : decode cX11_fewest 32 = .ok (.iload_n 1, 1) := by decide +kernel
theorem dX11_fewest_33 : decode cX11_fewest 33 = .ok (.goto 5, 3) := by decide +kernel
theorem dX11_fewest_36 : decode cX11_fewest 36 = .ok (.bipush (-9), 2) := by decide +kernel
theorem dX11_fewest_38 : decode cX11_fewest 38 = .ok (.ireturn, 1) := by decide +kernel
theorem dX11_most_0 : decode cX11_most 0 = .ok (.iload_n 1, 1) := by decide +kernel
theorem dX11_most_1 : decode cX11_most 1 = .ok (.ifCond .lt 9, 3) := by decide +kernel
theorem dX11_most_4 : decode cX11_most 4 = .ok (.iload_n 1, 1) := by decide +kernel
theorem dX11_most_5 : decode cX11_most 5 = .ok (.bipush 12, 2) := by decide +kernel
theorem dX11_most_7 : decode cX11_most 7 = .ok (.if_icmp .le 6, 3) := by decide +kernel
theorem dX11_most_10 : decode cX11_most 10 = .ok (.bipush (-2), 2) := by decide +kernel
theorem dX11_most_12 : decode cX11_most 12 = .ok (.ireturn, 1) := by decide +kernel
theorem dX11_most_13 : decode cX11_most 13 = .ok (.aload_n 0, 1) := by decide +kernel
theorem dX11_most_14 : decode cX11_most 14 = .ok (.invokevirtual 305, 3) := by decide +kernel
theorem dX11_most_17 : decode cX11_most 17 = .ok (.aload_n 0, 1) := by decide +kernel
theorem dX11_most_18 : decode cX11_most 18 = .ok (.getfield 42, 3) := by decide +kernel
theorem dX11_most_21 : decode cX11_most 21 = .ok (.iload_n 1, 1) := by decide +kernel
theorem dX11_most_22 : decode cX11_most 22 = .ok (.invokevirtual 311, 3) := by decide +kernel
theorem dX11_most_25 : decode cX11_most 25 = .ok (.ireturn, 1) := by decide +kernel
theorem dX11_build_0 : decode cX11_build 0 = .ok (.aload_n 0, 1) := by decide +kernel
theorem dX11_build_1 : decode cX11_build 1 = .ok (.getfield 42, 3) := by decide +kernel
theorem dX11_build_4 : decode cX11_build 4 = .ok (.iload_n 1, 1) := by decide +kernel
theorem dX11_build_5 : decode cX11_build 5 = .ok (.invokevirtual 304, 3) := by decide +kernel
theorem dX11_build_8 : decode cX11_build 8 = .ok (.ifCond .ne 6, 3) := by decide +kernel
theorem dX11_build_11 : decode cX11_build 11 = .ok (.bipush (-2), 2) := by decide +kernel
theorem dX11_build_13 : decode cX11_build 13 = .ok (.ireturn, 1) := by decide +kernel
theorem dX11_build_14 : decode cX11_build 14 = .ok (.aload_n 0, 1) := by decide +kernel
theorem dX11_build_15 : decode cX11_build 15 = .ok (.getfield 21, 3) := by decide +kernel
theorem dX11_build_18 : decode cX11_build 18 = .ok (.invokevirtual 316, 3) := by decide +kernel
theorem dX11_build_21 : decode cX11_build 21 = .ok (.aload_n 0, 1) := by decide +kernel
theorem dX11_build_22 : decode cX11_build 22 = .ok (.getfield 63, 3) := by decide +kernel
theorem dX11_build_25 : decode cX11_build 25 = .ok (.invokevirtual 319, 3) := by decide +kernel
theorem dX11_build_28 : decode cX11_build 28 = .ok (.iconst 0, 1) := by decide +kernel
theorem dX11_build_29 : decode cX11_build 29 = .ok (.istore_n 2, 1) := by decide +kernel
theorem dX11_build_30 : decode cX11_build 30 = .ok (.iload_n 2, 1) := by decide +kernel
theorem dX11_build_31 : decode cX11_build 31 = .ok (.aload_n 0, 1) := by decide +kernel
theorem dX11_build_32 : decode cX11_build 32 = .ok (.getfield 42, 3) := by decide +kernel
theorem dX11_build_35 : decode cX11_build 35 = .ok (.getfield 320, 3) := by decide +kernel
theorem dX11_build_38 : decode cX11_build 38 = .ok (.if_icmp .ge 32, 3) := by decide +kernel
theorem dX11_build_41 : decode cX11_build 41 = .ok (.iload_n 1, 1) := by decide +kernel
theorem dX11_build_42 : decode cX11_build 42 = .ok (.i2l, 1) := by decide +kernel
theorem dX11_build_43 : decode cX11_build 43 = .ok (.iload_n 2, 1) := by decide +kernel
theorem dX11_build_44 : decode cX11_build 44 = .ok (.invokestatic 188, 3) := by decide +kernel
theorem dX11_build_47 : decode cX11_build 47 = .ok (.ifCond .eq 17, 3) := by decide +kernel
theorem dX11_build_50 : decode cX11_build 50 = .ok (.aload_n 0, 1) := by decide +kernel
theorem dX11_build_51 : decode cX11_build 51 = .ok (.aload_n 0, 1) := by decide +kernel
theorem dX11_build_52 : decode cX11_build 52 = .ok (.getfield 42, 3) := by decide +kernel
theorem dX11_build_55 : decode cX11_build 55 = .ok (.getfield 323, 3) := by decide +kernel
theorem dX11_build_58 : decode cX11_build 58 = .ok (.iload_n 2, 1) := by decide +kernel
theorem dX11_build_59 : decode cX11_build 59 = .ok (.iaload, 1) := by decide +kernel
theorem dX11_build_60 : decode cX11_build 60 = .ok (.invokevirtual 326, 3) := by decide +kernel
theorem dX11_build_63 : decode cX11_build 63 = .ok (.pop, 1) := by decide +kernel
theorem dX11_build_64 : decode cX11_build 64 = .ok (.iinc 2 1, 3) := by decide +kernel
theorem dX11_build_67 : decode cX11_build 67 = .ok (.goto (-37), 3) := by decide +kernel
theorem dX11_build_70 : decode cX11_build 70 = .ok (.aload_n 0, 1) := by decide +kernel
theorem dX11_build_71 : decode cX11_build 71 = .ok (.getfield 21, 3) := by decide +kernel
theorem dX11_build_74 : decode cX11_build 74 = .ok (.getfield 329, 3) := by decide +kernel
theorem dX11_build_77 : decode cX11_build 77 = .ok (.ireturn, 1) := by decide +kernel
theorem dX11_change_0 : decode cX11_change 0 = .ok (.aload_n 0, 1) := by decide +kernel
theorem dX11_change_1 : decode cX11_change 1 = .ok (.getfield 21, 3) := by decide +kernel
theorem dX11_change_4 : decode cX11_change 4 = .ok (.iload_n 1, 1) := by decide +kernel
theorem dX11_change_5 : decode cX11_change 5 = .ok (.invokevirtual 119, 3) := by decide +kernel
theorem dX11_change_8 : decode cX11_change 8 = .ok (.ifCond .eq 14, 3) := by decide +kernel
theorem dX11_change_11 : decode cX11_change 11 = .ok (.aload_n 0, 1) := by decide +kernel
theorem dX11_change_12 : decode cX11_change 12 = .ok (.getfield 21, 3) := by decide +kernel
theorem dX11_change_15 : decode cX11_change 15 = .ok (.iload_n 2, 1) := by decide +kernel
theorem dX11_change_16 : decode cX11_change 16 = .ok (.invokevirtual 119, 3) := by decide +kernel
theorem dX11_change_19 : decode cX11_change 19 = .ok (.ifCond .ne 5, 3) := by decide +kernel
theorem dX11_change_22 : decode cX11_change 22 = .ok (.iconst (-1), 1) := by decide +kernel
theorem dX11_change_23 : decode cX11_change 23 = .ok (.ireturn, 1) := by decide +kernel
theorem dX11_change_24 : decode cX11_change 24 = .ok (.iload_n 1, 1) := by decide +kernel
theorem dX11_change_25 : decode cX11_change 25 = .ok (.iload_n 2, 1) := by decide +kernel
theorem dX11_change_26 : decode cX11_change 26 = .ok (.if_icmp .ne 5, 3) := by decide +kernel
theorem dX11_change_29 : decode cX11_change 29 = .ok (.iconst 0, 1) := by decide +kernel
theorem dX11_change_30 : decode cX11_change 30 = .ok (.ireturn, 1) := by decide +kernel
theorem dX11_change_31 : decode cX11_change 31 = .ok (.aload_n 0, 1) := by decide +kernel
theorem dX11_change_32 : decode cX11_change 32 = .ok (.getfield 21, 3) := by decide +kernel
theorem dX11_change_35 : decode cX11_change 35 = .ok (.getfield 123, 3) := by decide +kernel
theorem dX11_change_38 : decode cX11_change 38 = .ok (.iload_n 1, 1) := by decide +kernel
theorem dX11_change_39 : decode cX11_change 39 = .ok (.aaload, 1) := by decide +kernel
theorem dX11_change_40 : decode cX11_change 40 = .ok (.getfield 174, 3) := by decide +kernel
theorem dX11_change_43 : decode cX11_change 43 = .ok (.istore_n 3, 1) := by decide +kernel
theorem dX11_change_44 : decode cX11_change 44 = .ok (.aload_n 0, 1) := by decide +kernel
theorem dX11_change_45 : decode cX11_change 45 = .ok (.getfield 21, 3) := by decide +kernel
theorem dX11_change_48 : decode cX11_change 48 = .ok (.getfield 123, 3) := by decide +kernel
theorem dX11_change_51 : decode cX11_change 51 = .ok (.iload_n 1, 1) := by decide +kernel
theorem dX11_change_52 : decode cX11_change 52 = .ok (.aaload, 1) := by decide +kernel
theorem dX11_change_53 : decode cX11_change 53 = .ok (.aload_n 0, 1) := by decide +kernel
theorem dX11_change_54 : decode cX11_change 54 = .ok (.getfield 21, 3) := by decide +kernel
theorem dX11_change_57 : decode cX11_change 57 = .ok (.getfield 123, 3) := by decide +kernel
theorem dX11_change_60 : decode cX11_change 60 = .ok (.iload_n 2, 1) := by decide +kernel
theorem dX11_change_61 : decode cX11_change 61 = .ok (.aaload, 1) := by decide +kernel
theorem dX11_change_62 : decode cX11_change 62 = .ok (.getfield 174, 3) := by decide +kernel
theorem dX11_change_65 : decode cX11_change 65 = .ok (.putfield 174, 3) := by decide +kernel
theorem dX11_change_68 : decode cX11_change 68 = .ok (.aload_n 0, 1) := by decide +kernel
theorem dX11_change_69 : decode cX11_change 69 = .ok (.getfield 21, 3) := by decide +kernel
theorem dX11_change_72 : decode cX11_change 72 = .ok (.getfield 123, 3) := by decide +kernel
theorem dX11_change_75 : decode cX11_change 75 = .ok (.iload_n 2, 1) := by decide +kernel
theorem dX11_change_76 : decode cX11_change 76 = .ok (.aaload, 1) := by decide +kernel
theorem dX11_change_77 : decode cX11_change 77 = .ok (.iload_n 3, 1) := by decide +kernel
theorem dX11_change_78 : decode cX11_change 78 = .ok (.putfield 174, 3) := by decide +kernel
theorem dX11_change_81 : decode cX11_change 81 = .ok (.iconst 1, 1) := by decide +kernel
theorem dX11_change_82 : decode cX11_change 82 = .ok (.ireturn, 1) := by decide +kernel
theorem dX11_way_0 : decode cX11_way 0 = .ok (.aload_n 0, 1) := by decide +kernel
theorem dX11_way_1 : decode cX11_way 1 = .ok (.invokevirtual 330, 3) := by decide +kernel
theorem dX11_way_4 : decode cX11_way 4 = .ok (.aload_n 0, 1) := by decide +kernel
theorem dX11_way_5 : decode cX11_way 5 = .ok (.getfield 49, 3) := by decide +kernel
theorem dX11_way_8 : decode cX11_way 8 = .ok (.aload_n 0, 1) := by decide +kernel
theorem dX11_way_9 : decode cX11_way 9 = .ok (.getfield 21, 3) := by decide +kernel
theorem dX11_way_12 : decode cX11_way 12 = .ok (.invokevirtual 333, 3) := by decide +kernel
theorem dX11_way_15 : decode cX11_way 15 = .ok (.ireturn, 1) := by decide +kernel
theorem dX11_least_0 : decode cX11_least 0 = .ok (.aload_n 0, 1) := by decide +kernel
theorem dX11_least_1 : decode cX11_least 1 = .ok (.invokevirtual 330, 3) := by decide +kernel
theorem dX11_least_4 : decode cX11_least 4 = .ok (.aload_n 0, 1) := by decide +kernel
theorem dX11_least_5 : decode cX11_least 5 = .ok (.getfield 49, 3) := by decide +kernel
theorem dX11_least_8 : decode cX11_least 8 = .ok (.aload_n 0, 1) := by decide +kernel
theorem dX11_least_9 : decode cX11_least 9 = .ok (.getfield 21, 3) := by decide +kernel
theorem dX11_least_12 : decode cX11_least 12 = .ok (.getfield 329, 3) := by decide +kernel
theorem dX11_least_15 : decode cX11_least 15 = .ok (.invokevirtual 337, 3) := by decide +kernel
theorem dX11_least_18 : decode cX11_least 18 = .ok (.ireturn, 1) := by decide +kernel
theorem dX11_arrange_0 : decode cX11_arrange 0 = .ok (.aload_n 0, 1) := by decide +kernel
theorem dX11_arrange_1 : decode cX11_arrange 1 = .ok (.invokevirtual 330, 3) := by decide +kernel
theorem dX11_arrange_4 : decode cX11_arrange 4 = .ok (.aload_n 0, 1) := by decide +kernel
theorem dX11_arrange_5 : decode cX11_arrange 5 = .ok (.getfield 49, 3) := by decide +kernel
theorem dX11_arrange_8 : decode cX11_arrange 8 = .ok (.aload_n 0, 1) := by decide +kernel
theorem dX11_arrange_9 : decode cX11_arrange 9 = .ok (.getfield 21, 3) := by decide +kernel
theorem dX11_arrange_12 : decode cX11_arrange 12 = .ok (.getfield 329, 3) := by decide +kernel
theorem dX11_arrange_15 : decode cX11_arrange 15 = .ok (.invokevirtual 337, 3) := by decide +kernel
theorem dX11_arrange_18 : decode cX11_arrange 18 = .ok (.pop, 1) := by decide +kernel
theorem dX11_arrange_19 : decode cX11_arrange 19 = .ok (.aload_n 0, 1) := by decide +kernel
theorem dX11_arrange_20 : decode cX11_arrange 20 = .ok (.getfield 49, 3) := by decide +kernel
theorem dX11_arrange_23 : decode cX11_arrange 23 = .ok (.aload_n 0, 1) := by decide +kernel
theorem dX11_arrange_24 : decode cX11_arrange 24 = .ok (.getfield 21, 3) := by decide +kernel
theorem dX11_arrange_27 : decode cX11_arrange 27 = .ok (.invokevirtual 340, 3) := by decide +kernel
theorem dX11_arrange_30 : decode cX11_arrange 30 = .ok (.ireturn, 1) := by decide +kernel
theorem dX11_trouble_0 : decode cX11_trouble 0 = .ok (.aload_n 0, 1) := by decide +kernel
theorem dX11_trouble_1 : decode cX11_trouble 1 = .ok (.getfield 35, 3) := by decide +kernel
theorem dX11_trouble_4 : decode cX11_trouble 4 = .ok (.iload_n 1, 1) := by decide +kernel
theorem dX11_trouble_5 : decode cX11_trouble 5 = .ok (.invokevirtual 276, 3) := by decide +kernel
theorem dX11_trouble_8 : decode cX11_trouble 8 = .ok (.ifCond .ne 5, 3) := by decide +kernel
theorem dX11_trouble_11 : decode cX11_trouble 11 = .ok (.iconst (-1), 1) := by decide +kernel
theorem dX11_trouble_12 : decode cX11_trouble 12 = .ok (.ireturn, 1) := by decide +kernel
theorem dX11_trouble_13 : decode cX11_trouble 13 = .ok (.aload_n 0, 1) := by decide +kernel
theorem dX11_trouble_14 : decode cX11_trouble 14 = .ok (.invokevirtual 195, 3) := by decide +kernel
theorem dX11_trouble_17 : decode cX11_trouble 17 = .ok (.aload_n 0, 1) := by decide +kernel
theorem dX11_trouble_18 : decode cX11_trouble 18 = .ok (.getfield 56, 3) := by decide +kernel
theorem dX11_trouble_21 : decode cX11_trouble 21 = .ok (.aload_n 0, 1) := by decide +kernel
theorem dX11_trouble_22 : decode cX11_trouble 22 = .ok (.getfield 35, 3) := by decide +kernel
theorem dX11_trouble_25 : decode cX11_trouble 25 = .ok (.getfield 250, 3) := by decide +kernel
theorem dX11_trouble_28 : decode cX11_trouble 28 = .ok (.iload_n 1, 1) := by decide +kernel
theorem dX11_trouble_29 : decode cX11_trouble 29 = .ok (.aaload, 1) := by decide +kernel
theorem dX11_trouble_30 : decode cX11_trouble 30 = .ok (.aload_n 0, 1) := by decide +kernel
theorem dX11_trouble_31 : decode cX11_trouble 31 = .ok (.getfield 28, 3) := by decide +kernel
theorem dX11_trouble_34 : decode cX11_trouble 34 = .ok (.invokevirtual 343, 3) := by decide +kernel
theorem dX11_trouble_37 : decode cX11_trouble 37 = .ok (.aload_n 0, 1) := by decide +kernel
theorem dX11_trouble_38 : decode cX11_trouble 38 = .ok (.getfield 56, 3) := by decide +kernel
theorem dX11_trouble_41 : decode cX11_trouble 41 = .ok (.aload_n 0, 1) := by decide +kernel
theorem dX11_trouble_42 : decode cX11_trouble 42 = .ok (.getfield 28, 3) := by decide +kernel
theorem dX11_trouble_45 : decode cX11_trouble 45 = .ok (.invokevirtual 347, 3) := by decide +kernel
theorem dX11_trouble_48 : decode cX11_trouble 48 = .ok (.ireturn, 1) := by decide +kernel
theorem dX11_grip_0 : decode cX11_grip 0 = .ok (.aload_n 0, 1) := by decide +kernel
theorem dX11_grip_1 : decode cX11_grip 1 = .ok (.iload_n 1, 1) := by decide +kernel
theorem dX11_grip_2 : decode cX11_grip 2 = .ok (.iload_n 2, 1) := by decide +kernel
theorem dX11_grip_3 : decode cX11_grip 3 = .ok (.invokevirtual 247, 3) := by decide +kernel
theorem dX11_grip_6 : decode cX11_grip 6 = .ok (.ifCond .ne 5, 3) := by decide +kernel
theorem dX11_grip_9 : decode cX11_grip 9 = .ok (.iconst (-1), 1) := by decide +kernel
theorem dX11_grip_10 : decode cX11_grip 10 = .ok (.ireturn, 1) := by decide +kernel
theorem dX11_grip_11 : decode cX11_grip 11 = .ok (.aload_n 0, 1) := by decide +kernel
theorem dX11_grip_12 : decode cX11_grip 12 = .ok (.invokevirtual 195, 3) := by decide +kernel
theorem dX11_grip_15 : decode cX11_grip 15 = .ok (.aload_n 0, 1) := by decide +kernel
theorem dX11_grip_16 : decode cX11_grip 16 = .ok (.getfield 56, 3) := by decide +kernel
theorem dX11_grip_19 : decode cX11_grip 19 = .ok (.aload_n 0, 1) := by decide +kernel
theorem dX11_grip_20 : decode cX11_grip 20 = .ok (.getfield 35, 3) := by decide +kernel
theorem dX11_grip_23 : decode cX11_grip 23 = .ok (.getfield 250, 3) := by decide +kernel
theorem dX11_grip_26 : decode cX11_grip 26 = .ok (.iload_n 1, 1) := by decide +kernel
theorem dX11_grip_27 : decode cX11_grip 27 = .ok (.aaload, 1) := by decide +kernel
theorem dX11_grip_28 : decode cX11_grip 28 = .ok (.aload_n 0, 1) := by decide +kernel
theorem dX11_grip_29 : decode cX11_grip 29 = .ok (.getfield 28, 3) := by decide +kernel
theorem dX11_grip_32 : decode cX11_grip 32 = .ok (.invokevirtual 343, 3) := by decide +kernel
theorem dX11_grip_35 : decode cX11_grip 35 = .ok (.aload_n 0, 1) := by decide +kernel
theorem dX11_grip_36 : decode cX11_grip 36 = .ok (.getfield 56, 3) := by decide +kernel
theorem dX11_grip_39 : decode cX11_grip 39 = .ok (.iload_n 2, 1) := by decide +kernel
theorem dX11_grip_40 : decode cX11_grip 40 = .ok (.aload_n 0, 1) := by decide +kernel
theorem dX11_grip_41 : decode cX11_grip 41 = .ok (.getfield 28, 3) := by decide +kernel
theorem dX11_grip_44 : decode cX11_grip 44 = .ok (.invokevirtual 350, 3) := by decide +kernel
theorem dX11_grip_47 : decode cX11_grip 47 = .ok (.ireturn, 1) := by decide +kernel
theorem dX11_heard_0 : decode cX11_heard 0 = .ok (.aload_n 0, 1) := by decide +kernel
theorem dX11_heard_1 : decode cX11_heard 1 = .ok (.iconst 0, 1) := by decide +kernel
theorem dX11_heard_2 : decode cX11_heard 2 = .ok (.putfield 78, 3) := by decide +kernel
theorem dX11_heard_5 : decode cX11_heard 5 = .ok (.iload_n 2, 1) := by decide +kernel
theorem dX11_heard_6 : decode cX11_heard 6 = .ok (.invokestatic 221, 3) := by decide +kernel
theorem dX11_heard_9 : decode cX11_heard 9 = .ok (.ifCond .ne 5, 3) := by decide +kernel
theorem dX11_heard_12 : decode cX11_heard 12 = .ok (.iconst (-1), 1) := by decide +kernel
theorem dX11_heard_13 : decode cX11_heard 13 = .ok (.ireturn, 1) := by decide +kernel
theorem dX11_heard_14 : decode cX11_heard 14 = .ok (.aload_n 0, 1) := by decide +kernel
theorem dX11_heard_15 : decode cX11_heard 15 = .ok (.getfield 21, 3) := by decide +kernel
theorem dX11_heard_18 : decode cX11_heard 18 = .ok (.iload_n 1, 1) := by decide +kernel
theorem dX11_heard_19 : decode cX11_heard 19 = .ok (.invokevirtual 182, 3) := by decide +kernel
theorem dX11_heard_22 : decode cX11_heard 22 = .ok (.ifCond .eq 10, 3) := by decide +kernel
theorem dX11_heard_25 : decode cX11_heard 25 = .ok (.iload_n 3, 1) := by decide +kernel
theorem dX11_heard_26 : decode cX11_heard 26 = .ok (.invokestatic 224, 3) := by decide +kernel
theorem dX11_heard_29 : decode cX11_heard 29 = .ok (.ifCond .ne 6, 3) := by decide +kernel
theorem dX11_heard_32 : decode cX11_heard 32 = .ok (.bipush (-2), 2) := by decide +kernel
theorem dX11_heard_34 : decode cX11_heard 34 = .ok (.ireturn, 1) := by decide +kernel
theorem dX11_heard_35 : decode cX11_heard 35 = .ok (.aload_n 0, 1) := by decide +kernel
theorem dX11_heard_36 : decode cX11_heard 36 = .ok (.getfield 69, 3) := by decide +kernel
theorem dX11_heard_39 : decode cX11_heard 39 = .ok (.iload_n 2, 1) := by decide +kernel
theorem dX11_heard_40 : decode cX11_heard 40 = .ok (.aaload, 1) := by decide +kernel
theorem dX11_heard_41 : decode cX11_heard 41 = .ok (.astore 5, 2) := by decide +kernel
theorem dX11_heard_43 : decode cX11_heard 43 = .ok (.aload 5, 2) := by decide +kernel
theorem dX11_heard_45 : decode cX11_heard 45 = .ok (.iload_n 3, 1) := by decide +kernel
theorem dX11_heard_46 : decode cX11_heard 46 = .ok (.invokevirtual 227, 3) := by decide +kernel
theorem dX11_heard_49 : decode cX11_heard 49 = .ok (.istore 6, 2) := by decide +kernel
theorem dX11_heard_51 : decode cX11_heard 51 = .ok (.iload 6, 2) := by decide +kernel
theorem dX11_heard_53 : decode cX11_heard 53 = .ok (.ifCond .ne 24, 3) := by decide +kernel
theorem dX11_heard_56 : decode cX11_heard 56 = .ok (.aload 5, 2) := by decide +kernel
theorem dX11_heard_58 : decode cX11_heard 58 = .ok (.iload 4, 2) := by decide +kernel
theorem dX11_heard_60 : decode cX11_heard 60 = .ok (.aload_n 0, 1) := by decide +kernel
theorem dX11_heard_61 : decode cX11_heard 61 = .ok (.getfield 14, 3) := by decide +kernel
theorem dX11_heard_64 : decode cX11_heard 64 = .ok (.getfield 354, 3) := by decide +kernel
theorem dX11_heard_67 : decode cX11_heard 67 = .ok (.i2l, 1) := by decide +kernel
theorem dX11_heard_68 : decode cX11_heard 68 = .ok (.invokevirtual 232, 3) := by decide +kernel
theorem dX11_heard_71 : decode cX11_heard 71 = .ok (.ifCond .ne 6, 3) := by decide +kernel
theorem dX11_heard_74 : decode cX11_heard 74 = .ok (.iconst 3, 1) := by decide +kernel
theorem dX11_heard_75 : decode cX11_heard 75 = .ok (.istore 6, 2) := by decide +kernel
theorem dX11_heard_77 : decode cX11_heard 77 = .ok (.iload 6, 2) := by decide +kernel
theorem dX11_heard_79 : decode cX11_heard 79 = .ok (.ifCond .eq 10, 3) := by decide +kernel
theorem dX11_heard_82 : decode cX11_heard 82 = .ok (.aload_n 0, 1) := by decide +kernel
theorem dX11_heard_83 : decode cX11_heard 83 = .ok (.iload 6, 2) := by decide +kernel
theorem dX11_heard_85 : decode cX11_heard 85 = .ok (.invokevirtual 236, 3) := by decide +kernel
theorem dX11_heard_88 : decode cX11_heard 88 = .ok (.ireturn, 1) := by decide +kernel
theorem dX11_heard_89 : decode cX11_heard 89 = .ok (.aload 5, 2) := by decide +kernel
theorem dX11_heard_91 : decode cX11_heard 91 = .ok (.iload 4, 2) := by decide +kernel
theorem dX11_heard_93 : decode cX11_heard 93 = .ok (.aload_n 0, 1) := by decide +kernel
theorem dX11_heard_94 : decode cX11_heard 94 = .ok (.getfield 14, 3) := by decide +kernel
theorem dX11_heard_97 : decode cX11_heard 97 = .ok (.getfield 354, 3) := by decide +kernel
theorem dX11_heard_100 : decode cX11_heard 100 = .ok (.invokestatic 355, 3) := by decide +kernel
theorem dX11_heard_103 : decode cX11_heard 103 = .ok (.ifCond .ne 6, 3) := by decide +kernel
theorem dX11_heard_106 : decode cX11_heard 106 = .ok (.bipush (-2), 2) := by decide +kernel
theorem dX11_heard_108 : decode cX11_heard 108 = .ok (.ireturn, 1) := by decide +kernel
theorem dX11_heard_109 : decode cX11_heard 109 = .ok (.aload_n 0, 1) := by decide +kernel
theorem dX11_heard_110 : decode cX11_heard 110 = .ok (.getfield 63, 3) := by decide +kernel
theorem dX11_heard_113 : decode cX11_heard 113 = .ok (.invokevirtual 358, 3) := by decide +kernel
theorem dX11_heard_116 : decode cX11_heard 116 = .ok (.ifCond .eq 6, 3) := by decide +kernel
theorem dX11_heard_119 : decode cX11_heard 119 = .ok (.bipush (-4), 2) := by decide +kernel
theorem dX11_heard_121 : decode cX11_heard 121 = .ok (.ireturn, 1) := by decide +kernel
theorem dX11_heard_122 : decode cX11_heard 122 = .ok (.aload_n 0, 1) := by decide +kernel
theorem dX11_heard_123 : decode cX11_heard 123 = .ok (.getfield 63, 3) := by decide +kernel
theorem dX11_heard_126 : decode cX11_heard 126 = .ok (.iload_n 1, 1) := by decide +kernel
theorem dX11_heard_127 : decode cX11_heard 127 = .ok (.aload 5, 2) := by decide +kernel
theorem dX11_heard_129 : decode cX11_heard 129 = .ok (.iload 4, 2) := by decide +kernel
theorem dX11_heard_131 : decode cX11_heard 131 = .ok (.aload_n 0, 1) := by decide +kernel
theorem dX11_heard_132 : decode cX11_heard 132 = .ok (.getfield 14, 3) := by decide +kernel
theorem dX11_heard_135 : decode cX11_heard 135 = .ok (.getfield 354, 3) := by decide +kernel
theorem dX11_heard_138 : decode cX11_heard 138 = .ok (.invokevirtual 359, 3) := by decide +kernel
theorem dX11_heard_141 : decode cX11_heard 141 = .ok (.ireturn, 1) := by decide +kernel
theorem dX11_worn_0 : decode cX11_worn 0 = .ok (.aload_n 0, 1) := by decide +kernel
theorem dX11_worn_1 : decode cX11_worn 1 = .ok (.getfield 63, 3) := by decide +kernel
theorem dX11_worn_4 : decode cX11_worn 4 = .ok (.aload_n 0, 1) := by decide +kernel
theorem dX11_worn_5 : decode cX11_worn 5 = .ok (.getfield 21, 3) := by decide +kernel
theorem dX11_worn_8 : decode cX11_worn 8 = .ok (.invokevirtual 362, 3) := by decide +kernel
theorem dX11_worn_11 : decode cX11_worn 11 = .ok (.aload_n 0, 1) := by decide +kernel
theorem dX11_worn_12 : decode cX11_worn 12 = .ok (.getfield 63, 3) := by decide +kernel
theorem dX11_worn_15 : decode cX11_worn 15 = .ok (.aload_n 0, 1) := by decide +kernel
theorem dX11_worn_16 : decode cX11_worn 16 = .ok (.getfield 21, 3) := by decide +kernel
theorem dX11_worn_19 : decode cX11_worn 19 = .ok (.invokevirtual 366, 3) := by decide +kernel
theorem dX11_worn_22 : decode cX11_worn 22 = .ok (.ifCond .eq 13, 3) := by decide +kernel
theorem dX11_worn_25 : decode cX11_worn 25 = .ok (.aload_n 0, 1) := by decide +kernel
theorem dX11_worn_26 : decode cX11_worn 26 = .ok (.getfield 63, 3) := by decide +kernel
theorem dX11_worn_29 : decode cX11_worn 29 = .ok (.invokevirtual 370, 3) := by decide +kernel
theorem dX11_worn_32 : decode cX11_worn 32 = .ok (.goto 5, 3) := by decide +kernel
theorem dX11_worn_35 : decode cX11_worn 35 = .ok (.bipush (-9), 2) := by decide +kernel
theorem dX11_worn_37 : decode cX11_worn 37 = .ok (.ireturn, 1) := by decide +kernel
theorem dX11_sure_0 : decode cX11_sure 0 = .ok (.aload_n 0, 1) := by decide +kernel
theorem dX11_sure_1 : decode cX11_sure 1 = .ok (.iload_n 1, 1) := by decide +kernel
theorem dX11_sure_2 : decode cX11_sure 2 = .ok (.iload_n 2, 1) := by decide +kernel
theorem dX11_sure_3 : decode cX11_sure 3 = .ok (.invokevirtual 137, 3) := by decide +kernel
theorem dX11_sure_6 : decode cX11_sure 6 = .ok (.ifCond .ne 5, 3) := by decide +kernel
theorem dX11_sure_9 : decode cX11_sure 9 = .ok (.iconst (-1), 1) := by decide +kernel
theorem dX11_sure_10 : decode cX11_sure 10 = .ok (.ireturn, 1) := by decide +kernel
theorem dX11_sure_11 : decode cX11_sure 11 = .ok (.aload_n 0, 1) := by decide +kernel
theorem dX11_sure_12 : decode cX11_sure 12 = .ok (.getfield 63, 3) := by decide +kernel
theorem dX11_sure_15 : decode cX11_sure 15 = .ok (.aload_n 0, 1) := by decide +kernel
theorem dX11_sure_16 : decode cX11_sure 16 = .ok (.getfield 21, 3) := by decide +kernel
theorem dX11_sure_19 : decode cX11_sure 19 = .ok (.invokevirtual 362, 3) := by decide +kernel
theorem dX11_sure_22 : decode cX11_sure 22 = .ok (.aload_n 0, 1) := by decide +kernel
theorem dX11_sure_23 : decode cX11_sure 23 = .ok (.getfield 63, 3) := by decide +kernel
theorem dX11_sure_26 : decode cX11_sure 26 = .ok (.aload_n 0, 1) := by decide +kernel
theorem dX11_sure_27 : decode cX11_sure 27 = .ok (.getfield 21, 3) := by decide +kernel
theorem dX11_sure_30 : decode cX11_sure 30 = .ok (.invokevirtual 366, 3) := by decide +kernel
theorem dX11_sure_33 : decode cX11_sure 33 = .ok (.ifCond .ne 6, 3) := by decide +kernel
theorem dX11_sure_36 : decode cX11_sure 36 = .ok (.bipush (-3), 2) := by decide +kernel
theorem dX11_sure_38 : decode cX11_sure 38 = .ok (.ireturn, 1) := by decide +kernel
theorem dX11_sure_39 : decode cX11_sure 39 = .ok (.aload_n 0, 1) := by decide +kernel
theorem dX11_sure_40 : decode cX11_sure 40 = .ok (.getfield 63, 3) := by decide +kernel
theorem dX11_sure_43 : decode cX11_sure 43 = .ok (.iload_n 1, 1) := by decide +kernel
theorem dX11_sure_44 : decode cX11_sure 44 = .ok (.iload_n 2, 1) := by decide +kernel
theorem dX11_sure_45 : decode cX11_sure 45 = .ok (.invokevirtual 373, 3) := by decide +kernel
theorem dX11_sure_48 : decode cX11_sure 48 = .ok (.ifCond .eq 5, 3) := by decide +kernel
theorem dX11_sure_51 : decode cX11_sure 51 = .ok (.iconst 1, 1) := by decide +kernel
theorem dX11_sure_52 : decode cX11_sure 52 = .ok (.ireturn, 1) := by decide +kernel
theorem dX11_sure_53 : decode cX11_sure 53 = .ok (.aload_n 0, 1) := by decide +kernel
theorem dX11_sure_54 : decode cX11_sure 54 = .ok (.getfield 63, 3) := by decide +kernel
theorem dX11_sure_57 : decode cX11_sure 57 = .ok (.iload_n 1, 1) := by decide +kernel
theorem dX11_sure_58 : decode cX11_sure 58 = .ok (.iload_n 2, 1) := by decide +kernel
theorem dX11_sure_59 : decode cX11_sure 59 = .ok (.invokevirtual 376, 3) := by decide +kernel
theorem dX11_sure_62 : decode cX11_sure 62 = .ok (.aload_n 0, 1) := by decide +kernel
theorem dX11_sure_63 : decode cX11_sure 63 = .ok (.getfield 63, 3) := by decide +kernel
theorem dX11_sure_66 : decode cX11_sure 66 = .ok (.aload_n 0, 1) := by decide +kernel
theorem dX11_sure_67 : decode cX11_sure 67 = .ok (.getfield 21, 3) := by decide +kernel
theorem dX11_sure_70 : decode cX11_sure 70 = .ok (.invokevirtual 366, 3) := by decide +kernel
theorem dX11_sure_73 : decode cX11_sure 73 = .ok (.ifCond .eq 7, 3) := by decide +kernel
theorem dX11_sure_76 : decode cX11_sure 76 = .ok (.iconst 2, 1) := by decide +kernel
theorem dX11_sure_77 : decode cX11_sure 77 = .ok (.goto 4, 3) := by decide +kernel
theorem dX11_sure_80 : decode cX11_sure 80 = .ok (.iconst 0, 1) := by decide +kernel
theorem dX11_sure_81 : decode cX11_sure 81 = .ok (.ireturn, 1) := by decide +kernel
theorem dX11_unhear_0 : decode cX11_unhear 0 = .ok (.aload_n 0, 1) := by decide +kernel
theorem dX11_unhear_1 : decode cX11_unhear 1 = .ok (.getfield 63, 3) := by decide +kernel
theorem dX11_unhear_4 : decode cX11_unhear 4 = .ok (.getfield 379, 3) := by decide +kernel
theorem dX11_unhear_7 : decode cX11_unhear 7 = .ok (.istore_n 1, 1) := by decide +kernel
theorem dX11_unhear_8 : decode cX11_unhear 8 = .ok (.aload_n 0, 1) := by decide +kernel
theorem dX11_unhear_9 : decode cX11_unhear 9 = .ok (.getfield 63, 3) := by decide +kernel
theorem dX11_unhear_12 : decode cX11_unhear 12 = .ok (.invokevirtual 319, 3) := by decide +kernel
theorem dX11_unhear_15 : decode cX11_unhear 15 = .ok (.iload_n 1, 1) := by decide +kernel
theorem dX11_unhear_16 : decode cX11_unhear 16 = .ok (.ireturn, 1) := by decide +kernel
theorem dX11_otherwise_0 : decode cX11_otherwise 0 = .ok (.aload_n 0, 1) := by decide +kernel
theorem dX11_otherwise_1 : decode cX11_otherwise 1 = .ok (.getfield 14, 3) := by decide +kernel
theorem dX11_otherwise_4 : decode cX11_otherwise 4 = .ok (.iload_n 1, 1) := by decide +kernel
theorem dX11_otherwise_5 : decode cX11_otherwise 5 = .ok (.invokevirtual 93, 3) := by decide +kernel
theorem dX11_otherwise_8 : decode cX11_otherwise 8 = .ok (.ifCond .ne 5, 3) := by decide +kernel
theorem dX11_otherwise_11 : decode cX11_otherwise 11 = .ok (.iconst (-1), 1) := by decide +kernel
theorem dX11_otherwise_12 : decode cX11_otherwise 12 = .ok (.ireturn, 1) := by decide +kernel
theorem dX11_otherwise_13 : decode cX11_otherwise 13 = .ok (.iload_n 2, 1) := by decide +kernel
theorem dX11_otherwise_14 : decode cX11_otherwise 14 = .ok (.invokestatic 380, 3) := by decide +kernel
theorem dX11_otherwise_17 : decode cX11_otherwise 17 = .ok (.ifCond .eq 20, 3) := by decide +kernel
theorem dX11_otherwise_20 : decode cX11_otherwise 20 = .ok (.aload_n 0, 1) := by decide +kernel
theorem dX11_otherwise_21 : decode cX11_otherwise 21 = .ok (.getfield 14, 3) := by decide +kernel
theorem dX11_otherwise_24 : decode cX11_otherwise 24 = .ok (.getfield 96, 3) := by decide +kernel
theorem dX11_otherwise_27 : decode cX11_otherwise 27 = .ok (.iload_n 1, 1) := by decide +kernel
theorem dX11_otherwise_28 : decode cX11_otherwise 28 = .ok (.iaload, 1) := by decide +kernel
theorem dX11_otherwise_29 : decode cX11_otherwise 29 = .ok (.iload_n 2, 1) := by decide +kernel
theorem dX11_otherwise_30 : decode cX11_otherwise 30 = .ok (.iadd, 1) := by decide +kernel
theorem dX11_otherwise_31 : decode cX11_otherwise 31 = .ok (.invokestatic 81, 3) := by decide +kernel
theorem dX11_otherwise_34 : decode cX11_otherwise 34 = .ok (.ifCond .ne 6, 3) := by decide +kernel
theorem dX11_otherwise_37 : decode cX11_otherwise 37 = .ok (.bipush (-2), 2) := by decide +kernel
theorem dX11_otherwise_39 : decode cX11_otherwise 39 = .ok (.ireturn, 1) := by decide +kernel
theorem dX11_otherwise_40 : decode cX11_otherwise 40 = .ok (.aload_n 0, 1) := by decide +kernel
theorem dX11_otherwise_41 : decode cX11_otherwise 41 = .ok (.iload_n 1, 1) := by decide +kernel
theorem dX11_otherwise_42 : decode cX11_otherwise 42 = .ok (.iload_n 2, 1) := by decide +kernel
theorem dX11_otherwise_43 : decode cX11_otherwise 43 = .ok (.invokevirtual 383, 3) := by decide +kernel
theorem dX11_otherwise_46 : decode cX11_otherwise 46 = .ok (.ireturn, 1) := by decide +kernel
theorem dX11_best_0 : decode cX11_best 0 = .ok (.iload_n 1, 1) := by decide +kernel
theorem dX11_best_1 : decode cX11_best 1 = .ok (.ifCond .lt 8, 3) := by decide +kernel
theorem dX11_best_4 : decode cX11_best 4 = .ok (.iload_n 1, 1) := by decide +kernel
theorem dX11_best_5 : decode cX11_best 5 = .ok (.iconst 2, 1) := by decide +kernel
theorem dX11_best_6 : decode cX11_best 6 = .ok (.if_icmp .le 6, 3) := by decide +kernel
theorem dX11_best_9 : decode cX11_best 9 = .ok (.bipush 99, 2) := by decide +kernel
theorem dX11_best_11 : decode cX11_best 11 = .ok (.ireturn, 1) := by decide +kernel
theorem dX11_best_12 : decode cX11_best 12 = .ok (.aload_n 0, 1) := by decide +kernel
theorem dX11_best_13 : decode cX11_best 13 = .ok (.invokevirtual 195, 3) := by decide +kernel
theorem dX11_best_16 : decode cX11_best 16 = .ok (.aload_n 0, 1) := by decide +kernel
theorem dX11_best_17 : decode cX11_best 17 = .ok (.getfield 35, 3) := by decide +kernel
theorem dX11_best_20 : decode cX11_best 20 = .ok (.aload_n 0, 1) := by decide +kernel
theorem dX11_best_21 : decode cX11_best 21 = .ok (.getfield 28, 3) := by decide +kernel
theorem dX11_best_24 : decode cX11_best 24 = .ok (.invokevirtual 294, 3) := by decide +kernel
theorem dX11_best_27 : decode cX11_best 27 = .ok (.invokestatic 204, 3) := by decide +kernel
theorem dX11_best_30 : decode cX11_best 30 = .ok (.istore_n 2, 1) := by decide +kernel
theorem dX11_best_31 : decode cX11_best 31 = .ok (.bipush (-9), 2) := by decide +kernel
theorem dX11_best_33 : decode cX11_best 33 = .ok (.istore_n 3, 1) := by decide +kernel
theorem dX11_best_34 : decode cX11_best 34 = .ok (.iconst 0, 1) := by decide +kernel
theorem dX11_best_35 : decode cX11_best 35 = .ok (.istore 4, 2) := by decide +kernel
theorem dX11_best_37 : decode cX11_best 37 = .ok (.iconst 0, 1) := by decide +kernel
theorem dX11_best_38 : decode cX11_best 38 = .ok (.istore 5, 2) := by decide +kernel
theorem dX11_best_40 : decode cX11_best 40 = .ok (.iload 5, 2) := by decide +kernel
theorem dX11_best_42 : decode cX11_best 42 = .ok (.aload_n 0, 1) := by decide +kernel
theorem dX11_best_43 : decode cX11_best 43 = .ok (.getfield 14, 3) := by decide +kernel
theorem dX11_best_46 : decode cX11_best 46 = .ok (.getfield 354, 3) := by decide +kernel
theorem dX11_best_49 : decode cX11_best 49 = .ok (.if_icmp .ge 91, 3) := by decide +kernel
theorem dX11_best_52 : decode cX11_best 52 = .ok (.getstatic 386, 3) := by decide +kernel
theorem dX11_best_55 : decode cX11_best 55 = .ok (.astore 6, 2) := by decide +kernel
theorem dX11_best_57 : decode cX11_best 57 = .ok (.aload 6, 2) := by decide +kernel
theorem dX11_best_59 : decode cX11_best 59 = .ok (.arraylength, 1) := by decide +kernel
theorem dX11_best_60 : decode cX11_best 60 = .ok (.istore 7, 2) := by decide +kernel
theorem dX11_best_62 : decode cX11_best 62 = .ok (.iconst 0, 1) := by decide +kernel
theorem dX11_best_63 : decode cX11_best 63 = .ok (.istore 8, 2) := by decide +kernel
theorem dX11_best_65 : decode cX11_best 65 = .ok (.iload 8, 2) := by decide +kernel
theorem dX11_best_67 : decode cX11_best 67 = .ok (.iload 7, 2) := by decide +kernel
theorem dX11_best_69 : decode cX11_best 69 = .ok (.if_icmp .ge 65, 3) := by decide +kernel
theorem dX11_best_72 : decode cX11_best 72 = .ok (.aload 6, 2) := by decide +kernel
theorem dX11_best_74 : decode cX11_best 74 = .ok (.iload 8, 2) := by decide +kernel
theorem dX11_best_76 : decode cX11_best 76 = .ok (.iaload, 1) := by decide +kernel
theorem dX11_best_77 : decode cX11_best 77 = .ok (.istore 9, 2) := by decide +kernel
theorem dX11_best_79 : decode cX11_best 79 = .ok (.aload_n 0, 1) := by decide +kernel
theorem dX11_best_80 : decode cX11_best 80 = .ok (.getfield 14, 3) := by decide +kernel
theorem dX11_best_83 : decode cX11_best 83 = .ok (.getfield 96, 3) := by decide +kernel
theorem dX11_best_86 : decode cX11_best 86 = .ok (.iload 5, 2) := by decide +kernel
theorem dX11_best_88 : decode cX11_best 88 = .ok (.iaload, 1) := by decide +kernel
theorem dX11_best_89 : decode cX11_best 89 = .ok (.iload 9, 2) := by decide +kernel
theorem dX11_best_91 : decode cX11_best 91 = .ok (.iadd, 1) := by decide +kernel
theorem dX11_best_92 : decode cX11_best 92 = .ok (.invokestatic 81, 3) := by decide +kernel
theorem dX11_best_95 : decode cX11_best 95 = .ok (.ifCond .eq 14, 3) := by decide +kernel
theorem dX11_best_98 : decode cX11_best 98 = .ok (.aload_n 0, 1) := by decide +kernel
theorem dX11_best_99 : decode cX11_best 99 = .ok (.iload 5, 2) := by decide +kernel
theorem dX11_best_101 : decode cX11_best 101 = .ok (.iload 9, 2) := by decide +kernel
theorem dX11_best_103 : decode cX11_best 103 = .ok (.invokevirtual 383, 3) := by decide +kernel
theorem dX11_best_106 : decode cX11_best 106 = .ok (.goto 4, 3) := by decide +kernel
theorem dX11_best_109 : decode cX11_best 109 = .ok (.iconst 0, 1) := by decide +kernel
theorem dX11_best_110 : decode cX11_best 110 = .ok (.istore 10, 2) := by decide +kernel
theorem dX11_best_112 : decode cX11_best 112 = .ok (.iload 10, 2) := by decide +kernel
theorem dX11_best_114 : decode cX11_best 114 = .ok (.iload_n 2, 1) := by decide +kernel
theorem dX11_best_115 : decode cX11_best 115 = .ok (.if_icmp .le 13, 3) := by decide +kernel
theorem dX11_best_118 : decode cX11_best 118 = .ok (.iload 10, 2) := by decide +kernel
theorem dX11_best_120 : decode cX11_best 120 = .ok (.istore_n 2, 1) := by decide +kernel
theorem dX11_best_121 : decode cX11_best 121 = .ok (.iload 5, 2) := by decide +kernel
theorem dX11_best_123 : decode cX11_best 123 = .ok (.istore_n 3, 1) := by decide +kernel
theorem dX11_best_124 : decode cX11_best 124 = .ok (.iload 9, 2) := by decide +kernel
theorem dX11_best_126 : decode cX11_best 126 = .ok (.istore 4, 2) := by decide +kernel
theorem dX11_best_128 : decode cX11_best 128 = .ok (.iinc 8 1, 3) := by decide +kernel
theorem dX11_best_131 : decode cX11_best 131 = .ok (.goto (-66), 3) := by decide +kernel
theorem dX11_best_134 : decode cX11_best 134 = .ok (.iinc 5 1, 3) := by decide +kernel
theorem dX11_best_137 : decode cX11_best 137 = .ok (.goto (-97), 3) := by decide +kernel
theorem dX11_best_140 : decode cX11_best 140 = .ok (.iload_n 1, 1) := by decide +kernel
theorem dX11_best_141 : decode cX11_best 141 = .ok (.ifCond .ne 5, 3) := by decide +kernel
theorem dX11_best_144 : decode cX11_best 144 = .ok (.iload_n 3, 1) := by decide +kernel
theorem dX11_best_145 : decode cX11_best 145 = .ok (.ireturn, 1) := by decide +kernel
theorem dX11_best_146 : decode cX11_best 146 = .ok (.iload_n 1, 1) := by decide +kernel
theorem dX11_best_147 : decode cX11_best 147 = .ok (.iconst 1, 1) := by decide +kernel
theorem dX11_best_148 : decode cX11_best 148 = .ok (.if_icmp .ne 6, 3) := by decide +kernel
theorem dX11_best_151 : decode cX11_best 151 = .ok (.iload 4, 2) := by decide +kernel
theorem dX11_best_153 : decode cX11_best 153 = .ok (.ireturn, 1) := by decide +kernel
theorem dX11_best_154 : decode cX11_best 154 = .ok (.iload_n 3, 1) := by decide +kernel
theorem dX11_best_155 : decode cX11_best 155 = .ok (.bipush (-9), 2) := by decide +kernel
theorem dX11_best_157 : decode cX11_best 157 = .ok (.if_icmp .ne 8, 3) := by decide +kernel
theorem dX11_best_160 : decode cX11_best 160 = .ok (.bipush (-9), 2) := by decide +kernel
theorem dX11_best_162 : decode cX11_best 162 = .ok (.goto 4, 3) := by decide +kernel
theorem dX11_best_165 : decode cX11_best 165 = .ok (.iload_n 2, 1) := by decide +kernel
theorem dX11_best_166 : decode cX11_best 166 = .ok (.ireturn, 1) := by decide +kernel
theorem dX11_sheet_0 : decode cX11_sheet 0 = .ok (.aload_n 0, 1) := by decide +kernel
theorem dX11_sheet_1 : decode cX11_sheet 1 = .ok (.iconst 0, 1) := by decide +kernel
theorem dX11_sheet_2 : decode cX11_sheet 2 = .ok (.putfield 78, 3) := by decide +kernel
theorem dX11_sheet_5 : decode cX11_sheet 5 = .ok (.iload_n 1, 1) := by decide +kernel
theorem dX11_sheet_6 : decode cX11_sheet 6 = .ok (.invokestatic 221, 3) := by decide +kernel
theorem dX11_sheet_9 : decode cX11_sheet 9 = .ok (.ifCond .ne 5, 3) := by decide +kernel
theorem dX11_sheet_12 : decode cX11_sheet 12 = .ok (.iconst (-1), 1) := by decide +kernel
theorem dX11_sheet_13 : decode cX11_sheet 13 = .ok (.ireturn, 1) := by decide +kernel
theorem dX11_sheet_14 : decode cX11_sheet 14 = .ok (.iload_n 2, 1) := by decide +kernel
theorem dX11_sheet_15 : decode cX11_sheet 15 = .ok (.invokestatic 224, 3) := by decide +kernel
theorem dX11_sheet_18 : decode cX11_sheet 18 = .ok (.ifCond .eq 9, 3) := by decide +kernel
theorem dX11_sheet_21 : decode cX11_sheet 21 = .ok (.iload_n 3, 1) := by decide +kernel
theorem dX11_sheet_22 : decode cX11_sheet 22 = .ok (.bipush 64, 2) := by decide +kernel
theorem dX11_sheet_24 : decode cX11_sheet 24 = .ok (.if_icmp .le 6, 3) := by decide +kernel
theorem dX11_sheet_27 : decode cX11_sheet 27 = .ok (.bipush (-2), 2) := by decide +kernel
theorem dX11_sheet_29 : decode cX11_sheet 29 = .ok (.ireturn, 1) := by decide +kernel
theorem dX11_sheet_30 : decode cX11_sheet 30 = .ok (.iload_n 3, 1) := by decide +kernel
theorem dX11_sheet_31 : decode cX11_sheet 31 = .ok (.ifCond .ge 9, 3) := by decide +kernel
theorem dX11_sheet_34 : decode cX11_sheet 34 = .ok (.aload_n 0, 1) := by decide +kernel
theorem dX11_sheet_35 : decode cX11_sheet 35 = .ok (.iconst 4, 1) := by decide +kernel
theorem dX11_sheet_36 : decode cX11_sheet 36 = .ok (.invokevirtual 236, 3) := by decide +kernel
theorem dX11_sheet_39 : decode cX11_sheet 39 = .ok (.ireturn, 1) := by decide +kernel
theorem dX11_sheet_40 : decode cX11_sheet 40 = .ok (.aload_n 0, 1) := by decide +kernel
theorem dX11_sheet_41 : decode cX11_sheet 41 = .ok (.getfield 69, 3) := by decide +kernel
theorem dX11_sheet_44 : decode cX11_sheet 44 = .ok (.iload_n 1, 1) := by decide +kernel
theorem dX11_sheet_45 : decode cX11_sheet 45 = .ok (.aaload, 1) := by decide +kernel
theorem dX11_sheet_46 : decode cX11_sheet 46 = .ok (.iload_n 2, 1) := by decide +kernel
theorem dX11_sheet_47 : decode cX11_sheet 47 = .ok (.iload_n 3, 1) := by decide +kernel
theorem dX11_sheet_48 : decode cX11_sheet 48 = .ok (.invokevirtual 389, 3) := by decide +kernel
theorem dX11_sheet_51 : decode cX11_sheet 51 = .ok (.iconst 1, 1) := by decide +kernel
theorem dX11_sheet_52 : decode cX11_sheet 52 = .ok (.ireturn, 1) := by decide +kernel
theorem dX11_lose_0 : decode cX11_lose 0 = .ok (.iload_n 1, 1) := by decide +kernel
theorem dX11_lose_1 : decode cX11_lose 1 = .ok (.invokestatic 221, 3) := by decide +kernel
theorem dX11_lose_4 : decode cX11_lose 4 = .ok (.ifCond .ne 5, 3) := by decide +kernel
theorem dX11_lose_7 : decode cX11_lose 7 = .ok (.iconst (-1), 1) := by decide +kernel
theorem dX11_lose_8 : decode cX11_lose 8 = .ok (.ireturn, 1) := by decide +kernel
theorem dX11_lose_9 : decode cX11_lose 9 = .ok (.aload_n 0, 1) := by decide +kernel
theorem dX11_lose_10 : decode cX11_lose 10 = .ok (.getfield 69, 3) := by decide +kernel
theorem dX11_lose_13 : decode cX11_lose 13 = .ok (.iload_n 1, 1) := by decide +kernel
theorem dX11_lose_14 : decode cX11_lose 14 = .ok (.aaload, 1) := by decide +kernel
theorem dX11_lose_15 : decode cX11_lose 15 = .ok (.invokevirtual 392, 3) := by decide +kernel
theorem dX11_lose_18 : decode cX11_lose 18 = .ok (.invokestatic 133, 3) := by decide +kernel
theorem dX11_lose_21 : decode cX11_lose 21 = .ok (.ireturn, 1) := by decide +kernel
theorem dX11_put_0 : decode cX11_put 0 = .ok (.aload_n 0, 1) := by decide +kernel
theorem dX11_put_1 : decode cX11_put 1 = .ok (.iconst 0, 1) := by decide +kernel
theorem dX11_put_2 : decode cX11_put 2 = .ok (.putfield 78, 3) := by decide +kernel
theorem dX11_put_5 : decode cX11_put 5 = .ok (.iload_n 1, 1) := by decide +kernel
theorem dX11_put_6 : decode cX11_put 6 = .ok (.invokestatic 221, 3) := by decide +kernel
theorem dX11_put_9 : decode cX11_put 9 = .ok (.ifCond .ne 5, 3) := by decide +kernel
theorem dX11_put_12 : decode cX11_put 12 = .ok (.iconst (-1), 1) := by decide +kernel
theorem dX11_put_13 : decode cX11_put 13 = .ok (.ireturn, 1) := by decide +kernel
theorem dX11_put_14 : decode cX11_put 14 = .ok (.aload_n 0, 1) := by decide +kernel
theorem dX11_put_15 : decode cX11_put 15 = .ok (.getfield 69, 3) := by decide +kernel
theorem dX11_put_18 : decode cX11_put 18 = .ok (.iload_n 1, 1) := by decide +kernel
theorem dX11_put_19 : decode cX11_put 19 = .ok (.aaload, 1) := by decide +kernel
theorem dX11_put_20 : decode cX11_put 20 = .ok (.invokevirtual 395, 3) := by decide +kernel
theorem dX11_put_23 : decode cX11_put 23 = .ok (.ifCond .eq 9, 3) := by decide +kernel
theorem dX11_put_26 : decode cX11_put 26 = .ok (.aload_n 0, 1) := by decide +kernel
theorem dX11_put_27 : decode cX11_put 27 = .ok (.iconst 1, 1) := by decide +kernel
theorem dX11_put_28 : decode cX11_put 28 = .ok (.invokevirtual 236, 3) := by decide +kernel
theorem dX11_put_31 : decode cX11_put 31 = .ok (.ireturn, 1) := by decide +kernel
theorem dX11_put_32 : decode cX11_put 32 = .ok (.aload_n 0, 1) := by decide +kernel
theorem dX11_put_33 : decode cX11_put 33 = .ok (.getfield 69, 3) := by decide +kernel
theorem dX11_put_36 : decode cX11_put 36 = .ok (.iload_n 1, 1) := by decide +kernel
theorem dX11_put_37 : decode cX11_put 37 = .ok (.aaload, 1) := by decide +kernel
theorem dX11_put_38 : decode cX11_put 38 = .ok (.iload_n 2, 1) := by decide +kernel
theorem dX11_put_39 : decode cX11_put 39 = .ok (.invokevirtual 398, 3) := by decide +kernel
theorem dX11_put_42 : decode cX11_put 42 = .ok (.ifCond .ne 9, 3) := by decide +kernel
theorem dX11_put_45 : decode cX11_put 45 = .ok (.aload_n 0, 1) := by decide +kernel
theorem dX11_put_46 : decode cX11_put 46 = .ok (.iconst 3, 1) := by decide +kernel
theorem dX11_put_47 : decode cX11_put 47 = .ok (.invokevirtual 236, 3) := by decide +kernel
theorem dX11_put_50 : decode cX11_put 50 = .ok (.ireturn, 1) := by decide +kernel
theorem dX11_put_51 : decode cX11_put 51 = .ok (.aload_n 0, 1) := by decide +kernel
theorem dX11_put_52 : decode cX11_put 52 = .ok (.getfield 69, 3) := by decide +kernel
theorem dX11_put_55 : decode cX11_put 55 = .ok (.iload_n 1, 1) := by decide +kernel
theorem dX11_put_56 : decode cX11_put 56 = .ok (.aaload, 1) := by decide +kernel
theorem dX11_put_57 : decode cX11_put 57 = .ok (.iload_n 2, 1) := by decide +kernel
theorem dX11_put_58 : decode cX11_put 58 = .ok (.iload_n 3, 1) := by decide +kernel
theorem dX11_put_59 : decode cX11_put 59 = .ok (.invokevirtual 401, 3) := by decide +kernel
theorem dX11_put_62 : decode cX11_put 62 = .ok (.iconst 1, 1) := by decide +kernel
theorem dX11_put_63 : decode cX11_put 63 = .ok (.ireturn, 1) := by decide +kernel
theorem dX11_at_0 : decode cX11_at 0 = .ok (.aload_n 0, 1) := by decide +kernel
theorem dX11_at_1 : decode cX11_at 1 = .ok (.iconst 0, 1) := by decide +kernel
theorem dX11_at_2 : decode cX11_at 2 = .ok (.putfield 78, 3) := by decide +kernel
theorem dX11_at_5 : decode cX11_at 5 = .ok (.iload_n 1, 1) := by decide +kernel
theorem dX11_at_6 : decode cX11_at 6 = .ok (.invokestatic 221, 3) := by decide +kernel
theorem dX11_at_9 : decode cX11_at 9 = .ok (.ifCond .eq 10, 3) := by decide +kernel
theorem dX11_at_12 : decode cX11_at 12 = .ok (.iload_n 3, 1) := by decide +kernel
theorem dX11_at_13 : decode cX11_at 13 = .ok (.invokestatic 224, 3) := by decide +kernel
theorem dX11_at_16 : decode cX11_at 16 = .ok (.ifCond .ne 7, 3) := by decide +kernel
theorem dX11_at_19 : decode cX11_at 19 = .ok (.ldc2_w 404, 3) := by decide +kernel
theorem dX11_at_22 : decode cX11_at 22 = .ok (.lreturn, 1) := by decide +kernel
theorem dX11_at_23 : decode cX11_at 23 = .ok (.aload_n 0, 1) := by decide +kernel
theorem dX11_at_24 : decode cX11_at 24 = .ok (.aload_n 0, 1) := by decide +kernel
theorem dX11_at_25 : decode cX11_at 25 = .ok (.getfield 69, 3) := by decide +kernel
theorem dX11_at_28 : decode cX11_at 28 = .ok (.iload_n 1, 1) := by decide +kernel
theorem dX11_at_29 : decode cX11_at 29 = .ok (.aaload, 1) := by decide +kernel
theorem dX11_at_30 : decode cX11_at 30 = .ok (.iload_n 3, 1) := by decide +kernel
theorem dX11_at_31 : decode cX11_at 31 = .ok (.invokevirtual 227, 3) := by decide +kernel
theorem dX11_at_34 : decode cX11_at 34 = .ok (.putfield 78, 3) := by decide +kernel
theorem dX11_at_37 : decode cX11_at 37 = .ok (.aload_n 0, 1) := by decide +kernel
theorem dX11_at_38 : decode cX11_at 38 = .ok (.getfield 78, 3) := by decide +kernel
theorem dX11_at_41 : decode cX11_at 41 = .ok (.ifCond .ne 21, 3) := by decide +kernel
theorem dX11_at_44 : decode cX11_at 44 = .ok (.aload_n 0, 1) := by decide +kernel
theorem dX11_at_45 : decode cX11_at 45 = .ok (.getfield 69, 3) := by decide +kernel
theorem dX11_at_48 : decode cX11_at 48 = .ok (.iload_n 1, 1) := by decide +kernel
theorem dX11_at_49 : decode cX11_at 49 = .ok (.aaload, 1) := by decide +kernel
theorem dX11_at_50 : decode cX11_at 50 = .ok (.iload_n 2, 1) := by decide +kernel
theorem dX11_at_51 : decode cX11_at 51 = .ok (.invokevirtual 398, 3) := by decide +kernel
theorem dX11_at_54 : decode cX11_at 54 = .ok (.ifCond .ne 8, 3) := by decide +kernel
theorem dX11_at_57 : decode cX11_at 57 = .ok (.aload_n 0, 1) := by decide +kernel
theorem dX11_at_58 : decode cX11_at 58 = .ok (.iconst 3, 1) := by decide +kernel
theorem dX11_at_59 : decode cX11_at 59 = .ok (.putfield 78, 3) := by decide +kernel
theorem dX11_at_62 : decode cX11_at 62 = .ok (.aload_n 0, 1) := by decide +kernel
theorem dX11_at_63 : decode cX11_at 63 = .ok (.getfield 78, 3) := by decide +kernel
theorem dX11_at_66 : decode cX11_at 66 = .ok (.ifCond .ne 18, 3) := by decide +kernel
theorem dX11_at_69 : decode cX11_at 69 = .ok (.aload_n 0, 1) := by decide +kernel
theorem dX11_at_70 : decode cX11_at 70 = .ok (.getfield 69, 3) := by decide +kernel
theorem dX11_at_73 : decode cX11_at 73 = .ok (.iload_n 1, 1) := by decide +kernel
theorem dX11_at_74 : decode cX11_at 74 = .ok (.aaload, 1) := by decide +kernel
theorem dX11_at_75 : decode cX11_at 75 = .ok (.getfield 406, 3) := by decide +kernel
theorem dX11_at_78 : decode cX11_at 78 = .ok (.iload_n 2, 1) := by decide +kernel
theorem dX11_at_79 : decode cX11_at 79 = .ok (.iaload, 1) := by decide +kernel
theorem dX11_at_80 : decode cX11_at 80 = .ok (.i2l, 1) := by decide +kernel
theorem dX11_at_81 : decode cX11_at 81 = .ok (.goto 6, 3) := by decide +kernel
theorem dX11_at_84 : decode cX11_at 84 = .ok (.ldc2_w 404, 3) := by decide +kernel
theorem dX11_at_87 : decode cX11_at 87 = .ok (.lreturn, 1) := by decide +kernel
theorem dX11_tell_0 : decode cX11_tell 0 = .ok (.aload_n 0, 1) := by decide +kernel
theorem dX11_tell_1 : decode cX11_tell 1 = .ok (.getfield 21, 3) := by decide +kernel
theorem dX11_tell_4 : decode cX11_tell 4 = .ok (.iload_n 1, 1) := by decide +kernel
theorem dX11_tell_5 : decode cX11_tell 5 = .ok (.invokevirtual 119, 3) := by decide +kernel
theorem dX11_tell_8 : decode cX11_tell 8 = .ok (.ifCond .ne 5, 3) := by decide +kernel
theorem dX11_tell_11 : decode cX11_tell 11 = .ok (.iconst (-1), 1) := by decide +kernel
theorem dX11_tell_12 : decode cX11_tell 12 = .ok (.ireturn, 1) := by decide +kernel
theorem dX11_tell_13 : decode cX11_tell 13 = .ok (.aload_n 0, 1) := by decide +kernel
theorem dX11_tell_14 : decode cX11_tell 14 = .ok (.getfield 21, 3) := by decide +kernel
theorem dX11_tell_17 : decode cX11_tell 17 = .ok (.getfield 123, 3) := by decide +kernel
theorem dX11_tell_20 : decode cX11_tell 20 = .ok (.iload_n 1, 1) := by decide +kernel
theorem dX11_tell_21 : decode cX11_tell 21 = .ok (.aaload, 1) := by decide +kernel
theorem dX11_tell_22 : decode cX11_tell 22 = .ok (.astore_n 2, 1) := by decide +kernel
theorem dX11_tell_23 : decode cX11_tell 23 = .ok (.aload_n 2, 1) := by decide +kernel
theorem dX11_tell_24 : decode cX11_tell 24 = .ok (.invokevirtual 147, 3) := by decide +kernel
theorem dX11_tell_27 : decode cX11_tell 27 = .ok (.lookupswitch 37 #[(1, 31), (2, 25)], 25) := by decide +kernel
theorem dX11_tell_52 : decode cX11_tell 52 = .ok (.aload_n 0, 1) := by decide +kernel
theorem dX11_tell_53 : decode cX11_tell 53 = .ok (.aload_n 2, 1) := by decide +kernel
theorem dX11_tell_54 : decode cX11_tell 54 = .ok (.invokevirtual 409, 3) := by decide +kernel
theorem dX11_tell_57 : decode cX11_tell 57 = .ok (.ireturn, 1) := by decide +kernel
theorem dX11_tell_58 : decode cX11_tell 58 = .ok (.aload_n 0, 1) := by decide +kernel
theorem dX11_tell_59 : decode cX11_tell 59 = .ok (.aload_n 2, 1) := by decide +kernel
theorem dX11_tell_60 : decode cX11_tell 60 = .ok (.invokevirtual 413, 3) := by decide +kernel
theorem dX11_tell_63 : decode cX11_tell 63 = .ok (.ireturn, 1) := by decide +kernel
theorem dX11_tell_64 : decode cX11_tell 64 = .ok (.aload_n 0, 1) := by decide +kernel
theorem dX11_tell_65 : decode cX11_tell 65 = .ok (.aload_n 2, 1) := by decide +kernel
theorem dX11_tell_66 : decode cX11_tell 66 = .ok (.invokevirtual 416, 3) := by decide +kernel
theorem dX11_tell_69 : decode cX11_tell 69 = .ok (.ireturn, 1) := by decide +kernel
theorem dX11_name_0 : decode cX11_name 0 = .ok (.aload_n 0, 1) := by decide +kernel
theorem dX11_name_1 : decode cX11_name 1 = .ok (.getfield 21, 3) := by decide +kernel
theorem dX11_name_4 : decode cX11_name 4 = .ok (.iload_n 1, 1) := by decide +kernel
theorem dX11_name_5 : decode cX11_name 5 = .ok (.invokevirtual 119, 3) := by decide +kernel
theorem dX11_name_8 : decode cX11_name 8 = .ok (.ifCond .ne 5, 3) := by decide +kernel
theorem dX11_name_11 : decode cX11_name 11 = .ok (.iconst (-1), 1) := by decide +kernel
theorem dX11_name_12 : decode cX11_name 12 = .ok (.ireturn, 1) := by decide +kernel
theorem dX11_name_13 : decode cX11_name 13 = .ok (.aload_n 0, 1) := by decide +kernel
theorem dX11_name_14 : decode cX11_name 14 = .ok (.getfield 21, 3) := by decide +kernel
theorem dX11_name_17 : decode cX11_name 17 = .ok (.getfield 123, 3) := by decide +kernel
theorem dX11_name_20 : decode cX11_name 20 = .ok (.iload_n 1, 1) := by decide +kernel
theorem dX11_name_21 : decode cX11_name 21 = .ok (.aaload, 1) := by decide +kernel
theorem dX11_name_22 : decode cX11_name 22 = .ok (.invokevirtual 147, 3) := by decide +kernel
theorem dX11_name_25 : decode cX11_name 25 = .ok (.iconst 2, 1) := by decide +kernel
theorem dX11_name_26 : decode cX11_name 26 = .ok (.if_icmp .ne 11, 3) := by decide +kernel
theorem dX11_name_29 : decode cX11_name 29 = .ok (.aload_n 0, 1) := by decide +kernel
theorem dX11_name_30 : decode cX11_name 30 = .ok (.iconst 5, 1) := by decide +kernel
theorem dX11_name_31 : decode cX11_name 31 = .ok (.invokevirtual 419, 3) := by decide +kernel
theorem dX11_name_34 : decode cX11_name 34 = .ok (.bipush 77, 2) := by decide +kernel
theorem dX11_name_36 : decode cX11_name 36 = .ok (.ireturn, 1) := by decide +kernel
theorem dX11_name_37 : decode cX11_name 37 = .ok (.aload_n 0, 1) := by decide +kernel
theorem dX11_name_38 : decode cX11_name 38 = .ok (.iconst 4, 1) := by decide +kernel
theorem dX11_name_39 : decode cX11_name 39 = .ok (.invokevirtual 419, 3) := by decide +kernel
theorem dX11_name_42 : decode cX11_name 42 = .ok (.iload_n 1, 1) := by decide +kernel
theorem dX11_name_43 : decode cX11_name 43 = .ok (.bipush 10, 2) := by decide +kernel
theorem dX11_name_45 : decode cX11_name 45 = .ok (.iadd, 1) := by decide +kernel
theorem dX11_name_46 : decode cX11_name 46 = .ok (.ireturn, 1) := by decide +kernel
theorem dX11_as_0 : decode cX11_as 0 = .ok (.aload_n 0, 1) := by decide +kernel
theorem dX11_as_1 : decode cX11_as 1 = .ok (.iconst 0, 1) := by decide +kernel
theorem dX11_as_2 : decode cX11_as 2 = .ok (.putfield 78, 3) := by decide +kernel
theorem dX11_as_5 : decode cX11_as 5 = .ok (.aload_n 0, 1) := by decide +kernel
theorem dX11_as_6 : decode cX11_as 6 = .ok (.getfield 21, 3) := by decide +kernel
theorem dX11_as_9 : decode cX11_as 9 = .ok (.iload_n 1, 1) := by decide +kernel
theorem dX11_as_10 : decode cX11_as 10 = .ok (.invokevirtual 119, 3) := by decide +kernel
theorem dX11_as_13 : decode cX11_as 13 = .ok (.ifCond .ne 5, 3) := by decide +kernel
theorem dX11_as_16 : decode cX11_as 16 = .ok (.iconst (-1), 1) := by decide +kernel
theorem dX11_as_17 : decode cX11_as 17 = .ok (.ireturn, 1) := by decide +kernel
theorem dX11_as_18 : decode cX11_as 18 = .ok (.iload_n 2, 1) := by decide +kernel
theorem dX11_as_19 : decode cX11_as 19 = .ok (.ifCond .lt 8, 3) := by decide +kernel
theorem dX11_as_22 : decode cX11_as 22 = .ok (.iload_n 2, 1) := by decide +kernel
theorem dX11_as_23 : decode cX11_as 23 = .ok (.iconst 2, 1) := by decide +kernel
theorem dX11_as_24 : decode cX11_as 24 = .ok (.if_icmp .le 6, 3) := by decide +kernel
theorem dX11_as_27 : decode cX11_as 27 = .ok (.bipush (-2), 2) := by decide +kernel
theorem dX11_as_29 : decode cX11_as 29 = .ok (.ireturn, 1) := by decide +kernel
theorem dX11_as_30 : decode cX11_as 30 = .ok (.aload_n 0, 1) := by decide +kernel
theorem dX11_as_31 : decode cX11_as 31 = .ok (.getfield 21, 3) := by decide +kernel
theorem dX11_as_34 : decode cX11_as 34 = .ok (.getfield 123, 3) := by decide +kernel
theorem dX11_as_37 : decode cX11_as 37 = .ok (.iload_n 1, 1) := by decide +kernel
theorem dX11_as_38 : decode cX11_as 38 = .ok (.aaload, 1) := by decide +kernel
theorem dX11_as_39 : decode cX11_as 39 = .ok (.invokevirtual 147, 3) := by decide +kernel
theorem dX11_as_42 : decode cX11_as 42 = .ok (.iload_n 2, 1) := by decide +kernel
theorem dX11_as_43 : decode cX11_as 43 = .ok (.if_icmp .ge 11, 3) := by decide +kernel
theorem dX11_as_46 : decode cX11_as 46 = .ok (.aload_n 0, 1) := by decide +kernel
theorem dX11_as_47 : decode cX11_as 47 = .ok (.iconst 2, 1) := by decide +kernel
theorem dX11_as_48 : decode cX11_as 48 = .ok (.invokevirtual 236, 3) := by decide +kernel
theorem dX11_as_51 : decode cX11_as 51 = .ok (.goto 4, 3) := by decide +kernel
theorem dX11_as_54 : decode cX11_as 54 = .ok (.iconst 1, 1) := by decide +kernel
theorem dX11_as_55 : decode cX11_as 55 = .ok (.ireturn, 1) := by decide +kernel
theorem dX11_trace_0 : decode cX11_trace 0 = .ok (.aload_n 0, 1) := by decide +kernel
theorem dX11_trace_1 : decode cX11_trace 1 = .ok (.getfield 74, 3) := by decide +kernel
theorem dX11_trace_4 : decode cX11_trace 4 = .ok (.ireturn, 1) := by decide +kernel
theorem dX11_fault_0 : decode cX11_fault 0 = .ok (.aload_n 0, 1) := by decide +kernel
theorem dX11_fault_1 : decode cX11_fault 1 = .ok (.getfield 78, 3) := by decide +kernel
theorem dX11_fault_4 : decode cX11_fault 4 = .ok (.ireturn, 1) := by decide +kernel
theorem dX11_told_0 : decode cX11_told 0 = .ok (.iload_n 1, 1) := by decide +kernel
theorem dX11_told_1 : decode cX11_told 1 = .ok (.tableswitch 112 0 6 #[43, 51, 62, 70, 78, 86, 94], 43) := by decide +kernel
theorem dX11_told_44 : decode cX11_told 44 = .ok (.aload_n 0, 1) := by decide +kernel
theorem dX11_told_45 : decode cX11_told 45 = .ok (.getfield 14, 3) := by decide +kernel
theorem dX11_told_48 : decode cX11_told 48 = .ok (.getfield 354, 3) := by decide +kernel
theorem dX11_told_51 : decode cX11_told 51 = .ok (.ireturn, 1) := by decide +kernel
theorem dX11_told_52 : decode cX11_told 52 = .ok (.aload_n 0, 1) := by decide +kernel
theorem dX11_told_53 : decode cX11_told 53 = .ok (.getfield 14, 3) := by decide +kernel
theorem dX11_told_56 : decode cX11_told 56 = .ok (.getfield 423, 3) := by decide +kernel
theorem dX11_told_59 : decode cX11_told 59 = .ok (.invokestatic 158, 3) := by decide +kernel
theorem dX11_told_62 : decode cX11_told 62 = .ok (.ireturn, 1) := by decide +kernel
theorem dX11_told_63 : decode cX11_told 63 = .ok (.aload_n 0, 1) := by decide +kernel
theorem dX11_told_64 : decode cX11_told 64 = .ok (.getfield 21, 3) := by decide +kernel
theorem dX11_told_67 : decode cX11_told 67 = .ok (.getfield 329, 3) := by decide +kernel
theorem dX11_told_70 : decode cX11_told 70 = .ok (.ireturn, 1) := by decide +kernel
theorem dX11_told_71 : decode cX11_told 71 = .ok (.aload_n 0, 1) := by decide +kernel
theorem dX11_told_72 : decode cX11_told 72 = .ok (.getfield 35, 3) := by decide +kernel
theorem dX11_told_75 : decode cX11_told 75 = .ok (.getfield 426, 3) := by decide +kernel
theorem dX11_told_78 : decode cX11_told 78 = .ok (.ireturn, 1) := by decide +kernel
theorem dX11_told_79 : decode cX11_told 79 = .ok (.aload_n 0, 1) := by decide +kernel
theorem dX11_told_80 : decode cX11_told 80 = .ok (.getfield 42, 3) := by decide +kernel
theorem dX11_told_83 : decode cX11_told 83 = .ok (.getfield 320, 3) := by decide +kernel
theorem dX11_told_86 : decode cX11_told 86 = .ok (.ireturn, 1) := by decide +kernel
theorem dX11_told_87 : decode cX11_told 87 = .ok (.aload_n 0, 1) := by decide +kernel
theorem dX11_told_88 : decode cX11_told 88 = .ok (.getfield 63, 3) := by decide +kernel
theorem dX11_told_91 : decode cX11_told 91 = .ok (.getfield 379, 3) := by decide +kernel
theorem dX11_told_94 : decode cX11_told 94 = .ok (.ireturn, 1) := by decide +kernel
theorem dX11_told_95 : decode cX11_told 95 = .ok (.aload_n 0, 1) := by decide +kernel
theorem dX11_told_96 : decode cX11_told 96 = .ok (.getfield 14, 3) := by decide +kernel
theorem dX11_told_99 : decode cX11_told 99 = .ok (.aload_n 0, 1) := by decide +kernel
theorem dX11_told_100 : decode cX11_told 100 = .ok (.getfield 14, 3) := by decide +kernel
theorem dX11_told_103 : decode cX11_told 103 = .ok (.invokevirtual 192, 3) := by decide +kernel
theorem dX11_told_106 : decode cX11_told 106 = .ok (.invokevirtual 171, 3) := by decide +kernel
theorem dX11_told_109 : decode cX11_told 109 = .ok (.invokestatic 204, 3) := by decide +kernel
theorem dX11_told_112 : decode cX11_told 112 = .ok (.ireturn, 1) := by decide +kernel
theorem dX11_told_113 : decode cX11_told 113 = .ok (.bipush (-2), 2) := by decide +kernel
theorem dX11_told_115 : decode cX11_told 115 = .ok (.ireturn, 1) := by decide +kernel
theorem dX11_isTone_0 : decode cX11_isTone 0 = .ok (.iload_n 0, 1) := by decide +kernel
theorem dX11_isTone_1 : decode cX11_isTone 1 = .ok (.ifCond .lt 13, 3) := by decide +kernel
theorem dX11_isTone_4 : decode cX11_isTone 4 = .ok (.iload_n 0, 1) := by decide +kernel
theorem dX11_isTone_5 : decode cX11_isTone 5 = .ok (.bipush 61, 2) := by decide +kernel
theorem dX11_isTone_7 : decode cX11_isTone 7 = .ok (.if_icmp .ge 7, 3) := by decide +kernel
theorem dX11_isTone_10 : decode cX11_isTone 10 = .ok (.iconst 1, 1) := by decide +kernel
theorem dX11_isTone_11 : decode cX11_isTone 11 = .ok (.goto 4, 3) := by decide +kernel
theorem dX11_isTone_14 : decode cX11_isTone 14 = .ok (.iconst 0, 1) := by decide +kernel
theorem dX11_isTone_15 : decode cX11_isTone 15 = .ok (.ireturn, 1) := by decide +kernel
theorem dX11_isChord_0 : decode cX11_isChord 0 = .ok (.iload_n 0, 1) := by decide +kernel
theorem dX11_isChord_1 : decode cX11_isChord 1 = .ok (.ifCond .lt 13, 3) := by decide +kernel
theorem dX11_isChord_4 : decode cX11_isChord 4 = .ok (.iload_n 0, 1) := by decide +kernel
theorem dX11_isChord_5 : decode cX11_isChord 5 = .ok (.bipush 96, 2) := by decide +kernel
theorem dX11_isChord_7 : decode cX11_isChord 7 = .ok (.if_icmp .ge 7, 3) := by decide +kernel
theorem dX11_isChord_10 : decode cX11_isChord 10 = .ok (.iconst 1, 1) := by decide +kernel
theorem dX11_isChord_11 : decode cX11_isChord 11 = .ok (.goto 4, 3) := by decide +kernel
theorem dX11_isChord_14 : decode cX11_isChord 14 = .ok (.iconst 0, 1) := by decide +kernel
theorem dX11_isChord_15 : decode cX11_isChord 15 = .ok (.ireturn, 1) := by decide +kernel
theorem dX11_isSheet_0 : decode cX11_isSheet 0 = .ok (.iload_n 0, 1) := by decide +kernel
theorem dX11_isSheet_1 : decode cX11_isSheet 1 = .ok (.ifCond .lt 12, 3) := by decide +kernel
theorem dX11_isSheet_4 : decode cX11_isSheet 4 = .ok (.iload_n 0, 1) := by decide +kernel
theorem dX11_isSheet_5 : decode cX11_isSheet 5 = .ok (.iconst 4, 1) := by decide +kernel
theorem dX11_isSheet_6 : decode cX11_isSheet 6 = .ok (.if_icmp .ge 7, 3) := by decide +kernel
theorem dX11_isSheet_9 : decode cX11_isSheet 9 = .ok (.iconst 1, 1) := by decide +kernel
theorem dX11_isSheet_10 : decode cX11_isSheet 10 = .ok (.goto 4, 3) := by decide +kernel
theorem dX11_isSheet_13 : decode cX11_isSheet 13 = .ok (.iconst 0, 1) := by decide +kernel
theorem dX11_isSheet_14 : decode cX11_isSheet 14 = .ok (.ireturn, 1) := by decide +kernel
theorem dX11_isLane_0 : decode cX11_isLane 0 = .ok (.iload_n 0, 1) := by decide +kernel
theorem dX11_isLane_1 : decode cX11_isLane 1 = .ok (.ifCond .lt 12, 3) := by decide +kernel
theorem dX11_isLane_4 : decode cX11_isLane 4 = .ok (.iload_n 0, 1) := by decide +kernel
theorem dX11_isLane_5 : decode cX11_isLane 5 = .ok (.iconst 3, 1) := by decide +kernel
theorem dX11_isLane_6 : decode cX11_isLane 6 = .ok (.if_icmp .ge 7, 3) := by decide +kernel
theorem dX11_isLane_9 : decode cX11_isLane 9 = .ok (.iconst 1, 1) := by decide +kernel
theorem dX11_isLane_10 : decode cX11_isLane 10 = .ok (.goto 4, 3) := by decide +kernel
theorem dX11_isLane_13 : decode cX11_isLane 13 = .ok (.iconst 0, 1) := by decide +kernel
theorem dX11_isLane_14 : decode cX11_isLane 14 = .ok (.ireturn, 1) := by decide +kernel
theorem dX11_isShift_0 : decode cX11_isShift 0 = .ok (.iload_n 0, 1) := by decide +kernel
theorem dX11_isShift_1 : decode cX11_isShift 1 = .ok (.bipush (-2), 2) := by decide +kernel
theorem dX11_isShift_3 : decode cX11_isShift 3 = .ok (.if_icmp .lt 16, 3) := by decide +kernel
theorem dX11_isShift_6 : decode cX11_isShift 6 = .ok (.iload_n 0, 1) := by decide +kernel
theorem dX11_isShift_7 : decode cX11_isShift 7 = .ok (.iconst 2, 1) := by decide +kernel
theorem dX11_isShift_8 : decode cX11_isShift 8 = .ok (.if_icmp .gt 11, 3) := by decide +kernel
theorem dX11_isShift_11 : decode cX11_isShift 11 = .ok (.iload_n 0, 1) := by decide +kernel
theorem dX11_isShift_12 : decode cX11_isShift 12 = .ok (.ifCond .eq 7, 3) := by decide +kernel
theorem dX11_isShift_15 : decode cX11_isShift 15 = .ok (.iconst 1, 1) := by decide +kernel
theorem dX11_isShift_16 : decode cX11_isShift 16 = .ok (.goto 4, 3) := by decide +kernel
theorem dX11_isShift_19 : decode cX11_isShift 19 = .ok (.iconst 0, 1) := by decide +kernel
theorem dX11_isShift_20 : decode cX11_isShift 20 = .ok (.ireturn, 1) := by decide +kernel
theorem dX11_hasBit_0 : decode cX11_hasBit 0 = .ok (.lload_n 0, 1) := by decide +kernel
theorem dX11_hasBit_1 : decode cX11_hasBit 1 = .ok (.iload_n 2, 1) := by decide +kernel
theorem dX11_hasBit_2 : decode cX11_hasBit 2 = .ok (.lushr, 1) := by decide +kernel
theorem dX11_hasBit_3 : decode cX11_hasBit 3 = .ok (.lconst 1, 1) := by decide +kernel
theorem dX11_hasBit_4 : decode cX11_hasBit 4 = .ok (.land, 1) := by decide +kernel
theorem dX11_hasBit_5 : decode cX11_hasBit 5 = .ok (.lconst 0, 1) := by decide +kernel
theorem dX11_hasBit_6 : decode cX11_hasBit 6 = .ok (.lcmp, 1) := by decide +kernel
theorem dX11_hasBit_7 : decode cX11_hasBit 7 = .ok (.ifCond .eq 7, 3) := by decide +kernel
theorem dX11_hasBit_10 : decode cX11_hasBit 10 = .ok (.iconst 1, 1) := by decide +kernel
theorem dX11_hasBit_11 : decode cX11_hasBit 11 = .ok (.goto 4, 3) := by decide +kernel
theorem dX11_hasBit_14 : decode cX11_hasBit 14 = .ok (.iconst 0, 1) := by decide +kernel
theorem dX11_hasBit_15 : decode cX11_hasBit 15 = .ok (.ireturn, 1) := by decide +kernel
theorem dX11_asNumber_0 : decode cX11_asNumber 0 = .ok (.iload_n 0, 1) := by decide +kernel
theorem dX11_asNumber_1 : decode cX11_asNumber 1 = .ok (.ifCond .eq 7, 3) := by decide +kernel
theorem dX11_asNumber_4 : decode cX11_asNumber 4 = .ok (.iconst 1, 1) := by decide +kernel
theorem dX11_asNumber_5 : decode cX11_asNumber 5 = .ok (.goto 4, 3) := by decide +kernel
theorem dX11_asNumber_8 : decode cX11_asNumber 8 = .ok (.iconst 0, 1) := by decide +kernel
theorem dX11_asNumber_9 : decode cX11_asNumber 9 = .ok (.ireturn, 1) := by decide +kernel
theorem dX11_classesOf_0 : decode cX11_classesOf 0 = .ok (.iload_n 0, 1) := by decide +kernel
theorem dX11_classesOf_1 : decode cX11_classesOf 1 = .ok (.invokestatic 104, 3) := by decide +kernel
theorem dX11_classesOf_4 : decode cX11_classesOf 4 = .ok (.ifCond .ne 5, 3) := by decide +kernel
theorem dX11_classesOf_7 : decode cX11_classesOf 7 = .ok (.iconst 0, 1) := by decide +kernel
theorem dX11_classesOf_8 : decode cX11_classesOf 8 = .ok (.ireturn, 1) := by decide +kernel
theorem dX11_classesOf_9 : decode cX11_classesOf 9 = .ok (.getstatic 427, 3) := by decide +kernel
theorem dX11_classesOf_12 : decode cX11_classesOf 12 = .ok (.iload_n 0, 1) := by decide +kernel
theorem dX11_classesOf_13 : decode cX11_classesOf 13 = .ok (.bipush 12, 2) := by decide +kernel
theorem dX11_classesOf_15 : decode cX11_classesOf 15 = .ok (.idiv, 1) := by decide +kernel
theorem dX11_classesOf_16 : decode cX11_classesOf 16 = .ok (.iaload, 1) := by decide +kernel
theorem dX11_classesOf_17 : decode cX11_classesOf 17 = .ok (.istore_n 1, 1) := by decide +kernel
theorem dX11_classesOf_18 : decode cX11_classesOf 18 = .ok (.iload_n 0, 1) := by decide +kernel
theorem dX11_classesOf_19 : decode cX11_classesOf 19 = .ok (.bipush 12, 2) := by decide +kernel
theorem dX11_classesOf_21 : decode cX11_classesOf 21 = .ok (.irem, 1) := by decide +kernel
theorem dX11_classesOf_22 : decode cX11_classesOf 22 = .ok (.istore_n 2, 1) := by decide +kernel
theorem dX11_classesOf_23 : decode cX11_classesOf 23 = .ok (.iload_n 1, 1) := by decide +kernel
theorem dX11_classesOf_24 : decode cX11_classesOf 24 = .ok (.iload_n 2, 1) := by decide +kernel
theorem dX11_classesOf_25 : decode cX11_classesOf 25 = .ok (.ishl, 1) := by decide +kernel
theorem dX11_classesOf_26 : decode cX11_classesOf 26 = .ok (.iload_n 1, 1) := by decide +kernel
theorem dX11_classesOf_27 : decode cX11_classesOf 27 = .ok (.bipush 12, 2) := by decide +kernel
theorem dX11_classesOf_29 : decode cX11_classesOf 29 = .ok (.iload_n 2, 1) := by decide +kernel
theorem dX11_classesOf_30 : decode cX11_classesOf 30 = .ok (.isub, 1) := by decide +kernel
theorem dX11_classesOf_31 : decode cX11_classesOf 31 = .ok (.iushr, 1) := by decide +kernel
theorem dX11_classesOf_32 : decode cX11_classesOf 32 = .ok (.ior, 1) := by decide +kernel
theorem dX11_classesOf_33 : decode cX11_classesOf 33 = .ok (.sipush 4095, 3) := by decide +kernel
theorem dX11_classesOf_36 : decode cX11_classesOf 36 = .ok (.iand, 1) := by decide +kernel
theorem dX11_classesOf_37 : decode cX11_classesOf 37 = .ok (.ireturn, 1) := by decide +kernel
theorem dX11_greatestStep_0 : decode cX11_greatestStep 0 = .ok (.iconst 0, 1) := by decide +kernel
theorem dX11_greatestStep_1 : decode cX11_greatestStep 1 = .ok (.istore_n 2, 1) := by decide +kernel
theorem dX11_greatestStep_2 : decode cX11_greatestStep 2 = .ok (.bipush (-9), 2) := by decide +kernel
theorem dX11_greatestStep_4 : decode cX11_greatestStep 4 = .ok (.istore_n 3, 1) := by decide +kernel
theorem dX11_greatestStep_5 : decode cX11_greatestStep 5 = .ok (.iconst 0, 1) := by decide +kernel
theorem dX11_greatestStep_6 : decode cX11_greatestStep 6 = .ok (.istore 4, 2) := by decide +kernel
theorem dX11_greatestStep_8 : decode cX11_greatestStep 8 = .ok (.iload 4, 2) := by decide +kernel
theorem dX11_greatestStep_10 : decode cX11_greatestStep 10 = .ok (.bipush 61, 2) := by decide +kernel
theorem dX11_greatestStep_12 : decode cX11_greatestStep 12 = .ok (.if_icmp .ge 36, 3) := by decide +kernel
theorem dX11_greatestStep_15 : decode cX11_greatestStep 15 = .ok (.lload_n 0, 1) := by decide +kernel
theorem dX11_greatestStep_16 : decode cX11_greatestStep 16 = .ok (.iload 4, 2) := by decide +kernel
theorem dX11_greatestStep_18 : decode cX11_greatestStep 18 = .ok (.invokestatic 188, 3) := by decide +kernel
theorem dX11_greatestStep_21 : decode cX11_greatestStep 21 = .ok (.ifCond .eq 21, 3) := by decide +kernel
theorem dX11_greatestStep_24 : decode cX11_greatestStep 24 = .ok (.iload_n 3, 1) := by decide +kernel
theorem dX11_greatestStep_25 : decode cX11_greatestStep 25 = .ok (.bipush (-9), 2) := by decide +kernel
theorem dX11_greatestStep_27 : decode cX11_greatestStep 27 = .ok (.if_icmp .eq 12, 3) := by decide +kernel
theorem dX11_greatestStep_30 : decode cX11_greatestStep 30 = .ok (.iload_n 2, 1) := by decide +kernel
theorem dX11_greatestStep_31 : decode cX11_greatestStep 31 = .ok (.iload 4, 2) := by decide +kernel
theorem dX11_greatestStep_33 : decode cX11_greatestStep 33 = .ok (.iload_n 3, 1) := by decide +kernel
theorem dX11_greatestStep_34 : decode cX11_greatestStep 34 = .ok (.isub, 1) := by decide +kernel
theorem dX11_greatestStep_35 : decode cX11_greatestStep 35 = .ok (.invokestatic 430, 3) := by decide +kernel
theorem dX11_greatestStep_38 : decode cX11_greatestStep 38 = .ok (.istore_n 2, 1) := by decide +kernel
theorem dX11_greatestStep_39 : decode cX11_greatestStep 39 = .ok (.iload 4, 2) := by decide +kernel
theorem dX11_greatestStep_41 : decode cX11_greatestStep 41 = .ok (.istore_n 3, 1) := by decide +kernel
theorem dX11_greatestStep_42 : decode cX11_greatestStep 42 = .ok (.iinc 4 1, 3) := by decide +kernel
theorem dX11_greatestStep_45 : decode cX11_greatestStep 45 = .ok (.goto (-37), 3) := by decide +kernel
theorem dX11_greatestStep_48 : decode cX11_greatestStep 48 = .ok (.iload_n 2, 1) := by decide +kernel
theorem dX11_greatestStep_49 : decode cX11_greatestStep 49 = .ok (.ireturn, 1) := by decide +kernel
theorem dX11_hasSong_0 : decode cX11_hasSong 0 = .ok (.iconst 0, 1) := by decide +kernel
theorem dX11_hasSong_1 : decode cX11_hasSong 1 = .ok (.istore_n 3, 1) := by decide +kernel
theorem dX11_hasSong_2 : decode cX11_hasSong 2 = .ok (.iload_n 3, 1) := by decide +kernel
theorem dX11_hasSong_3 : decode cX11_hasSong 3 = .ok (.iload_n 2, 1) := by decide +kernel
theorem dX11_hasSong_4 : decode cX11_hasSong 4 = .ok (.if_icmp .ge 55, 3) := by decide +kernel
theorem dX11_hasSong_7 : decode cX11_hasSong 7 = .ok (.aload_n 0, 1) := by decide +kernel
theorem dX11_hasSong_8 : decode cX11_hasSong 8 = .ok (.getfield 406, 3) := by decide +kernel
theorem dX11_hasSong_11 : decode cX11_hasSong 11 = .ok (.iload_n 1, 1) := by decide +kernel
theorem dX11_hasSong_12 : decode cX11_hasSong 12 = .ok (.iconst 2, 1) := by decide +kernel
theorem dX11_hasSong_13 : decode cX11_hasSong 13 = .ok (.iload_n 3, 1) := by decide +kernel
theorem dX11_hasSong_14 : decode cX11_hasSong 14 = .ok (.imul, 1) := by decide +kernel
theorem dX11_hasSong_15 : decode cX11_hasSong 15 = .ok (.iadd, 1) := by decide +kernel
theorem dX11_hasSong_16 : decode cX11_hasSong 16 = .ok (.iconst 1, 1) := by decide +kernel
theorem dX11_hasSong_17 : decode cX11_hasSong 17 = .ok (.iadd, 1) := by decide +kernel
theorem dX11_hasSong_18 : decode cX11_hasSong 18 = .ok (.iaload, 1) := by decide +kernel
theorem dX11_hasSong_19 : decode cX11_hasSong 19 = .ok (.istore 4, 2) := by decide +kernel
theorem dX11_hasSong_21 : decode cX11_hasSong 21 = .ok (.aload_n 0, 1) := by decide +kernel
theorem dX11_hasSong_22 : decode cX11_hasSong 22 = .ok (.getfield 406, 3) := by decide +kernel
theorem dX11_hasSong_25 : decode cX11_hasSong 25 = .ok (.iload_n 1, 1) := by decide +kernel
theorem dX11_hasSong_26 : decode cX11_hasSong 26 = .ok (.iconst 2, 1) := by decide +kernel
theorem dX11_hasSong_27 : decode cX11_hasSong 27 = .ok (.iload_n 3, 1) := by decide +kernel
theorem dX11_hasSong_28 : decode cX11_hasSong 28 = .ok (.imul, 1) := by decide +kernel
theorem dX11_hasSong_29 : decode cX11_hasSong 29 = .ok (.iadd, 1) := by decide +kernel
theorem dX11_hasSong_30 : decode cX11_hasSong 30 = .ok (.iaload, 1) := by decide +kernel
theorem dX11_hasSong_31 : decode cX11_hasSong 31 = .ok (.invokestatic 104, 3) := by decide +kernel
theorem dX11_hasSong_34 : decode cX11_hasSong 34 = .ok (.ifCond .eq 17, 3) := by decide +kernel
theorem dX11_hasSong_37 : decode cX11_hasSong 37 = .ok (.iload 4, 2) := by decide +kernel
theorem dX11_hasSong_39 : decode cX11_hasSong 39 = .ok (.iconst (-1), 1) := by decide +kernel
theorem dX11_hasSong_40 : decode cX11_hasSong 40 = .ok (.if_icmp .eq 13, 3) := by decide +kernel
theorem dX11_hasSong_43 : decode cX11_hasSong 43 = .ok (.iload 4, 2) := by decide +kernel
theorem dX11_hasSong_45 : decode cX11_hasSong 45 = .ok (.invokestatic 81, 3) := by decide +kernel
theorem dX11_hasSong_48 : decode cX11_hasSong 48 = .ok (.ifCond .ne 5, 3) := by decide +kernel
theorem dX11_hasSong_51 : decode cX11_hasSong 51 = .ok (.iconst 0, 1) := by decide +kernel
theorem dX11_hasSong_52 : decode cX11_hasSong 52 = .ok (.ireturn, 1) := by decide +kernel
theorem dX11_hasSong_53 : decode cX11_hasSong 53 = .ok (.iinc 3 1, 3) := by decide +kernel
theorem dX11_hasSong_56 : decode cX11_hasSong 56 = .ok (.goto (-54), 3) := by decide +kernel
theorem dX11_hasSong_59 : decode cX11_hasSong 59 = .ok (.iconst 1, 1) := by decide +kernel
theorem dX11_hasSong_60 : decode cX11_hasSong 60 = .ok (.ireturn, 1) := by decide +kernel
theorem dX11_hasHearing_0 : decode cX11_hasHearing 0 = .ok (.iconst 0, 1) := by decide +kernel
theorem dX11_hasHearing_1 : decode cX11_hasHearing 1 = .ok (.istore_n 3, 1) := by decide +kernel
theorem dX11_hasHearing_2 : decode cX11_hasHearing 2 = .ok (.iload_n 3, 1) := by decide +kernel
theorem dX11_hasHearing_3 : decode cX11_hasHearing 3 = .ok (.iload_n 2, 1) := by decide +kernel
theorem dX11_hasHearing_4 : decode cX11_hasHearing 4 = .ok (.if_icmp .ge 32, 3) := by decide +kernel
theorem dX11_hasHearing_7 : decode cX11_hasHearing 7 = .ok (.aload_n 0, 1) := by decide +kernel
theorem dX11_hasHearing_8 : decode cX11_hasHearing 8 = .ok (.getfield 406, 3) := by decide +kernel
theorem dX11_hasHearing_11 : decode cX11_hasHearing 11 = .ok (.iload_n 1, 1) := by decide +kernel
theorem dX11_hasHearing_12 : decode cX11_hasHearing 12 = .ok (.iload_n 3, 1) := by decide +kernel
theorem dX11_hasHearing_13 : decode cX11_hasHearing 13 = .ok (.iadd, 1) := by decide +kernel
theorem dX11_hasHearing_14 : decode cX11_hasHearing 14 = .ok (.iaload, 1) := by decide +kernel
theorem dX11_hasHearing_15 : decode cX11_hasHearing 15 = .ok (.istore 4, 2) := by decide +kernel
theorem dX11_hasHearing_17 : decode cX11_hasHearing 17 = .ok (.iload 4, 2) := by decide +kernel
theorem dX11_hasHearing_19 : decode cX11_hasHearing 19 = .ok (.ifCond .lt 9, 3) := by decide +kernel
theorem dX11_hasHearing_22 : decode cX11_hasHearing 22 = .ok (.iload 4, 2) := by decide +kernel
theorem dX11_hasHearing_24 : decode cX11_hasHearing 24 = .ok (.iconst 2, 1) := by decide +kernel
theorem dX11_hasHearing_25 : decode cX11_hasHearing 25 = .ok (.if_icmp .le 5, 3) := by decide +kernel
theorem dX11_hasHearing_28 : decode cX11_hasHearing 28 = .ok (.iconst 0, 1) := by decide +kernel
theorem dX11_hasHearing_29 : decode cX11_hasHearing 29 = .ok (.ireturn, 1) := by decide +kernel
theorem dX11_hasHearing_30 : decode cX11_hasHearing 30 = .ok (.iinc 3 1, 3) := by decide +kernel
theorem dX11_hasHearing_33 : decode cX11_hasHearing 33 = .ok (.goto (-31), 3) := by decide +kernel
theorem dX11_hasHearing_36 : decode cX11_hasHearing 36 = .ok (.iconst 1, 1) := by decide +kernel
theorem dX11_hasHearing_37 : decode cX11_hasHearing 37 = .ok (.ireturn, 1) := by decide +kernel
theorem dX11_hasFelt_0 : decode cX11_hasFelt 0 = .ok (.aload_n 0, 1) := by decide +kernel
theorem dX11_hasFelt_1 : decode cX11_hasFelt 1 = .ok (.getfield 21, 3) := by decide +kernel
theorem dX11_hasFelt_4 : decode cX11_hasFelt 4 = .ok (.iload_n 1, 1) := by decide +kernel
theorem dX11_hasFelt_5 : decode cX11_hasFelt 5 = .ok (.invokevirtual 119, 3) := by decide +kernel
theorem dX11_hasFelt_8 : decode cX11_hasFelt 8 = .ok (.ifCond .eq 34, 3) := by decide +kernel
theorem dX11_hasFelt_11 : decode cX11_hasFelt 11 = .ok (.aload_n 0, 1) := by decide +kernel
theorem dX11_hasFelt_12 : decode cX11_hasFelt 12 = .ok (.getfield 14, 3) := by decide +kernel
theorem dX11_hasFelt_15 : decode cX11_hasFelt 15 = .ok (.iload_n 2, 1) := by decide +kernel
theorem dX11_hasFelt_16 : decode cX11_hasFelt 16 = .ok (.invokevirtual 93, 3) := by decide +kernel
theorem dX11_hasFelt_19 : decode cX11_hasFelt 19 = .ok (.ifCond .eq 23, 3) := by decide +kernel
theorem dX11_hasFelt_22 : decode cX11_hasFelt 22 = .ok (.aload_n 0, 1) := by decide +kernel
theorem dX11_hasFelt_23 : decode cX11_hasFelt 23 = .ok (.getfield 21, 3) := by decide +kernel
theorem dX11_hasFelt_26 : decode cX11_hasFelt 26 = .ok (.getfield 123, 3) := by decide +kernel
theorem dX11_hasFelt_29 : decode cX11_hasFelt 29 = .ok (.iload_n 1, 1) := by decide +kernel
theorem dX11_hasFelt_30 : decode cX11_hasFelt 30 = .ok (.aaload, 1) := by decide +kernel
theorem dX11_hasFelt_31 : decode cX11_hasFelt 31 = .ok (.iload_n 2, 1) := by decide +kernel
theorem dX11_hasFelt_32 : decode cX11_hasFelt 32 = .ok (.invokevirtual 177, 3) := by decide +kernel
theorem dX11_hasFelt_35 : decode cX11_hasFelt 35 = .ok (.ifCond .eq 7, 3) := by decide +kernel
theorem dX11_hasFelt_38 : decode cX11_hasFelt 38 = .ok (.iconst 1, 1) := by decide +kernel
theorem dX11_hasFelt_39 : decode cX11_hasFelt 39 = .ok (.goto 4, 3) := by decide +kernel
theorem dX11_hasFelt_42 : decode cX11_hasFelt 42 = .ok (.iconst 0, 1) := by decide +kernel
theorem dX11_hasFelt_43 : decode cX11_hasFelt 43 = .ok (.ireturn, 1) := by decide +kernel
theorem dX11_hasStep_0 : decode cX11_hasStep 0 = .ok (.aload_n 0, 1) := by decide +kernel
theorem dX11_hasStep_1 : decode cX11_hasStep 1 = .ok (.getfield 35, 3) := by decide +kernel
theorem dX11_hasStep_4 : decode cX11_hasStep 4 = .ok (.iload_n 1, 1) := by decide +kernel
theorem dX11_hasStep_5 : decode cX11_hasStep 5 = .ok (.invokevirtual 276, 3) := by decide +kernel
theorem dX11_hasStep_8 : decode cX11_hasStep 8 = .ok (.ifCond .eq 27, 3) := by decide +kernel
theorem dX11_hasStep_11 : decode cX11_hasStep 11 = .ok (.iload_n 2, 1) := by decide +kernel
theorem dX11_hasStep_12 : decode cX11_hasStep 12 = .ok (.ifCond .lt 23, 3) := by decide +kernel
theorem dX11_hasStep_15 : decode cX11_hasStep 15 = .ok (.iload_n 2, 1) := by decide +kernel
theorem dX11_hasStep_16 : decode cX11_hasStep 16 = .ok (.aload_n 0, 1) := by decide +kernel
theorem dX11_hasStep_17 : decode cX11_hasStep 17 = .ok (.getfield 35, 3) := by decide +kernel
theorem dX11_hasStep_20 : decode cX11_hasStep 20 = .ok (.getfield 250, 3) := by decide +kernel
theorem dX11_hasStep_23 : decode cX11_hasStep 23 = .ok (.iload_n 1, 1) := by decide +kernel
theorem dX11_hasStep_24 : decode cX11_hasStep 24 = .ok (.aaload, 1) := by decide +kernel
theorem dX11_hasStep_25 : decode cX11_hasStep 25 = .ok (.getfield 287, 3) := by decide +kernel
theorem dX11_hasStep_28 : decode cX11_hasStep 28 = .ok (.if_icmp .ge 7, 3) := by decide +kernel
theorem dX11_hasStep_31 : decode cX11_hasStep 31 = .ok (.iconst 1, 1) := by decide +kernel
theorem dX11_hasStep_32 : decode cX11_hasStep 32 = .ok (.goto 4, 3) := by decide +kernel
theorem dX11_hasStep_35 : decode cX11_hasStep 35 = .ok (.iconst 0, 1) := by decide +kernel
theorem dX11_hasStep_36 : decode cX11_hasStep 36 = .ok (.ireturn, 1) := by decide +kernel
theorem dX11_fail_0 : decode cX11_fail 0 = .ok (.aload_n 0, 1) := by decide +kernel
theorem dX11_fail_1 : decode cX11_fail 1 = .ok (.iload_n 1, 1) := by decide +kernel
theorem dX11_fail_2 : decode cX11_fail 2 = .ok (.putfield 78, 3) := by decide +kernel
theorem dX11_fail_5 : decode cX11_fail 5 = .ok (.bipush (-10), 2) := by decide +kernel
theorem dX11_fail_7 : decode cX11_fail 7 = .ok (.iload_n 1, 1) := by decide +kernel
theorem dX11_fail_8 : decode cX11_fail 8 = .ok (.isub, 1) := by decide +kernel
theorem dX11_fail_9 : decode cX11_fail 9 = .ok (.ireturn, 1) := by decide +kernel
theorem dX11_lookAtGrips_0 : decode cX11_lookAtGrips 0 = .ok (.aload_n 0, 1) := by decide +kernel
theorem dX11_lookAtGrips_1 : decode cX11_lookAtGrips 1 = .ok (.getfield 28, 3) := by decide +kernel
theorem dX11_lookAtGrips_4 : decode cX11_lookAtGrips 4 = .ok (.aload_n 0, 1) := by decide +kernel
theorem dX11_lookAtGrips_5 : decode cX11_lookAtGrips 5 = .ok (.getfield 14, 3) := by decide +kernel
theorem dX11_lookAtGrips_8 : decode cX11_lookAtGrips 8 = .ok (.aload_n 0, 1) := by decide +kernel
theorem dX11_lookAtGrips_9 : decode cX11_lookAtGrips 9 = .ok (.getfield 21, 3) := by decide +kernel
theorem dX11_lookAtGrips_12 : decode cX11_lookAtGrips 12 = .ok (.invokevirtual 435, 3) := by decide +kernel
theorem dX11_lookAtGrips_15 : decode cX11_lookAtGrips 15 = .ok (.return_, 1) := by decide +kernel
theorem dX11_lookAtOffers_0 : decode cX11_lookAtOffers 0 = .ok (.aload_n 0, 1) := by decide +kernel
theorem dX11_lookAtOffers_1 : decode cX11_lookAtOffers 1 = .ok (.getfield 42, 3) := by decide +kernel
theorem dX11_lookAtOffers_4 : decode cX11_lookAtOffers 4 = .ok (.aload_n 0, 1) := by decide +kernel
theorem dX11_lookAtOffers_5 : decode cX11_lookAtOffers 5 = .ok (.getfield 35, 3) := by decide +kernel
theorem dX11_lookAtOffers_8 : decode cX11_lookAtOffers 8 = .ok (.invokevirtual 439, 3) := by decide +kernel
theorem dX11_lookAtOffers_11 : decode cX11_lookAtOffers 11 = .ok (.aload_n 0, 1) := by decide +kernel
theorem dX11_lookAtOffers_12 : decode cX11_lookAtOffers 12 = .ok (.getfield 42, 3) := by decide +kernel
theorem dX11_lookAtOffers_15 : decode cX11_lookAtOffers 15 = .ok (.aload_n 0, 1) := by decide +kernel
theorem dX11_lookAtOffers_16 : decode cX11_lookAtOffers 16 = .ok (.getfield 14, 3) := by decide +kernel
theorem dX11_lookAtOffers_19 : decode cX11_lookAtOffers 19 = .ok (.aload_n 0, 1) := by decide +kernel
theorem dX11_lookAtOffers_20 : decode cX11_lookAtOffers 20 = .ok (.getfield 14, 3) := by decide +kernel
theorem dX11_lookAtOffers_23 : decode cX11_lookAtOffers 23 = .ok (.invokevirtual 192, 3) := by decide +kernel
theorem dX11_lookAtOffers_26 : decode cX11_lookAtOffers 26 = .ok (.invokevirtual 171, 3) := by decide +kernel
theorem dX11_lookAtOffers_29 : decode cX11_lookAtOffers 29 = .ok (.invokevirtual 443, 3) := by decide +kernel
theorem dX11_lookAtOffers_32 : decode cX11_lookAtOffers 32 = .ok (.return_, 1) := by decide +kernel
theorem dX11_lookAtFrame_0 : decode cX11_lookAtFrame 0 = .ok (.aload_n 0, 1) := by decide +kernel
theorem dX11_lookAtFrame_1 : decode cX11_lookAtFrame 1 = .ok (.invokevirtual 195, 3) := by decide +kernel
theorem dX11_lookAtFrame_4 : decode cX11_lookAtFrame 4 = .ok (.aload_n 0, 1) := by decide +kernel
theorem dX11_lookAtFrame_5 : decode cX11_lookAtFrame 5 = .ok (.getfield 49, 3) := by decide +kernel
theorem dX11_lookAtFrame_8 : decode cX11_lookAtFrame 8 = .ok (.aload_n 0, 1) := by decide +kernel
theorem dX11_lookAtFrame_9 : decode cX11_lookAtFrame 9 = .ok (.getfield 35, 3) := by decide +kernel
theorem dX11_lookAtFrame_12 : decode cX11_lookAtFrame 12 = .ok (.aload_n 0, 1) := by decide +kernel
theorem dX11_lookAtFrame_13 : decode cX11_lookAtFrame 13 = .ok (.getfield 28, 3) := by decide +kernel
theorem dX11_lookAtFrame_16 : decode cX11_lookAtFrame 16 = .ok (.invokevirtual 446, 3) := by decide +kernel
theorem dX11_lookAtFrame_19 : decode cX11_lookAtFrame 19 = .ok (.return_, 1) := by decide +kernel
theorem dX11_songsWith_0 : decode cX11_songsWith 0 = .ok (.aload_n 0, 1) := by decide +kernel
theorem dX11_songsWith_1 : decode cX11_songsWith 1 = .ok (.getfield 14, 3) := by decide +kernel
theorem dX11_songsWith_4 : decode cX11_songsWith 4 = .ok (.getfield 96, 3) := by decide +kernel
theorem dX11_songsWith_7 : decode cX11_songsWith 7 = .ok (.iload_n 1, 1) := by decide +kernel
theorem dX11_songsWith_8 : decode cX11_songsWith 8 = .ok (.iaload, 1) := by decide +kernel
theorem dX11_songsWith_9 : decode cX11_songsWith 9 = .ok (.istore_n 3, 1) := by decide +kernel
theorem dX11_songsWith_10 : decode cX11_songsWith 10 = .ok (.aload_n 0, 1) := by decide +kernel
theorem dX11_songsWith_11 : decode cX11_songsWith 11 = .ok (.getfield 14, 3) := by decide +kernel
theorem dX11_songsWith_14 : decode cX11_songsWith 14 = .ok (.iload_n 1, 1) := by decide +kernel
theorem dX11_songsWith_15 : decode cX11_songsWith 15 = .ok (.iload_n 3, 1) := by decide +kernel
theorem dX11_songsWith_16 : decode cX11_songsWith 16 = .ok (.iload_n 2, 1) := by decide +kernel
theorem dX11_songsWith_17 : decode cX11_songsWith 17 = .ok (.iadd, 1) := by decide +kernel
theorem dX11_songsWith_18 : decode cX11_songsWith 18 = .ok (.invokevirtual 100, 3) := by decide +kernel
theorem dX11_songsWith_21 : decode cX11_songsWith 21 = .ok (.aload_n 0, 1) := by decide +kernel
theorem dX11_songsWith_22 : decode cX11_songsWith 22 = .ok (.invokevirtual 195, 3) := by decide +kernel
theorem dX11_songsWith_25 : decode cX11_songsWith 25 = .ok (.aload_n 0, 1) := by decide +kernel
theorem dX11_songsWith_26 : decode cX11_songsWith 26 = .ok (.getfield 35, 3) := by decide +kernel
theorem dX11_songsWith_29 : decode cX11_songsWith 29 = .ok (.aload_n 0, 1) := by decide +kernel
theorem dX11_songsWith_30 : decode cX11_songsWith 30 = .ok (.getfield 28, 3) := by decide +kernel
theorem dX11_songsWith_33 : decode cX11_songsWith 33 = .ok (.invokevirtual 294, 3) := by decide +kernel
theorem dX11_songsWith_36 : decode cX11_songsWith 36 = .ok (.invokestatic 204, 3) := by decide +kernel
theorem dX11_songsWith_39 : decode cX11_songsWith 39 = .ok (.istore 4, 2) := by decide +kernel
theorem dX11_songsWith_41 : decode cX11_songsWith 41 = .ok (.aload_n 0, 1) := by decide +kernel
theorem dX11_songsWith_42 : decode cX11_songsWith 42 = .ok (.getfield 14, 3) := by decide +kernel
theorem dX11_songsWith_45 : decode cX11_songsWith 45 = .ok (.iload_n 1, 1) := by decide +kernel
theorem dX11_songsWith_46 : decode cX11_songsWith 46 = .ok (.iload_n 3, 1) := by decide +kernel
theorem dX11_songsWith_47 : decode cX11_songsWith 47 = .ok (.invokevirtual 100, 3) := by decide +kernel
theorem dX11_songsWith_50 : decode cX11_songsWith 50 = .ok (.iload 4, 2) := by decide +kernel
theorem dX11_songsWith_52 : decode cX11_songsWith 52 = .ok (.ireturn, 1) := by decide +kernel
theorem dX11_leaveInTrace_0 : decode cX11_leaveInTrace 0 = .ok (.aload_n 0, 1) := by decide +kernel
theorem dX11_leaveInTrace_1 : decode cX11_leaveInTrace 1 = .ok (.bipush 31, 2) := by decide +kernel
theorem dX11_leaveInTrace_3 : decode cX11_leaveInTrace 3 = .ok (.aload_n 0, 1) := by decide +kernel
theorem dX11_leaveInTrace_4 : decode cX11_leaveInTrace 4 = .ok (.getfield 74, 3) := by decide +kernel
theorem dX11_leaveInTrace_7 : decode cX11_leaveInTrace 7 = .ok (.imul, 1) := by decide +kernel
theorem dX11_leaveInTrace_8 : decode cX11_leaveInTrace 8 = .ok (.iload_n 1, 1) := by decide +kernel
theorem dX11_leaveInTrace_9 : decode cX11_leaveInTrace 9 = .ok (.iadd, 1) := by decide +kernel
theorem dX11_leaveInTrace_10 : decode cX11_leaveInTrace 10 = .ok (.putfield 74, 3) := by decide +kernel
theorem dX11_leaveInTrace_13 : decode cX11_leaveInTrace 13 = .ok (.return_, 1) := by decide +kernel
theorem dX11_tellByHand_0 : decode cX11_tellByHand 0 = .ok (.aload_n 0, 1) := by decide +kernel
theorem dX11_tellByHand_1 : decode cX11_tellByHand 1 = .ok (.iconst 1, 1) := by decide +kernel
theorem dX11_tellByHand_2 : decode cX11_tellByHand 2 = .ok (.invokevirtual 419, 3) := by decide +kernel
theorem dX11_tellByHand_5 : decode cX11_tellByHand 5 = .ok (.aload_n 1, 1) := by decide +kernel
theorem dX11_tellByHand_6 : decode cX11_tellByHand 6 = .ok (.getfield 154, 3) := by decide +kernel
theorem dX11_tellByHand_9 : decode cX11_tellByHand 9 = .ok (.invokestatic 158, 3) := by decide +kernel
theorem dX11_tellByHand_12 : decode cX11_tellByHand 12 = .ok (.ireturn, 1) := by decide +kernel
theorem dX11_tellChord_0 : decode cX11_tellChord 0 = .ok (.aload_n 0, 1) := by decide +kernel
theorem dX11_tellChord_1 : decode cX11_tellChord 1 = .ok (.iconst 2, 1) := by decide +kernel
theorem dX11_tellChord_2 : decode cX11_tellChord 2 = .ok (.invokevirtual 419, 3) := by decide +kernel
theorem dX11_tellChord_5 : decode cX11_tellChord 5 = .ok (.aload_n 0, 1) := by decide +kernel
theorem dX11_tellChord_6 : decode cX11_tellChord 6 = .ok (.aload_n 1, 1) := by decide +kernel
theorem dX11_tellChord_7 : decode cX11_tellChord 7 = .ok (.invokevirtual 416, 3) := by decide +kernel
theorem dX11_tellChord_10 : decode cX11_tellChord 10 = .ok (.aload_n 1, 1) := by decide +kernel
theorem dX11_tellChord_11 : decode cX11_tellChord 11 = .ok (.getfield 151, 3) := by decide +kernel
theorem dX11_tellChord_14 : decode cX11_tellChord 14 = .ok (.iadd, 1) := by decide +kernel
theorem dX11_tellChord_15 : decode cX11_tellChord 15 = .ok (.ireturn, 1) := by decide +kernel
theorem dX11_tellSeventh_0 : decode cX11_tellSeventh 0 = .ok (.aload_n 0, 1) := by decide +kernel
theorem dX11_tellSeventh_1 : decode cX11_tellSeventh 1 = .ok (.iconst 3, 1) := by decide +kernel
theorem dX11_tellSeventh_2 : decode cX11_tellSeventh 2 = .ok (.invokevirtual 419, 3) := by decide +kernel
theorem dX11_tellSeventh_5 : decode cX11_tellSeventh 5 = .ok (.aload_n 0, 1) := by decide +kernel
theorem dX11_tellSeventh_6 : decode cX11_tellSeventh 6 = .ok (.aload_n 1, 1) := by decide +kernel
theorem dX11_tellSeventh_7 : decode cX11_tellSeventh 7 = .ok (.invokevirtual 413, 3) := by decide +kernel
theorem dX11_tellSeventh_10 : decode cX11_tellSeventh 10 = .ok (.istore_n 2, 1) := by decide +kernel
theorem dX11_tellSeventh_11 : decode cX11_tellSeventh 11 = .ok (.iload_n 2, 1) := by decide +kernel
theorem dX11_tellSeventh_12 : decode cX11_tellSeventh 12 = .ok (.aload_n 0, 1) := by decide +kernel
theorem dX11_tellSeventh_13 : decode cX11_tellSeventh 13 = .ok (.aload_n 1, 1) := by decide +kernel
theorem dX11_tellSeventh_14 : decode cX11_tellSeventh 14 = .ok (.invokevirtual 416, 3) := by decide +kernel
theorem dX11_tellSeventh_17 : decode cX11_tellSeventh 17 = .ok (.iadd, 1) := by decide +kernel
theorem dX11_tellSeventh_18 : decode cX11_tellSeventh 18 = .ok (.ireturn, 1) := by decide +kernel
theorem dX12_init_0 : decode cX12_init 0 = .ok (.aload_n 0, 1) := by decide +kernel
theorem dX12_init_1 : decode cX12_init 1 = .ok (.invokespecial 1, 3) := by decide +kernel
theorem dX12_init_4 : decode cX12_init 4 = .ok (.aload_n 0, 1) := by decide +kernel
theorem dX12_init_5 : decode cX12_init 5 = .ok (.bipush 36, 2) := by decide +kernel
theorem dX12_init_7 : decode cX12_init 7 = .ok (.newarray .int, 2) := by decide +kernel
theorem dX12_init_9 : decode cX12_init 9 = .ok (.putfield 7, 3) := by decide +kernel
theorem dX12_init_12 : decode cX12_init 12 = .ok (.aload_n 0, 1) := by decide +kernel
theorem dX12_init_13 : decode cX12_init 13 = .ok (.bipush 36, 2) := by decide +kernel
theorem dX12_init_15 : decode cX12_init 15 = .ok (.newarray .boolean, 2) := by decide +kernel
theorem dX12_init_17 : decode cX12_init 17 = .ok (.putfield 13, 3) := by decide +kernel
theorem dX12_init_20 : decode cX12_init 20 = .ok (.aload_n 0, 1) := by decide +kernel
theorem dX12_init_21 : decode cX12_init 21 = .ok (.bipush 12, 2) := by decide +kernel
theorem dX12_init_23 : decode cX12_init 23 = .ok (.newarray .int, 2) := by decide +kernel
theorem dX12_init_25 : decode cX12_init 25 = .ok (.putfield 17, 3) := by decide +kernel
theorem dX12_init_28 : decode cX12_init 28 = .ok (.aload_n 0, 1) := by decide +kernel
theorem dX12_init_29 : decode cX12_init 29 = .ok (.bipush 12, 2) := by decide +kernel
theorem dX12_init_31 : decode cX12_init 31 = .ok (.newarray .int, 2) := by decide +kernel
theorem dX12_init_33 : decode cX12_init 33 = .ok (.putfield 20, 3) := by decide +kernel
theorem dX12_init_36 : decode cX12_init 36 = .ok (.aload_n 0, 1) := by decide +kernel
theorem dX12_init_37 : decode cX12_init 37 = .ok (.bipush 12, 2) := by decide +kernel
theorem dX12_init_39 : decode cX12_init 39 = .ok (.newarray .int, 2) := by decide +kernel
theorem dX12_init_41 : decode cX12_init 41 = .ok (.putfield 23, 3) := by decide +kernel
theorem dX12_init_44 : decode cX12_init 44 = .ok (.aload_n 0, 1) := by decide +kernel
theorem dX12_init_45 : decode cX12_init 45 = .ok (.sipush 432, 3) := by decide +kernel
theorem dX12_init_48 : decode cX12_init 48 = .ok (.newarray .int, 2) := by decide +kernel
theorem dX12_init_50 : decode cX12_init 50 = .ok (.putfield 26, 3) := by decide +kernel
theorem dX12_init_53 : decode cX12_init 53 = .ok (.aload_n 0, 1) := by decide +kernel
theorem dX12_init_54 : decode cX12_init 54 = .ok (.bipush 79, 2) := by decide +kernel
theorem dX12_init_56 : decode cX12_init 56 = .ok (.newarray .int, 2) := by decide +kernel
theorem dX12_init_58 : decode cX12_init 58 = .ok (.putfield 29, 3) := by decide +kernel
theorem dX12_init_61 : decode cX12_init 61 = .ok (.aload_n 0, 1) := by decide +kernel
theorem dX12_init_62 : decode cX12_init 62 = .ok (.bipush 79, 2) := by decide +kernel
theorem dX12_init_64 : decode cX12_init 64 = .ok (.newarray .int, 2) := by decide +kernel
theorem dX12_init_66 : decode cX12_init 66 = .ok (.putfield 32, 3) := by decide +kernel
theorem dX12_init_69 : decode cX12_init 69 = .ok (.aload_n 0, 1) := by decide +kernel
theorem dX12_init_70 : decode cX12_init 70 = .ok (.bipush 96, 2) := by decide +kernel
theorem dX12_init_72 : decode cX12_init 72 = .ok (.newarray .int, 2) := by decide +kernel
theorem dX12_init_74 : decode cX12_init 74 = .ok (.putfield 35, 3) := by decide +kernel
theorem dX12_init_77 : decode cX12_init 77 = .ok (.aload_n 0, 1) := by decide +kernel
theorem dX12_init_78 : decode cX12_init 78 = .ok (.bipush 36, 2) := by decide +kernel
theorem dX12_init_80 : decode cX12_init 80 = .ok (.newarray .int, 2) := by decide +kernel
theorem dX12_init_82 : decode cX12_init 82 = .ok (.putfield 38, 3) := by decide +kernel
theorem dX12_init_85 : decode cX12_init 85 = .ok (.aload_n 0, 1) := by decide +kernel
theorem dX12_init_86 : decode cX12_init 86 = .ok (.bipush 8, 2) := by decide +kernel
theorem dX12_init_88 : decode cX12_init 88 = .ok (.newarray .int, 2) := by decide +kernel
theorem dX12_init_90 : decode cX12_init 90 = .ok (.putfield 41, 3) := by decide +kernel
theorem dX12_init_93 : decode cX12_init 93 = .ok (.aload_n 0, 1) := by decide +kernel
theorem dX12_init_94 : decode cX12_init 94 = .ok (.bipush 8, 2) := by decide +kernel
theorem dX12_init_96 : decode cX12_init 96 = .ok (.newarray .int, 2) := by decide +kernel
theorem dX12_init_98 : decode cX12_init 98 = .ok (.putfield 44, 3) := by decide +kernel
theorem dX12_init_101 : decode cX12_init 101 = .ok (.aload_n 0, 1) := by decide +kernel
theorem dX12_init_102 : decode cX12_init 102 = .ok (.sipush 192, 3) := by decide +kernel
theorem dX12_init_105 : decode cX12_init 105 = .ok (.newarray .int, 2) := by decide +kernel
theorem dX12_init_107 : decode cX12_init 107 = .ok (.putfield 47, 3) := by decide +kernel
theorem dX12_init_110 : decode cX12_init 110 = .ok (.aload_n 0, 1) := by decide +kernel
theorem dX12_init_111 : decode cX12_init 111 = .ok (.sipush 192, 3) := by decide +kernel
theorem dX12_init_114 : decode cX12_init 114 = .ok (.newarray .int, 2) := by decide +kernel
theorem dX12_init_116 : decode cX12_init 116 = .ok (.putfield 50, 3) := by decide +kernel
theorem dX12_init_119 : decode cX12_init 119 = .ok (.aload_n 0, 1) := by decide +kernel
theorem dX12_init_120 : decode cX12_init 120 = .ok (.iconst 4, 1) := by decide +kernel
theorem dX12_init_121 : decode cX12_init 121 = .ok (.newarray .int, 2) := by decide +kernel
theorem dX12_init_123 : decode cX12_init 123 = .ok (.dup, 1) := by decide +kernel
theorem dX12_init_124 : decode cX12_init 124 = .ok (.iconst 0, 1) := by decide +kernel
theorem dX12_init_125 : decode cX12_init 125 = .ok (.bipush (-9), 2) := by decide +kernel
theorem dX12_init_127 : decode cX12_init 127 = .ok (.iastore, 1) := by decide +kernel
theorem dX12_init_128 : decode cX12_init 128 = .ok (.dup, 1) := by decide +kernel
theorem dX12_init_129 : decode cX12_init 129 = .ok (.iconst 1, 1) := by decide +kernel
theorem dX12_init_130 : decode cX12_init 130 = .ok (.bipush (-9), 2) := by decide +kernel
theorem dX12_init_132 : decode cX12_init 132 = .ok (.iastore, 1) := by decide +kernel
theorem dX12_init_133 : decode cX12_init 133 = .ok (.dup, 1) := by decide +kernel
theorem dX12_init_134 : decode cX12_init 134 = .ok (.iconst 2, 1) := by decide +kernel
theorem dX12_init_135 : decode cX12_init 135 = .ok (.bipush (-9), 2) := by decide +kernel
theorem dX12_init_137 : decode cX12_init 137 = .ok (.iastore, 1) := by decide +kernel
theorem dX12_init_138 : decode cX12_init 138 = .ok (.dup, 1) := by decide +kernel
theorem dX12_init_139 : decode cX12_init 139 = .ok (.iconst 3, 1) := by decide +kernel
theorem dX12_init_140 : decode cX12_init 140 = .ok (.bipush (-9), 2) := by decide +kernel
theorem dX12_init_142 : decode cX12_init 142 = .ok (.iastore, 1) := by decide +kernel
theorem dX12_init_143 : decode cX12_init 143 = .ok (.putfield 53, 3) := by decide +kernel
theorem dX12_init_146 : decode cX12_init 146 = .ok (.aload_n 0, 1) := by decide +kernel
theorem dX12_init_147 : decode cX12_init 147 = .ok (.iconst 4, 1) := by decide +kernel
theorem dX12_init_148 : decode cX12_init 148 = .ok (.newarray .int, 2) := by decide +kernel
theorem dX12_init_150 : decode cX12_init 150 = .ok (.putfield 56, 3) := by decide +kernel
theorem dX12_init_153 : decode cX12_init 153 = .ok (.aload_n 0, 1) := by decide +kernel
theorem dX12_init_154 : decode cX12_init 154 = .ok (.sipush 256, 3) := by decide +kernel
theorem dX12_init_157 : decode cX12_init 157 = .ok (.newarray .int, 2) := by decide +kernel
theorem dX12_init_159 : decode cX12_init 159 = .ok (.putfield 59, 3) := by decide +kernel
theorem dX12_init_162 : decode cX12_init 162 = .ok (.aload_n 0, 1) := by decide +kernel
theorem dX12_init_163 : decode cX12_init 163 = .ok (.bipush 12, 2) := by decide +kernel
theorem dX12_init_165 : decode cX12_init 165 = .ok (.newarray .int, 2) := by decide +kernel
theorem dX12_init_167 : decode cX12_init 167 = .ok (.putfield 62, 3) := by decide +kernel
theorem dX12_init_170 : decode cX12_init 170 = .ok (.aload_n 0, 1) := by decide +kernel
theorem dX12_init_171 : decode cX12_init 171 = .ok (.sipush 144, 3) := by decide +kernel
theorem dX12_init_174 : decode cX12_init 174 = .ok (.newarray .int, 2) := by decide +kernel
theorem dX12_init_176 : decode cX12_init 176 = .ok (.putfield 65, 3) := by decide +kernel
theorem dX12_init_179 : decode cX12_init 179 = .ok (.aload_n 0, 1) := by decide +kernel
theorem dX12_init_180 : decode cX12_init 180 = .ok (.sipush 4096, 3) := by decide +kernel
theorem dX12_init_183 : decode cX12_init 183 = .ok (.newarray .boolean, 2) := by decide +kernel
theorem dX12_init_185 : decode cX12_init 185 = .ok (.putfield 68, 3) := by decide +kernel
theorem dX12_init_188 : decode cX12_init 188 = .ok (.aload_n 0, 1) := by decide +kernel
theorem dX12_init_189 : decode cX12_init 189 = .ok (.sipush 4096, 3) := by decide +kernel
theorem dX12_init_192 : decode cX12_init 192 = .ok (.newarray .int, 2) := by decide +kernel
theorem dX12_init_194 : decode cX12_init 194 = .ok (.putfield 71, 3) := by decide +kernel
theorem dX12_init_197 : decode cX12_init 197 = .ok (.aload_n 0, 1) := by decide +kernel
theorem dX12_init_198 : decode cX12_init 198 = .ok (.sipush 144, 3) := by decide +kernel
theorem dX12_init_201 : decode cX12_init 201 = .ok (.newarray .int, 2) := by decide +kernel
theorem dX12_init_203 : decode cX12_init 203 = .ok (.putfield 74, 3) := by decide +kernel
theorem dX12_init_206 : decode cX12_init 206 = .ok (.aload_n 0, 1) := by decide +kernel
theorem dX12_init_207 : decode cX12_init 207 = .ok (.sipush 4096, 3) := by decide +kernel
theorem dX12_init_210 : decode cX12_init 210 = .ok (.newarray .int, 2) := by decide +kernel
theorem dX12_init_212 : decode cX12_init 212 = .ok (.putfield 77, 3) := by decide +kernel
theorem dX12_init_215 : decode cX12_init 215 = .ok (.aload_n 0, 1) := by decide +kernel
theorem dX12_init_216 : decode cX12_init 216 = .ok (.sipush 4096, 3) := by decide +kernel
theorem dX12_init_219 : decode cX12_init 219 = .ok (.newarray .int, 2) := by decide +kernel
theorem dX12_init_221 : decode cX12_init 221 = .ok (.putfield 80, 3) := by decide +kernel
theorem dX12_init_224 : decode cX12_init 224 = .ok (.aload_n 0, 1) := by decide +kernel
theorem dX12_init_225 : decode cX12_init 225 = .ok (.bipush 12, 2) := by decide +kernel
theorem dX12_init_227 : decode cX12_init 227 = .ok (.newarray .int, 2) := by decide +kernel
theorem dX12_init_229 : decode cX12_init 229 = .ok (.putfield 83, 3) := by decide +kernel
theorem dX12_init_232 : decode cX12_init 232 = .ok (.aload_n 0, 1) := by decide +kernel
theorem dX12_init_233 : decode cX12_init 233 = .ok (.sipush 1896, 3) := by decide +kernel
theorem dX12_init_236 : decode cX12_init 236 = .ok (.newarray .int, 2) := by decide +kernel
theorem dX12_init_238 : decode cX12_init 238 = .ok (.putfield 86, 3) := by decide +kernel
theorem dX12_init_241 : decode cX12_init 241 = .ok (.aload_n 0, 1) := by decide +kernel
theorem dX12_init_242 : decode cX12_init 242 = .ok (.bipush 20, 2) := by decide +kernel
theorem dX12_init_244 : decode cX12_init 244 = .ok (.newarray .int, 2) := by decide +kernel
theorem dX12_init_246 : decode cX12_init 246 = .ok (.putfield 89, 3) := by decide +kernel
theorem dX12_init_249 : decode cX12_init 249 = .ok (.aload_n 0, 1) := by decide +kernel
theorem dX12_init_250 : decode cX12_init 250 = .ok (.bipush 20, 2) := by decide +kernel
theorem dX12_init_252 : decode cX12_init 252 = .ok (.newarray .int, 2) := by decide +kernel
theorem dX12_init_254 : decode cX12_init 254 = .ok (.putfield 92, 3) := by decide +kernel
theorem dX12_init_257 : decode cX12_init 257 = .ok (.aload_n 0, 1) := by decide +kernel
theorem dX12_init_258 : decode cX12_init 258 = .ok (.sipush 720, 3) := by decide +kernel
theorem dX12_init_261 : decode cX12_init 261 = .ok (.newarray .int, 2) := by decide +kernel
theorem dX12_init_263 : decode cX12_init 263 = .ok (.putfield 95, 3) := by decide +kernel
theorem dX12_init_266 : decode cX12_init 266 = .ok (.aload_n 0, 1) := by decide +kernel
theorem dX12_init_267 : decode cX12_init 267 = .ok (.sipush 432, 3) := by decide +kernel
theorem dX12_init_270 : decode cX12_init 270 = .ok (.newarray .boolean, 2) := by decide +kernel
theorem dX12_init_272 : decode cX12_init 272 = .ok (.putfield 98, 3) := by decide +kernel
theorem dX12_init_275 : decode cX12_init 275 = .ok (.return_, 1) := by decide +kernel
theorem dX12_fails_0 : decode cX12_fails 0 = .ok (.aload_n 0, 1) := by decide +kernel
theorem dX12_fails_1 : decode cX12_fails 1 = .ok (.iload_n 1, 1) := by decide +kernel
theorem dX12_fails_2 : decode cX12_fails 2 = .ok (.putfield 101, 3) := by decide +kernel
theorem dX12_fails_5 : decode cX12_fails 5 = .ok (.bipush (-10), 2) := by decide +kernel
theorem dX12_fails_7 : decode cX12_fails 7 = .ok (.iload_n 1, 1) := by decide +kernel
theorem dX12_fails_8 : decode cX12_fails 8 = .ok (.isub, 1) := by decide +kernel
theorem dX12_fails_9 : decode cX12_fails 9 = .ok (.ireturn, 1) := by decide +kernel
theorem dX12_lost_0 : decode cX12_lost 0 = .ok (.aload_n 0, 1) := by decide +kernel
theorem dX12_lost_1 : decode cX12_lost 1 = .ok (.iload_n 1, 1) := by decide +kernel
theorem dX12_lost_2 : decode cX12_lost 2 = .ok (.putfield 101, 3) := by decide +kernel
theorem dX12_lost_5 : decode cX12_lost 5 = .ok (.ldc2_w 105, 3) := by decide +kernel
theorem dX12_lost_8 : decode cX12_lost 8 = .ok (.lreturn, 1) := by decide +kernel
theorem dX12_within_0 : decode cX12_within 0 = .ok (.iload_n 0, 1) := by decide +kernel
theorem dX12_within_1 : decode cX12_within 1 = .ok (.iload_n 1, 1) := by decide +kernel
theorem dX12_within_2 : decode cX12_within 2 = .ok (.if_icmp .lt 12, 3) := by decide +kernel
theorem dX12_within_5 : decode cX12_within 5 = .ok (.iload_n 0, 1) := by decide +kernel
theorem dX12_within_6 : decode cX12_within 6 = .ok (.iload_n 2, 1) := by decide +kernel
theorem dX12_within_7 : decode cX12_within 7 = .ok (.if_icmp .gt 7, 3) := by decide +kernel
theorem dX12_within_10 : decode cX12_within 10 = .ok (.iconst 1, 1) := by decide +kernel
theorem dX12_within_11 : decode cX12_within 11 = .ok (.goto 4, 3) := by decide +kernel
theorem dX12_within_14 : decode cX12_within 14 = .ok (.iconst 0, 1) := by decide +kernel
theorem dX12_within_15 : decode cX12_within 15 = .ok (.ireturn, 1) := by decide +kernel
theorem dX12_countOf_0 : decode cX12_countOf 0 = .ok (.iconst 0, 1) := by decide +kernel
theorem dX12_countOf_1 : decode cX12_countOf 1 = .ok (.istore_n 1, 1) := by decide +kernel
theorem dX12_countOf_2 : decode cX12_countOf 2 = .ok (.iconst 0, 1) := by decide +kernel
theorem dX12_countOf_3 : decode cX12_countOf 3 = .ok (.istore_n 2, 1) := by decide +kernel
theorem dX12_countOf_4 : decode cX12_countOf 4 = .ok (.iload_n 2, 1) := by decide +kernel
theorem dX12_countOf_5 : decode cX12_countOf 5 = .ok (.bipush 12, 2) := by decide +kernel
theorem dX12_countOf_7 : decode cX12_countOf 7 = .ok (.if_icmp .ge 17, 3) := by decide +kernel
theorem dX12_countOf_10 : decode cX12_countOf 10 = .ok (.iload_n 1, 1) := by decide +kernel
theorem dX12_countOf_11 : decode cX12_countOf 11 = .ok (.iload_n 0, 1) := by decide +kernel
theorem dX12_countOf_12 : decode cX12_countOf 12 = .ok (.iload_n 2, 1) := by decide +kernel
theorem dX12_countOf_13 : decode cX12_countOf 13 = .ok (.ishr, 1) := by decide +kernel
theorem dX12_countOf_14 : decode cX12_countOf 14 = .ok (.iconst 1, 1) := by decide +kernel
theorem dX12_countOf_15 : decode cX12_countOf 15 = .ok (.iand, 1) := by decide +kernel
theorem dX12_countOf_16 : decode cX12_countOf 16 = .ok (.iadd, 1) := by decide +kernel
theorem dX12_countOf_17 : decode cX12_countOf 17 = .ok (.istore_n 1, 1) := by decide +kernel
theorem dX12_countOf_18 : decode cX12_countOf 18 = .ok (.iinc 2 1, 3) := by decide +kernel
theorem dX12_countOf_21 : decode cX12_countOf 21 = .ok (.goto (-17), 3) := by decide +kernel
theorem dX12_countOf_24 : decode cX12_countOf 24 = .ok (.iload_n 1, 1) := by decide +kernel
theorem dX12_countOf_25 : decode cX12_countOf 25 = .ok (.ireturn, 1) := by decide +kernel
theorem dX12_isString_0 : decode cX12_isString 0 = .ok (.iload_n 1, 1) := by decide +kernel
theorem dX12_isString_1 : decode cX12_isString 1 = .ok (.ifCond .lt 15, 3) := by decide +kernel
theorem dX12_isString_4 : decode cX12_isString 4 = .ok (.iload_n 1, 1) := by decide +kernel
theorem dX12_isString_5 : decode cX12_isString 5 = .ok (.aload_n 0, 1) := by decide +kernel
theorem dX12_isString_6 : decode cX12_isString 6 = .ok (.getfield 107, 3) := by decide +kernel
theorem dX12_isString_9 : decode cX12_isString 9 = .ok (.if_icmp .ge 7, 3) := by decide +kernel
theorem dX12_isString_12 : decode cX12_isString 12 = .ok (.iconst 1, 1) := by decide +kernel
theorem dX12_isString_13 : decode cX12_isString 13 = .ok (.goto 4, 3) := by decide +kernel
theorem dX12_isString_16 : decode cX12_isString 16 = .ok (.iconst 0, 1) := by decide +kernel
theorem dX12_isString_17 : decode cX12_isString 17 = .ok (.ireturn, 1) := by decide +kernel
theorem dX12_isBar_0 : decode cX12_isBar 0 = .ok (.iload_n 1, 1) := by decide +kernel
theorem dX12_isBar_1 : decode cX12_isBar 1 = .ok (.ifCond .lt 15, 3) := by decide +kernel
theorem dX12_isBar_4 : decode cX12_isBar 4 = .ok (.iload_n 1, 1) := by decide +kernel
theorem dX12_isBar_5 : decode cX12_isBar 5 = .ok (.aload_n 0, 1) := by decide +kernel
theorem dX12_isBar_6 : decode cX12_isBar 6 = .ok (.getfield 110, 3) := by decide +kernel
theorem dX12_isBar_9 : decode cX12_isBar 9 = .ok (.if_icmp .ge 7, 3) := by decide +kernel
theorem dX12_isBar_12 : decode cX12_isBar 12 = .ok (.iconst 1, 1) := by decide +kernel
theorem dX12_isBar_13 : decode cX12_isBar 13 = .ok (.goto 4, 3) := by decide +kernel
theorem dX12_isBar_16 : decode cX12_isBar 16 = .ok (.iconst 0, 1) := by decide +kernel
theorem dX12_isBar_17 : decode cX12_isBar 17 = .ok (.ireturn, 1) := by decide +kernel
theorem dX12_isSet_0 : decode cX12_isSet 0 = .ok (.iload_n 1, 1) := by decide +kernel
theorem dX12_isSet_1 : decode cX12_isSet 1 = .ok (.iconst 0, 1) := by decide +kernel
theorem dX12_isSet_2 : decode cX12_isSet 2 = .ok (.iconst 1, 1) := by decide +kernel
theorem dX12_isSet_3 : decode cX12_isSet 3 = .ok (.aload_n 0, 1) := by decide +kernel
theorem dX12_isSet_4 : decode cX12_isSet 4 = .ok (.getfield 110, 3) := by decide +kernel
theorem dX12_isSet_7 : decode cX12_isSet 7 = .ok (.ishl, 1) := by decide +kernel
theorem dX12_isSet_8 : decode cX12_isSet 8 = .ok (.iconst 1, 1) := by decide +kernel
theorem dX12_isSet_9 : decode cX12_isSet 9 = .ok (.isub, 1) := by decide +kernel
theorem dX12_isSet_10 : decode cX12_isSet 10 = .ok (.invokestatic 113, 3) := by decide +kernel
theorem dX12_isSet_13 : decode cX12_isSet 13 = .ok (.ireturn, 1) := by decide +kernel
theorem dX12_isChord_0 : decode cX12_isChord 0 = .ok (.iload_n 0, 1) := by decide +kernel
theorem dX12_isChord_1 : decode cX12_isChord 1 = .ok (.iconst 0, 1) := by decide +kernel
theorem dX12_isChord_2 : decode cX12_isChord 2 = .ok (.bipush 95, 2) := by decide +kernel
theorem dX12_isChord_4 : decode cX12_isChord 4 = .ok (.invokestatic 113, 3) := by decide +kernel
theorem dX12_isChord_7 : decode cX12_isChord 7 = .ok (.ireturn, 1) := by decide +kernel
theorem dX12_classOf_0 : decode cX12_classOf 0 = .ok (.aload_n 0, 1) := by decide +kernel
theorem dX12_classOf_1 : decode cX12_classOf 1 = .ok (.getfield 7, 3) := by decide +kernel
theorem dX12_classOf_4 : decode cX12_classOf 4 = .ok (.iload_n 1, 1) := by decide +kernel
theorem dX12_classOf_5 : decode cX12_classOf 5 = .ok (.iaload, 1) := by decide +kernel
theorem dX12_classOf_6 : decode cX12_classOf 6 = .ok (.bipush 12, 2) := by decide +kernel
theorem dX12_classOf_8 : decode cX12_classOf 8 = .ok (.irem, 1) := by decide +kernel
theorem dX12_classOf_9 : decode cX12_classOf 9 = .ok (.ireturn, 1) := by decide +kernel
theorem dX12_string_0 : decode cX12_string 0 = .ok (.iload_n 1, 1) := by decide +kernel
theorem dX12_string_1 : decode cX12_string 1 = .ok (.iconst 0, 1) := by decide +kernel
theorem dX12_string_2 : decode cX12_string 2 = .ok (.bipush 60, 2) := by decide +kernel
theorem dX12_string_4 : decode cX12_string 4 = .ok (.invokestatic 113, 3) := by decide +kernel
theorem dX12_string_7 : decode cX12_string 7 = .ok (.ifCond .ne 6, 3) := by decide +kernel
theorem dX12_string_10 : decode cX12_string 10 = .ok (.bipush (-2), 2) := by decide +kernel
theorem dX12_string_12 : decode cX12_string 12 = .ok (.ireturn, 1) := by decide +kernel
theorem dX12_string_13 : decode cX12_string 13 = .ok (.aload_n 0, 1) := by decide +kernel
theorem dX12_string_14 : decode cX12_string 14 = .ok (.getfield 107, 3) := by decide +kernel
theorem dX12_string_17 : decode cX12_string 17 = .ok (.bipush 36, 2) := by decide +kernel
theorem dX12_string_19 : decode cX12_string 19 = .ok (.if_icmp .ne 6, 3) := by decide +kernel
theorem dX12_string_22 : decode cX12_string 22 = .ok (.bipush (-4), 2) := by decide +kernel
theorem dX12_string_24 : decode cX12_string 24 = .ok (.ireturn, 1) := by decide +kernel
theorem dX12_string_25 : decode cX12_string 25 = .ok (.aload_n 0, 1) := by decide +kernel
theorem dX12_string_26 : decode cX12_string 26 = .ok (.getfield 7, 3) := by decide +kernel
theorem dX12_string_29 : decode cX12_string 29 = .ok (.aload_n 0, 1) := by decide +kernel
theorem dX12_string_30 : decode cX12_string 30 = .ok (.getfield 107, 3) := by decide +kernel
theorem dX12_string_33 : decode cX12_string 33 = .ok (.iload_n 1, 1) := by decide +kernel
theorem dX12_string_34 : decode cX12_string 34 = .ok (.iastore, 1) := by decide +kernel
theorem dX12_string_35 : decode cX12_string 35 = .ok (.aload_n 0, 1) := by decide +kernel
theorem dX12_string_36 : decode cX12_string 36 = .ok (.getfield 13, 3) := by decide +kernel
theorem dX12_string_39 : decode cX12_string 39 = .ok (.aload_n 0, 1) := by decide +kernel
theorem dX12_string_40 : decode cX12_string 40 = .ok (.getfield 107, 3) := by decide +kernel
theorem dX12_string_43 : decode cX12_string 43 = .ok (.iload_n 2, 1) := by decide +kernel
theorem dX12_string_44 : decode cX12_string 44 = .ok (.bastore, 1) := by decide +kernel
theorem dX12_string_45 : decode cX12_string 45 = .ok (.aload_n 0, 1) := by decide +kernel
theorem dX12_string_46 : decode cX12_string 46 = .ok (.dup, 1) := by decide +kernel
theorem dX12_string_47 : decode cX12_string 47 = .ok (.getfield 107, 3) := by decide +kernel
theorem dX12_string_50 : decode cX12_string 50 = .ok (.iconst 1, 1) := by decide +kernel
theorem dX12_string_51 : decode cX12_string 51 = .ok (.iadd, 1) := by decide +kernel
theorem dX12_string_52 : decode cX12_string 52 = .ok (.putfield 107, 3) := by decide +kernel
theorem dX12_string_55 : decode cX12_string 55 = .ok (.aload_n 0, 1) := by decide +kernel
theorem dX12_string_56 : decode cX12_string 56 = .ok (.getfield 107, 3) := by decide +kernel
theorem dX12_string_59 : decode cX12_string 59 = .ok (.iconst 1, 1) := by decide +kernel
theorem dX12_string_60 : decode cX12_string 60 = .ok (.isub, 1) := by decide +kernel
theorem dX12_string_61 : decode cX12_string 61 = .ok (.ireturn, 1) := by decide +kernel
theorem dX12_tune_0 : decode cX12_tune 0 = .ok (.aload_n 0, 1) := by decide +kernel
theorem dX12_tune_1 : decode cX12_tune 1 = .ok (.iload_n 1, 1) := by decide +kernel
theorem dX12_tune_2 : decode cX12_tune 2 = .ok (.invokevirtual 117, 3) := by decide +kernel
theorem dX12_tune_5 : decode cX12_tune 5 = .ok (.ifCond .ne 5, 3) := by decide +kernel
theorem dX12_tune_8 : decode cX12_tune 8 = .ok (.iconst (-1), 1) := by decide +kernel
theorem dX12_tune_9 : decode cX12_tune 9 = .ok (.ireturn, 1) := by decide +kernel
theorem dX12_tune_10 : decode cX12_tune 10 = .ok (.iload_n 2, 1) := by decide +kernel
theorem dX12_tune_11 : decode cX12_tune 11 = .ok (.iconst 0, 1) := by decide +kernel
theorem dX12_tune_12 : decode cX12_tune 12 = .ok (.bipush 60, 2) := by decide +kernel
theorem dX12_tune_14 : decode cX12_tune 14 = .ok (.invokestatic 113, 3) := by decide +kernel
theorem dX12_tune_17 : decode cX12_tune 17 = .ok (.ifCond .ne 6, 3) := by decide +kernel
theorem dX12_tune_20 : decode cX12_tune 20 = .ok (.bipush (-2), 2) := by decide +kernel
theorem dX12_tune_22 : decode cX12_tune 22 = .ok (.ireturn, 1) := by decide +kernel
theorem dX12_tune_23 : decode cX12_tune 23 = .ok (.aload_n 0, 1) := by decide +kernel
theorem dX12_tune_24 : decode cX12_tune 24 = .ok (.getfield 7, 3) := by decide +kernel
theorem dX12_tune_27 : decode cX12_tune 27 = .ok (.iload_n 1, 1) := by decide +kernel
theorem dX12_tune_28 : decode cX12_tune 28 = .ok (.iaload, 1) := by decide +kernel
theorem dX12_tune_29 : decode cX12_tune 29 = .ok (.istore_n 3, 1) := by decide +kernel
theorem dX12_tune_30 : decode cX12_tune 30 = .ok (.aload_n 0, 1) := by decide +kernel
theorem dX12_tune_31 : decode cX12_tune 31 = .ok (.getfield 7, 3) := by decide +kernel
theorem dX12_tune_34 : decode cX12_tune 34 = .ok (.iload_n 1, 1) := by decide +kernel
theorem dX12_tune_35 : decode cX12_tune 35 = .ok (.iload_n 2, 1) := by decide +kernel
theorem dX12_tune_36 : decode cX12_tune 36 = .ok (.iastore, 1) := by decide +kernel
theorem dX12_tune_37 : decode cX12_tune 37 = .ok (.iload_n 3, 1) := by decide +kernel
theorem dX12_tune_38 : decode cX12_tune 38 = .ok (.ireturn, 1) := by decide +kernel
theorem dX12_above_0 : decode cX12_above 0 = .ok (.iconst 1, 1) := by decide +kernel
theorem dX12_above_1 : decode cX12_above 1 = .ok (.iload_n 0, 1) := by decide +kernel
theorem dX12_above_2 : decode cX12_above 2 = .ok (.iload_n 1, 1) := by decide +kernel
theorem dX12_above_3 : decode cX12_above 3 = .ok (.iadd, 1) := by decide +kernel
theorem dX12_above_4 : decode cX12_above 4 = .ok (.bipush 12, 2) := by decide +kernel
theorem dX12_above_6 : decode cX12_above 6 = .ok (.irem, 1) := by decide +kernel
theorem dX12_above_7 : decode cX12_above 7 = .ok (.ishl, 1) := by decide +kernel
theorem dX12_above_8 : decode cX12_above 8 = .ok (.ireturn, 1) := by decide +kernel
theorem dX12_classesOf_0 : decode cX12_classesOf 0 = .ok (.iload_n 0, 1) := by decide +kernel
theorem dX12_classesOf_1 : decode cX12_classesOf 1 = .ok (.bipush 12, 2) := by decide +kernel
theorem dX12_classesOf_3 : decode cX12_classesOf 3 = .ok (.irem, 1) := by decide +kernel
theorem dX12_classesOf_4 : decode cX12_classesOf 4 = .ok (.istore_n 1, 1) := by decide +kernel
theorem dX12_classesOf_5 : decode cX12_classesOf 5 = .ok (.iload_n 1, 1) := by decide +kernel
theorem dX12_classesOf_6 : decode cX12_classesOf 6 = .ok (.iconst 0, 1) := by decide +kernel
theorem dX12_classesOf_7 : decode cX12_classesOf 7 = .ok (.invokestatic 121, 3) := by decide +kernel
theorem dX12_classesOf_10 : decode cX12_classesOf 10 = .ok (.istore_n 2, 1) := by decide +kernel
theorem dX12_classesOf_11 : decode cX12_classesOf 11 = .ok (.iload_n 0, 1) := by decide +kernel
theorem dX12_classesOf_12 : decode cX12_classesOf 12 = .ok (.bipush 12, 2) := by decide +kernel
theorem dX12_classesOf_14 : decode cX12_classesOf 14 = .ok (.idiv, 1) := by decide +kernel
theorem dX12_classesOf_15 : decode cX12_classesOf 15 = .ok (.tableswitch 167 0 6 #[41, 56, 71, 93, 115, 130, 145], 41) := by decide +kernel
theorem dX12_classesOf_56 : decode cX12_classesOf 56 = .ok (.iload_n 2, 1) := by decide +kernel
theorem dX12_classesOf_57 : decode cX12_classesOf 57 = .ok (.iload_n 1, 1) := by decide +kernel
theorem dX12_classesOf_58 : decode cX12_classesOf 58 = .ok (.iconst 4, 1) := by decide +kernel
theorem dX12_classesOf_59 : decode cX12_classesOf 59 = .ok (.invokestatic 121, 3) := by decide +kernel
theorem dX12_classesOf_62 : decode cX12_classesOf 62 = .ok (.ior, 1) := by decide +kernel
theorem dX12_classesOf_63 : decode cX12_classesOf 63 = .ok (.iload_n 1, 1) := by decide +kernel
theorem dX12_classesOf_64 : decode cX12_classesOf 64 = .ok (.bipush 7, 2) := by decide +kernel
theorem dX12_classesOf_66 : decode cX12_classesOf 66 = .ok (.invokestatic 121, 3) := by decide +kernel
theorem dX12_classesOf_69 : decode cX12_classesOf 69 = .ok (.ior, 1) := by decide +kernel
theorem dX12_classesOf_70 : decode cX12_classesOf 70 = .ok (.ireturn, 1) := by decide +kernel
theorem dX12_classesOf_71 : decode cX12_classesOf 71 = .ok (.iload_n 2, 1) := by decide +kernel
theorem dX12_classesOf_72 : decode cX12_classesOf 72 = .ok (.iload_n 1, 1) := by decide +kernel
theorem dX12_classesOf_73 : decode cX12_classesOf 73 = .ok (.iconst 3, 1) := by decide +kernel
theorem dX12_classesOf_74 : decode cX12_classesOf 74 = .ok (.invokestatic 121, 3) := by decide +kernel
theorem dX12_classesOf_77 : decode cX12_classesOf 77 = .ok (.ior, 1) := by decide +kernel
theorem dX12_classesOf_78 : decode cX12_classesOf 78 = .ok (.iload_n 1, 1) := by decide +kernel
theorem dX12_classesOf_79 : decode cX12_classesOf 79 = .ok (.bipush 7, 2) := by decide +kernel
theorem dX12_classesOf_81 : decode cX12_classesOf 81 = .ok (.invokestatic 121, 3) := by decide +kernel
theorem dX12_classesOf_84 : decode cX12_classesOf 84 = .ok (.ior, 1) := by decide +kernel
theorem dX12_classesOf_85 : decode cX12_classesOf 85 = .ok (.ireturn, 1) := by decide +kernel
theorem dX12_classesOf_86 : decode cX12_classesOf 86 = .ok (.iload_n 2, 1) := by decide +kernel
theorem dX12_classesOf_87 : decode cX12_classesOf 87 = .ok (.iload_n 1, 1) := by decide +kernel
theorem dX12_classesOf_88 : decode cX12_classesOf 88 = .ok (.iconst 4, 1) := by decide +kernel
theorem dX12_classesOf_89 : decode cX12_classesOf 89 = .ok (.invokestatic 121, 3) := by decide +kernel
theorem dX12_classesOf_92 : decode cX12_classesOf 92 = .ok (.ior, 1) := by decide +kernel
theorem dX12_classesOf_93 : decode cX12_classesOf 93 = .ok (.iload_n 1, 1) := by decide +kernel
theorem dX12_classesOf_94 : decode cX12_classesOf 94 = .ok (.bipush 7, 2) := by decide +kernel
theorem dX12_classesOf_96 : decode cX12_classesOf 96 = .ok (.invokestatic 121, 3) := by decide +kernel
theorem dX12_classesOf_99 : decode cX12_classesOf 99 = .ok (.ior, 1) := by decide +kernel
theorem dX12_classesOf_100 : decode cX12_classesOf 100 = .ok (.iload_n 1, 1) := by decide +kernel
theorem dX12_classesOf_101 : decode cX12_classesOf 101 = .ok (.bipush 10, 2) := by decide +kernel
theorem dX12_classesOf_103 : decode cX12_classesOf 103 = .ok (.invokestatic 121, 3) := by decide +kernel
theorem dX12_classesOf_106 : decode cX12_classesOf 106 = .ok (.ior, 1) := by decide +kernel
theorem dX12_classesOf_107 : decode cX12_classesOf 107 = .ok (.ireturn, 1) := by decide +kernel
theorem dX12_classesOf_108 : decode cX12_classesOf 108 = .ok (.iload_n 2, 1) := by decide +kernel
theorem dX12_classesOf_109 : decode cX12_classesOf 109 = .ok (.iload_n 1, 1) := by decide +kernel
theorem dX12_classesOf_110 : decode cX12_classesOf 110 = .ok (.iconst 3, 1) := by decide +kernel
theorem dX12_classesOf_111 : decode cX12_classesOf 111 = .ok (.invokestatic 121, 3) := by decide +kernel
theorem dX12_classesOf_114 : decode cX12_classesOf 114 = .ok (.ior, 1) := by decide +kernel
theorem dX12_classesOf_115 : decode cX12_classesOf 115 = .ok (.iload_n 1, 1) := by decide +kernel
theorem dX12_classesOf_116 : decode cX12_classesOf 116 = .ok (.bipush 7, 2) := by decide +kernel
theorem dX12_classesOf_118 : decode cX12_classesOf 118 = .ok (.invokestatic 121, 3) := by decide +kernel
theorem dX12_classesOf_121 : decode cX12_classesOf 121 = .ok (.ior, 1) := by decide +kernel
theorem dX12_classesOf_122 : decode cX12_classesOf 122 = .ok (.iload_n 1, 1) := by decide +kernel
theorem dX12_classesOf_123 : decode cX12_classesOf 123 = .ok (.bipush 10, 2) := by decide +kernel
theorem dX12_classesOf_125 : decode cX12_classesOf 125 = .ok (.invokestatic 121, 3) := by decide +kernel
theorem dX12_classesOf_128 : decode cX12_classesOf 128 = .ok (.ior, 1) := by decide +kernel
theorem dX12_classesOf_129 : decode cX12_classesOf 129 = .ok (.ireturn, 1) := by decide +kernel
theorem dX12_classesOf_130 : decode cX12_classesOf 130 = .ok (.iload_n 2, 1) := by decide +kernel
theorem dX12_classesOf_131 : decode cX12_classesOf 131 = .ok (.iload_n 1, 1) := by decide +kernel
theorem dX12_classesOf_132 : decode cX12_classesOf 132 = .ok (.iconst 3, 1) := by decide +kernel
theorem dX12_classesOf_133 : decode cX12_classesOf 133 = .ok (.invokestatic 121, 3) := by decide +kernel
theorem dX12_classesOf_136 : decode cX12_classesOf 136 = .ok (.ior, 1) := by decide +kernel
theorem dX12_classesOf_137 : decode cX12_classesOf 137 = .ok (.iload_n 1, 1) := by decide +kernel
theorem dX12_classesOf_138 : decode cX12_classesOf 138 = .ok (.bipush 6, 2) := by decide +kernel
theorem dX12_classesOf_140 : decode cX12_classesOf 140 = .ok (.invokestatic 121, 3) := by decide +kernel
theorem dX12_classesOf_143 : decode cX12_classesOf 143 = .ok (.ior, 1) := by decide +kernel
theorem dX12_classesOf_144 : decode cX12_classesOf 144 = .ok (.ireturn, 1) := by decide +kernel
theorem dX12_classesOf_145 : decode cX12_classesOf 145 = .ok (.iload_n 2, 1) := by decide +kernel
theorem dX12_classesOf_146 : decode cX12_classesOf 146 = .ok (.iload_n 1, 1) := by decide +kernel
theorem dX12_classesOf_147 : decode cX12_classesOf 147 = .ok (.iconst 5, 1) := by decide +kernel
theorem dX12_classesOf_148 : decode cX12_classesOf 148 = .ok (.invokestatic 121, 3) := by decide +kernel
theorem dX12_classesOf_151 : decode cX12_classesOf 151 = .ok (.ior, 1) := by decide +kernel
theorem dX12_classesOf_152 : decode cX12_classesOf 152 = .ok (.iload_n 1, 1) := by decide +kernel
theorem dX12_classesOf_153 : decode cX12_classesOf 153 = .ok (.bipush 7, 2) := by decide +kernel
theorem dX12_classesOf_155 : decode cX12_classesOf 155 = .ok (.invokestatic 121, 3) := by decide +kernel
theorem dX12_classesOf_158 : decode cX12_classesOf 158 = .ok (.ior, 1) := by decide +kernel
theorem dX12_classesOf_159 : decode cX12_classesOf 159 = .ok (.ireturn, 1) := by decide +kernel
theorem dX12_classesOf_160 : decode cX12_classesOf 160 = .ok (.iload_n 2, 1) := by decide +kernel
theorem dX12_classesOf_161 : decode cX12_classesOf 161 = .ok (.iload_n 1, 1) := by decide +kernel
theorem dX12_classesOf_162 : decode cX12_classesOf 162 = .ok (.iconst 4, 1) := by decide +kernel
theorem dX12_classesOf_163 : decode cX12_classesOf 163 = .ok (.invokestatic 121, 3) := by decide +kernel
theorem dX12_classesOf_166 : decode cX12_classesOf 166 = .ok (.ior, 1) := by decide +kernel
theorem dX12_classesOf_167 : decode cX12_classesOf 167 = .ok (.iload_n 1, 1) := by decide +kernel
theorem dX12_classesOf_168 : decode cX12_classesOf 168 = .ok (.bipush 7, 2) := by decide +kernel
theorem dX12_classesOf_170 : decode cX12_classesOf 170 = .ok (.invokestatic 121, 3) := by decide +kernel
theorem dX12_classesOf_173 : decode cX12_classesOf 173 = .ok (.ior, 1) := by decide +kernel
theorem dX12_classesOf_174 : decode cX12_classesOf 174 = .ok (.iload_n 1, 1) := by decide +kernel
theorem dX12_classesOf_175 : decode cX12_classesOf 175 = .ok (.bipush 11, 2) := by decide +kernel
theorem dX12_classesOf_177 : decode cX12_classesOf 177 = .ok (.invokestatic 121, 3) := by decide +kernel
theorem dX12_classesOf_180 : decode cX12_classesOf 180 = .ok (.ior, 1) := by decide +kernel
theorem dX12_classesOf_181 : decode cX12_classesOf 181 = .ok (.ireturn, 1) := by decide +kernel
theorem dX12_classesOf_182 : decode cX12_classesOf 182 = .ok (.iload_n 2, 1) := by decide +kernel
theorem dX12_classesOf_183 : decode cX12_classesOf 183 = .ok (.iload_n 1, 1) := by decide +kernel
theorem dX12_classesOf_184 : decode cX12_classesOf 184 = .ok (.iconst 4, 1) := by decide +kernel
theorem dX12_classesOf_185 : decode cX12_classesOf 185 = .ok (.invokestatic 121, 3) := by decide +kernel
theorem dX12_classesOf_188 : decode cX12_classesOf 188 = .ok (.ior, 1) := by decide +kernel
theorem dX12_classesOf_189 : decode cX12_classesOf 189 = .ok (.iload_n 1, 1) := by decide +kernel
theorem dX12_classesOf_190 : decode cX12_classesOf 190 = .ok (.bipush 8, 2) := by decide +kernel
theorem dX12_classesOf_192 : decode cX12_classesOf 192 = .ok (.invokestatic 121, 3) := by decide +kernel
theorem dX12_classesOf_195 : decode cX12_classesOf 195 = .ok (.ior, 1) := by decide +kernel
theorem dX12_classesOf_196 : decode cX12_classesOf 196 = .ok (.ireturn, 1) := by decide +kernel
theorem dX12_isSeventh_0 : decode cX12_isSeventh 0 = .ok (.iload_n 0, 1) := by decide +kernel
theorem dX12_isSeventh_1 : decode cX12_isSeventh 1 = .ok (.bipush 12, 2) := by decide +kernel
theorem dX12_isSeventh_3 : decode cX12_isSeventh 3 = .ok (.idiv, 1) := by decide +kernel
theorem dX12_isSeventh_4 : decode cX12_isSeventh 4 = .ok (.istore_n 1, 1) := by decide +kernel
theorem dX12_isSeventh_5 : decode cX12_isSeventh 5 = .ok (.iload_n 1, 1) := by decide +kernel
theorem dX12_isSeventh_6 : decode cX12_isSeventh 6 = .ok (.iconst 2, 1) := by decide +kernel
theorem dX12_isSeventh_7 : decode cX12_isSeventh 7 = .ok (.if_icmp .eq 14, 3) := by decide +kernel
theorem dX12_isSeventh_10 : decode cX12_isSeventh 10 = .ok (.iload_n 1, 1) := by decide +kernel
theorem dX12_isSeventh_11 : decode cX12_isSeventh 11 = .ok (.iconst 3, 1) := by decide +kernel
theorem dX12_isSeventh_12 : decode cX12_isSeventh 12 = .ok (.if_icmp .eq 9, 3) := by decide +kernel
theorem dX12_isSeventh_15 : decode cX12_isSeventh 15 = .ok (.iload_n 1, 1) := by decide +kernel
theorem dX12_isSeventh_16 : decode cX12_isSeventh 16 = .ok (.bipush 6, 2) := by decide +kernel
theorem dX12_isSeventh_18 : decode cX12_isSeventh 18 = .ok (.if_icmp .ne 7, 3) := by decide +kernel
theorem dX12_isSeventh_21 : decode cX12_isSeventh 21 = .ok (.iconst 1, 1) := by decide +kernel
theorem dX12_isSeventh_22 : decode cX12_isSeventh 22 = .ok (.goto 4, 3) := by decide +kernel
theorem dX12_isSeventh_25 : decode cX12_isSeventh 25 = .ok (.iconst 0, 1) := by decide +kernel
theorem dX12_isSeventh_26 : decode cX12_isSeventh 26 = .ok (.ireturn, 1) := by decide +kernel
theorem dX12_newBar_0 : decode cX12_newBar 0 = .ok (.aload_n 0, 1) := by decide +kernel
theorem dX12_newBar_1 : decode cX12_newBar 1 = .ok (.getfield 17, 3) := by decide +kernel
theorem dX12_newBar_4 : decode cX12_newBar 4 = .ok (.aload_n 0, 1) := by decide +kernel
theorem dX12_newBar_5 : decode cX12_newBar 5 = .ok (.getfield 110, 3) := by decide +kernel
theorem dX12_newBar_8 : decode cX12_newBar 8 = .ok (.iload_n 1, 1) := by decide +kernel
theorem dX12_newBar_9 : decode cX12_newBar 9 = .ok (.iastore, 1) := by decide +kernel
theorem dX12_newBar_10 : decode cX12_newBar 10 = .ok (.aload_n 0, 1) := by decide +kernel
theorem dX12_newBar_11 : decode cX12_newBar 11 = .ok (.getfield 20, 3) := by decide +kernel
theorem dX12_newBar_14 : decode cX12_newBar 14 = .ok (.aload_n 0, 1) := by decide +kernel
theorem dX12_newBar_15 : decode cX12_newBar 15 = .ok (.getfield 110, 3) := by decide +kernel
theorem dX12_newBar_18 : decode cX12_newBar 18 = .ok (.iload_n 2, 1) := by decide +kernel
theorem dX12_newBar_19 : decode cX12_newBar 19 = .ok (.iastore, 1) := by decide +kernel
theorem dX12_newBar_20 : decode cX12_newBar 20 = .ok (.aload_n 0, 1) := by decide +kernel
theorem dX12_newBar_21 : decode cX12_newBar 21 = .ok (.getfield 23, 3) := by decide +kernel
theorem dX12_newBar_24 : decode cX12_newBar 24 = .ok (.aload_n 0, 1) := by decide +kernel
theorem dX12_newBar_25 : decode cX12_newBar 25 = .ok (.getfield 110, 3) := by decide +kernel
theorem dX12_newBar_28 : decode cX12_newBar 28 = .ok (.aload_n 0, 1) := by decide +kernel
theorem dX12_newBar_29 : decode cX12_newBar 29 = .ok (.getfield 110, 3) := by decide +kernel
theorem dX12_newBar_32 : decode cX12_newBar 32 = .ok (.iastore, 1) := by decide +kernel
theorem dX12_newBar_33 : decode cX12_newBar 33 = .ok (.iconst 0, 1) := by decide +kernel
theorem dX12_newBar_34 : decode cX12_newBar 34 = .ok (.istore_n 3, 1) := by decide +kernel
theorem dX12_newBar_35 : decode cX12_newBar 35 = .ok (.iload_n 3, 1) := by decide +kernel
theorem dX12_newBar_36 : decode cX12_newBar 36 = .ok (.bipush 36, 2) := by decide +kernel
theorem dX12_newBar_38 : decode cX12_newBar 38 = .ok (.if_icmp .ge 24, 3) := by decide +kernel
theorem dX12_newBar_41 : decode cX12_newBar 41 = .ok (.aload_n 0, 1) := by decide +kernel
theorem dX12_newBar_42 : decode cX12_newBar 42 = .ok (.getfield 26, 3) := by decide +kernel
theorem dX12_newBar_45 : decode cX12_newBar 45 = .ok (.bipush 36, 2) := by decide +kernel
theorem dX12_newBar_47 : decode cX12_newBar 47 = .ok (.aload_n 0, 1) := by decide +kernel
theorem dX12_newBar_48 : decode cX12_newBar 48 = .ok (.getfield 110, 3) := by decide +kernel
theorem dX12_newBar_51 : decode cX12_newBar 51 = .ok (.imul, 1) := by decide +kernel
theorem dX12_newBar_52 : decode cX12_newBar 52 = .ok (.iload_n 3, 1) := by decide +kernel
theorem dX12_newBar_53 : decode cX12_newBar 53 = .ok (.iadd, 1) := by decide +kernel
theorem dX12_newBar_54 : decode cX12_newBar 54 = .ok (.iconst 0, 1) := by decide +kernel
theorem dX12_newBar_55 : decode cX12_newBar 55 = .ok (.iastore, 1) := by decide +kernel
theorem dX12_newBar_56 : decode cX12_newBar 56 = .ok (.iinc 3 1, 3) := by decide +kernel
theorem dX12_newBar_59 : decode cX12_newBar 59 = .ok (.goto (-24), 3) := by decide +kernel
theorem dX12_newBar_62 : decode cX12_newBar 62 = .ok (.aload_n 0, 1) := by decide +kernel
theorem dX12_newBar_63 : decode cX12_newBar 63 = .ok (.dup, 1) := by decide +kernel
theorem dX12_newBar_64 : decode cX12_newBar 64 = .ok (.getfield 110, 3) := by decide +kernel
theorem dX12_newBar_67 : decode cX12_newBar 67 = .ok (.iconst 1, 1) := by decide +kernel
theorem dX12_newBar_68 : decode cX12_newBar 68 = .ok (.iadd, 1) := by decide +kernel
theorem dX12_newBar_69 : decode cX12_newBar 69 = .ok (.putfield 110, 3) := by decide +kernel
theorem dX12_newBar_72 : decode cX12_newBar 72 = .ok (.aload_n 0, 1) := by decide +kernel
theorem dX12_newBar_73 : decode cX12_newBar 73 = .ok (.getfield 110, 3) := by decide +kernel
theorem dX12_newBar_76 : decode cX12_newBar 76 = .ok (.iconst 1, 1) := by decide +kernel
theorem dX12_newBar_77 : decode cX12_newBar 77 = .ok (.isub, 1) := by decide +kernel
theorem dX12_newBar_78 : decode cX12_newBar 78 = .ok (.ireturn, 1) := by decide +kernel
theorem dX12_hushes_0 : decode cX12_hushes 0 = .ok (.aload_n 0, 1) := by decide +kernel
theorem dX12_hushes_1 : decode cX12_hushes 1 = .ok (.getfield 13, 3) := by decide +kernel
theorem dX12_hushes_4 : decode cX12_hushes 4 = .ok (.iload_n 2, 1) := by decide +kernel
theorem dX12_hushes_5 : decode cX12_hushes 5 = .ok (.baload, 1) := by decide +kernel
theorem dX12_hushes_6 : decode cX12_hushes 6 = .ok (.ifCond .ne 22, 3) := by decide +kernel
theorem dX12_hushes_9 : decode cX12_hushes 9 = .ok (.iload_n 1, 1) := by decide +kernel
theorem dX12_hushes_10 : decode cX12_hushes 10 = .ok (.invokestatic 125, 3) := by decide +kernel
theorem dX12_hushes_13 : decode cX12_hushes 13 = .ok (.aload_n 0, 1) := by decide +kernel
theorem dX12_hushes_14 : decode cX12_hushes 14 = .ok (.iload_n 2, 1) := by decide +kernel
theorem dX12_hushes_15 : decode cX12_hushes 15 = .ok (.invokevirtual 129, 3) := by decide +kernel
theorem dX12_hushes_18 : decode cX12_hushes 18 = .ok (.ishr, 1) := by decide +kernel
theorem dX12_hushes_19 : decode cX12_hushes 19 = .ok (.iconst 1, 1) := by decide +kernel
theorem dX12_hushes_20 : decode cX12_hushes 20 = .ok (.iand, 1) := by decide +kernel
theorem dX12_hushes_21 : decode cX12_hushes 21 = .ok (.ifCond .ne 7, 3) := by decide +kernel
theorem dX12_hushes_24 : decode cX12_hushes 24 = .ok (.iconst 1, 1) := by decide +kernel
theorem dX12_hushes_25 : decode cX12_hushes 25 = .ok (.goto 4, 3) := by decide +kernel
theorem dX12_hushes_28 : decode cX12_hushes 28 = .ok (.iconst 0, 1) := by decide +kernel
theorem dX12_hushes_29 : decode cX12_hushes 29 = .ok (.ireturn, 1) := by decide +kernel
theorem dX12_cutFor_0 : decode cX12_cutFor 0 = .ok (.aload_n 0, 1) := by decide +kernel
theorem dX12_cutFor_1 : decode cX12_cutFor 1 = .ok (.iload_n 1, 1) := by decide +kernel
theorem dX12_cutFor_2 : decode cX12_cutFor 2 = .ok (.invokestatic 132, 3) := by decide +kernel
theorem dX12_cutFor_5 : decode cX12_cutFor 5 = .ok (.ifCond .eq 7, 3) := by decide +kernel
theorem dX12_cutFor_8 : decode cX12_cutFor 8 = .ok (.iconst 2, 1) := by decide +kernel
theorem dX12_cutFor_9 : decode cX12_cutFor 9 = .ok (.goto 4, 3) := by decide +kernel
theorem dX12_cutFor_12 : decode cX12_cutFor 12 = .ok (.iconst 1, 1) := by decide +kernel
theorem dX12_cutFor_13 : decode cX12_cutFor 13 = .ok (.iload_n 1, 1) := by decide +kernel
theorem dX12_cutFor_14 : decode cX12_cutFor 14 = .ok (.invokevirtual 135, 3) := by decide +kernel
theorem dX12_cutFor_17 : decode cX12_cutFor 17 = .ok (.istore_n 2, 1) := by decide +kernel
theorem dX12_cutFor_18 : decode cX12_cutFor 18 = .ok (.iconst 0, 1) := by decide +kernel
theorem dX12_cutFor_19 : decode cX12_cutFor 19 = .ok (.istore_n 3, 1) := by decide +kernel
theorem dX12_cutFor_20 : decode cX12_cutFor 20 = .ok (.iload_n 3, 1) := by decide +kernel
theorem dX12_cutFor_21 : decode cX12_cutFor 21 = .ok (.aload_n 0, 1) := by decide +kernel
theorem dX12_cutFor_22 : decode cX12_cutFor 22 = .ok (.getfield 107, 3) := by decide +kernel
theorem dX12_cutFor_25 : decode cX12_cutFor 25 = .ok (.if_icmp .ge 34, 3) := by decide +kernel
theorem dX12_cutFor_28 : decode cX12_cutFor 28 = .ok (.aload_n 0, 1) := by decide +kernel
theorem dX12_cutFor_29 : decode cX12_cutFor 29 = .ok (.getfield 26, 3) := by decide +kernel
theorem dX12_cutFor_32 : decode cX12_cutFor 32 = .ok (.bipush 36, 2) := by decide +kernel
theorem dX12_cutFor_34 : decode cX12_cutFor 34 = .ok (.iload_n 2, 1) := by decide +kernel
theorem dX12_cutFor_35 : decode cX12_cutFor 35 = .ok (.imul, 1) := by decide +kernel
theorem dX12_cutFor_36 : decode cX12_cutFor 36 = .ok (.iload_n 3, 1) := by decide +kernel
theorem dX12_cutFor_37 : decode cX12_cutFor 37 = .ok (.iadd, 1) := by decide +kernel
theorem dX12_cutFor_38 : decode cX12_cutFor 38 = .ok (.aload_n 0, 1) := by decide +kernel
theorem dX12_cutFor_39 : decode cX12_cutFor 39 = .ok (.iload_n 1, 1) := by decide +kernel
theorem dX12_cutFor_40 : decode cX12_cutFor 40 = .ok (.iload_n 3, 1) := by decide +kernel
theorem dX12_cutFor_41 : decode cX12_cutFor 41 = .ok (.invokevirtual 138, 3) := by decide +kernel
theorem dX12_cutFor_44 : decode cX12_cutFor 44 = .ok (.ifCond .eq 7, 3) := by decide +kernel
theorem dX12_cutFor_47 : decode cX12_cutFor 47 = .ok (.iconst 2, 1) := by decide +kernel
theorem dX12_cutFor_48 : decode cX12_cutFor 48 = .ok (.goto 4, 3) := by decide +kernel
theorem dX12_cutFor_51 : decode cX12_cutFor 51 = .ok (.iconst 0, 1) := by decide +kernel
theorem dX12_cutFor_52 : decode cX12_cutFor 52 = .ok (.iastore, 1) := by decide +kernel
theorem dX12_cutFor_53 : decode cX12_cutFor 53 = .ok (.iinc 3 1, 3) := by decide +kernel
theorem dX12_cutFor_56 : decode cX12_cutFor 56 = .ok (.goto (-36), 3) := by decide +kernel
theorem dX12_cutFor_59 : decode cX12_cutFor 59 = .ok (.iload_n 2, 1) := by decide +kernel
theorem dX12_cutFor_60 : decode cX12_cutFor 60 = .ok (.ireturn, 1) := by decide +kernel
theorem dX12_bar_0 : decode cX12_bar 0 = .ok (.iload_n 1, 1) := by decide +kernel
theorem dX12_bar_1 : decode cX12_bar 1 = .ok (.invokestatic 142, 3) := by decide +kernel
theorem dX12_bar_4 : decode cX12_bar 4 = .ok (.ifCond .ne 6, 3) := by decide +kernel
theorem dX12_bar_7 : decode cX12_bar 7 = .ok (.bipush (-2), 2) := by decide +kernel
theorem dX12_bar_9 : decode cX12_bar 9 = .ok (.ireturn, 1) := by decide +kernel
theorem dX12_bar_10 : decode cX12_bar 10 = .ok (.aload_n 0, 1) := by decide +kernel
theorem dX12_bar_11 : decode cX12_bar 11 = .ok (.getfield 110, 3) := by decide +kernel
theorem dX12_bar_14 : decode cX12_bar 14 = .ok (.bipush 12, 2) := by decide +kernel
theorem dX12_bar_16 : decode cX12_bar 16 = .ok (.if_icmp .ne 8, 3) := by decide +kernel
theorem dX12_bar_19 : decode cX12_bar 19 = .ok (.bipush (-4), 2) := by decide +kernel
theorem dX12_bar_21 : decode cX12_bar 21 = .ok (.goto 8, 3) := by decide +kernel
theorem dX12_bar_24 : decode cX12_bar 24 = .ok (.aload_n 0, 1) := by decide +kernel
theorem dX12_bar_25 : decode cX12_bar 25 = .ok (.iload_n 1, 1) := by decide +kernel
theorem dX12_bar_26 : decode cX12_bar 26 = .ok (.invokevirtual 145, 3) := by decide +kernel
theorem dX12_bar_29 : decode cX12_bar 29 = .ok (.ireturn, 1) := by decide +kernel
theorem dX12_blank_0 : decode cX12_blank 0 = .ok (.aload_n 0, 1) := by decide +kernel
theorem dX12_blank_1 : decode cX12_blank 1 = .ok (.getfield 110, 3) := by decide +kernel
theorem dX12_blank_4 : decode cX12_blank 4 = .ok (.bipush 12, 2) := by decide +kernel
theorem dX12_blank_6 : decode cX12_blank 6 = .ok (.if_icmp .ne 8, 3) := by decide +kernel
theorem dX12_blank_9 : decode cX12_blank 9 = .ok (.bipush (-4), 2) := by decide +kernel
theorem dX12_blank_11 : decode cX12_blank 11 = .ok (.goto 10, 3) := by decide +kernel
theorem dX12_blank_14 : decode cX12_blank 14 = .ok (.aload_n 0, 1) := by decide +kernel
theorem dX12_blank_15 : decode cX12_blank 15 = .ok (.iconst 0, 1) := by decide +kernel
theorem dX12_blank_16 : decode cX12_blank 16 = .ok (.bipush (-9), 2) := by decide +kernel
theorem dX12_blank_18 : decode cX12_blank 18 = .ok (.invokevirtual 135, 3) := by decide +kernel
theorem dX12_blank_21 : decode cX12_blank 21 = .ok (.ireturn, 1) := by decide +kernel
theorem dX12_felt_0 : decode cX12_felt 0 = .ok (.aload_n 0, 1) := by decide +kernel
theorem dX12_felt_1 : decode cX12_felt 1 = .ok (.iload_n 1, 1) := by decide +kernel
theorem dX12_felt_2 : decode cX12_felt 2 = .ok (.invokevirtual 148, 3) := by decide +kernel
theorem dX12_felt_5 : decode cX12_felt 5 = .ok (.ifCond .eq 11, 3) := by decide +kernel
theorem dX12_felt_8 : decode cX12_felt 8 = .ok (.aload_n 0, 1) := by decide +kernel
theorem dX12_felt_9 : decode cX12_felt 9 = .ok (.iload_n 2, 1) := by decide +kernel
theorem dX12_felt_10 : decode cX12_felt 10 = .ok (.invokevirtual 117, 3) := by decide +kernel
theorem dX12_felt_13 : decode cX12_felt 13 = .ok (.ifCond .ne 5, 3) := by decide +kernel
theorem dX12_felt_16 : decode cX12_felt 16 = .ok (.iconst (-1), 1) := by decide +kernel
theorem dX12_felt_17 : decode cX12_felt 17 = .ok (.ireturn, 1) := by decide +kernel
theorem dX12_felt_18 : decode cX12_felt 18 = .ok (.aload_n 0, 1) := by decide +kernel
theorem dX12_felt_19 : decode cX12_felt 19 = .ok (.getfield 13, 3) := by decide +kernel
theorem dX12_felt_22 : decode cX12_felt 22 = .ok (.iload_n 2, 1) := by decide +kernel
theorem dX12_felt_23 : decode cX12_felt 23 = .ok (.baload, 1) := by decide +kernel
theorem dX12_felt_24 : decode cX12_felt 24 = .ok (.ifCond .eq 6, 3) := by decide +kernel
theorem dX12_felt_27 : decode cX12_felt 27 = .ok (.bipush (-3), 2) := by decide +kernel
theorem dX12_felt_29 : decode cX12_felt 29 = .ok (.ireturn, 1) := by decide +kernel
theorem dX12_felt_30 : decode cX12_felt 30 = .ok (.aload_n 0, 1) := by decide +kernel
theorem dX12_felt_31 : decode cX12_felt 31 = .ok (.getfield 26, 3) := by decide +kernel
theorem dX12_felt_34 : decode cX12_felt 34 = .ok (.bipush 36, 2) := by decide +kernel
theorem dX12_felt_36 : decode cX12_felt 36 = .ok (.iload_n 1, 1) := by decide +kernel
theorem dX12_felt_37 : decode cX12_felt 37 = .ok (.imul, 1) := by decide +kernel
theorem dX12_felt_38 : decode cX12_felt 38 = .ok (.iload_n 2, 1) := by decide +kernel
theorem dX12_felt_39 : decode cX12_felt 39 = .ok (.iadd, 1) := by decide +kernel
theorem dX12_felt_40 : decode cX12_felt 40 = .ok (.iaload, 1) := by decide +kernel
theorem dX12_felt_41 : decode cX12_felt 41 = .ok (.ifCond .le 7, 3) := by decide +kernel
theorem dX12_felt_44 : decode cX12_felt 44 = .ok (.iconst 1, 1) := by decide +kernel
theorem dX12_felt_45 : decode cX12_felt 45 = .ok (.goto 4, 3) := by decide +kernel
theorem dX12_felt_48 : decode cX12_felt 48 = .ok (.iconst 0, 1) := by decide +kernel
theorem dX12_felt_49 : decode cX12_felt 49 = .ok (.istore 4, 2) := by decide +kernel
theorem dX12_felt_51 : decode cX12_felt 51 = .ok (.iload 4, 2) := by decide +kernel
theorem dX12_felt_53 : decode cX12_felt 53 = .ok (.iload_n 3, 1) := by decide +kernel
theorem dX12_felt_54 : decode cX12_felt 54 = .ok (.if_icmp .ne 5, 3) := by decide +kernel
theorem dX12_felt_57 : decode cX12_felt 57 = .ok (.iconst 0, 1) := by decide +kernel
theorem dX12_felt_58 : decode cX12_felt 58 = .ok (.ireturn, 1) := by decide +kernel
theorem dX12_felt_59 : decode cX12_felt 59 = .ok (.aload_n 0, 1) := by decide +kernel
theorem dX12_felt_60 : decode cX12_felt 60 = .ok (.getfield 26, 3) := by decide +kernel
theorem dX12_felt_63 : decode cX12_felt 63 = .ok (.bipush 36, 2) := by decide +kernel
theorem dX12_felt_65 : decode cX12_felt 65 = .ok (.iload_n 1, 1) := by decide +kernel
theorem dX12_felt_66 : decode cX12_felt 66 = .ok (.imul, 1) := by decide +kernel
theorem dX12_felt_67 : decode cX12_felt 67 = .ok (.iload_n 2, 1) := by decide +kernel
theorem dX12_felt_68 : decode cX12_felt 68 = .ok (.iadd, 1) := by decide +kernel
theorem dX12_felt_69 : decode cX12_felt 69 = .ok (.iload_n 3, 1) := by decide +kernel
theorem dX12_felt_70 : decode cX12_felt 70 = .ok (.ifCond .eq 7, 3) := by decide +kernel
theorem dX12_felt_73 : decode cX12_felt 73 = .ok (.iconst 2, 1) := by decide +kernel
theorem dX12_felt_74 : decode cX12_felt 74 = .ok (.goto 4, 3) := by decide +kernel
theorem dX12_felt_77 : decode cX12_felt 77 = .ok (.iconst 0, 1) := by decide +kernel
theorem dX12_felt_78 : decode cX12_felt 78 = .ok (.iastore, 1) := by decide +kernel
theorem dX12_felt_79 : decode cX12_felt 79 = .ok (.iconst 1, 1) := by decide +kernel
theorem dX12_felt_80 : decode cX12_felt 80 = .ok (.ireturn, 1) := by decide +kernel
theorem dX12_wear_0 : decode cX12_wear 0 = .ok (.aload_n 0, 1) := by decide +kernel
theorem dX12_wear_1 : decode cX12_wear 1 = .ok (.iload_n 1, 1) := by decide +kernel
theorem dX12_wear_2 : decode cX12_wear 2 = .ok (.invokevirtual 148, 3) := by decide +kernel
theorem dX12_wear_5 : decode cX12_wear 5 = .ok (.ifCond .eq 25, 3) := by decide +kernel
theorem dX12_wear_8 : decode cX12_wear 8 = .ok (.aload_n 0, 1) := by decide +kernel
theorem dX12_wear_9 : decode cX12_wear 9 = .ok (.iload_n 2, 1) := by decide +kernel
theorem dX12_wear_10 : decode cX12_wear 10 = .ok (.invokevirtual 117, 3) := by decide +kernel
theorem dX12_wear_13 : decode cX12_wear 13 = .ok (.ifCond .eq 17, 3) := by decide +kernel
theorem dX12_wear_16 : decode cX12_wear 16 = .ok (.aload_n 0, 1) := by decide +kernel
theorem dX12_wear_17 : decode cX12_wear 17 = .ok (.getfield 26, 3) := by decide +kernel
theorem dX12_wear_20 : decode cX12_wear 20 = .ok (.bipush 36, 2) := by decide +kernel
theorem dX12_wear_22 : decode cX12_wear 22 = .ok (.iload_n 1, 1) := by decide +kernel
theorem dX12_wear_23 : decode cX12_wear 23 = .ok (.imul, 1) := by decide +kernel
theorem dX12_wear_24 : decode cX12_wear 24 = .ok (.iload_n 2, 1) := by decide +kernel
theorem dX12_wear_25 : decode cX12_wear 25 = .ok (.iadd, 1) := by decide +kernel
theorem dX12_wear_26 : decode cX12_wear 26 = .ok (.iaload, 1) := by decide +kernel
theorem dX12_wear_27 : decode cX12_wear 27 = .ok (.ifCond .ne 5, 3) := by decide +kernel
theorem dX12_wear_30 : decode cX12_wear 30 = .ok (.iconst (-1), 1) := by decide +kernel
theorem dX12_wear_31 : decode cX12_wear 31 = .ok (.ireturn, 1) := by decide +kernel
theorem dX12_wear_32 : decode cX12_wear 32 = .ok (.iload_n 3, 1) := by decide +kernel
theorem dX12_wear_33 : decode cX12_wear 33 = .ok (.ifCond .eq 7, 3) := by decide +kernel
theorem dX12_wear_36 : decode cX12_wear 36 = .ok (.iconst 1, 1) := by decide +kernel
theorem dX12_wear_37 : decode cX12_wear 37 = .ok (.goto 4, 3) := by decide +kernel
theorem dX12_wear_40 : decode cX12_wear 40 = .ok (.iconst 2, 1) := by decide +kernel
theorem dX12_wear_41 : decode cX12_wear 41 = .ok (.istore 4, 2) := by decide +kernel
theorem dX12_wear_43 : decode cX12_wear 43 = .ok (.aload_n 0, 1) := by decide +kernel
theorem dX12_wear_44 : decode cX12_wear 44 = .ok (.getfield 26, 3) := by decide +kernel
theorem dX12_wear_47 : decode cX12_wear 47 = .ok (.bipush 36, 2) := by decide +kernel
theorem dX12_wear_49 : decode cX12_wear 49 = .ok (.iload_n 1, 1) := by decide +kernel
theorem dX12_wear_50 : decode cX12_wear 50 = .ok (.imul, 1) := by decide +kernel
theorem dX12_wear_51 : decode cX12_wear 51 = .ok (.iload_n 2, 1) := by decide +kernel
theorem dX12_wear_52 : decode cX12_wear 52 = .ok (.iadd, 1) := by decide +kernel
theorem dX12_wear_53 : decode cX12_wear 53 = .ok (.iaload, 1) := by decide +kernel
theorem dX12_wear_54 : decode cX12_wear 54 = .ok (.iload 4, 2) := by decide +kernel
theorem dX12_wear_56 : decode cX12_wear 56 = .ok (.if_icmp .ne 7, 3) := by decide +kernel
theorem dX12_wear_59 : decode cX12_wear 59 = .ok (.iconst 0, 1) := by decide +kernel
theorem dX12_wear_60 : decode cX12_wear 60 = .ok (.goto 4, 3) := by decide +kernel
theorem dX12_wear_63 : decode cX12_wear 63 = .ok (.iconst 1, 1) := by decide +kernel
theorem dX12_wear_64 : decode cX12_wear 64 = .ok (.istore 5, 2) := by decide +kernel
theorem dX12_wear_66 : decode cX12_wear 66 = .ok (.aload_n 0, 1) := by decide +kernel
theorem dX12_wear_67 : decode cX12_wear 67 = .ok (.getfield 26, 3) := by decide +kernel
theorem dX12_wear_70 : decode cX12_wear 70 = .ok (.bipush 36, 2) := by decide +kernel
theorem dX12_wear_72 : decode cX12_wear 72 = .ok (.iload_n 1, 1) := by decide +kernel
theorem dX12_wear_73 : decode cX12_wear 73 = .ok (.imul, 1) := by decide +kernel
theorem dX12_wear_74 : decode cX12_wear 74 = .ok (.iload_n 2, 1) := by decide +kernel
theorem dX12_wear_75 : decode cX12_wear 75 = .ok (.iadd, 1) := by decide +kernel
theorem dX12_wear_76 : decode cX12_wear 76 = .ok (.iload 4, 2) := by decide +kernel
theorem dX12_wear_78 : decode cX12_wear 78 = .ok (.iastore, 1) := by decide +kernel
theorem dX12_wear_79 : decode cX12_wear 79 = .ok (.iload 5, 2) := by decide +kernel
theorem dX12_wear_81 : decode cX12_wear 81 = .ok (.ireturn, 1) := by decide +kernel
theorem dX12_ofString_0 : decode cX12_ofString 0 = .ok (.aload_n 0, 1) := by decide +kernel
theorem dX12_ofString_1 : decode cX12_ofString 1 = .ok (.iload_n 1, 1) := by decide +kernel
theorem dX12_ofString_2 : decode cX12_ofString 2 = .ok (.invokevirtual 117, 3) := by decide +kernel
theorem dX12_ofString_5 : decode cX12_ofString 5 = .ok (.ifCond .ne 5, 3) := by decide +kernel
theorem dX12_ofString_8 : decode cX12_ofString 8 = .ok (.iconst (-1), 1) := by decide +kernel
theorem dX12_ofString_9 : decode cX12_ofString 9 = .ok (.ireturn, 1) := by decide +kernel
theorem dX12_ofString_10 : decode cX12_ofString 10 = .ok (.iload_n 2, 1) := by decide +kernel
theorem dX12_ofString_11 : decode cX12_ofString 11 = .ok (.tableswitch 103 0 3 #[29, 36, 51, 57], 29) := by decide +kernel
theorem dX12_ofString_40 : decode cX12_ofString 40 = .ok (.aload_n 0, 1) := by decide +kernel
theorem dX12_ofString_41 : decode cX12_ofString 41 = .ok (.getfield 7, 3) := by decide +kernel
theorem dX12_ofString_44 : decode cX12_ofString 44 = .ok (.iload_n 1, 1) := by decide +kernel
theorem dX12_ofString_45 : decode cX12_ofString 45 = .ok (.iaload, 1) := by decide +kernel
theorem dX12_ofString_46 : decode cX12_ofString 46 = .ok (.ireturn, 1) := by decide +kernel
theorem dX12_ofString_47 : decode cX12_ofString 47 = .ok (.aload_n 0, 1) := by decide +kernel
theorem dX12_ofString_48 : decode cX12_ofString 48 = .ok (.getfield 13, 3) := by decide +kernel
theorem dX12_ofString_51 : decode cX12_ofString 51 = .ok (.iload_n 1, 1) := by decide +kernel
theorem dX12_ofString_52 : decode cX12_ofString 52 = .ok (.baload, 1) := by decide +kernel
theorem dX12_ofString_53 : decode cX12_ofString 53 = .ok (.ifCond .eq 7, 3) := by decide +kernel
theorem dX12_ofString_56 : decode cX12_ofString 56 = .ok (.iconst 1, 1) := by decide +kernel
theorem dX12_ofString_57 : decode cX12_ofString 57 = .ok (.goto 4, 3) := by decide +kernel
theorem dX12_ofString_60 : decode cX12_ofString 60 = .ok (.iconst 0, 1) := by decide +kernel
theorem dX12_ofString_61 : decode cX12_ofString 61 = .ok (.ireturn, 1) := by decide +kernel
theorem dX12_ofString_62 : decode cX12_ofString 62 = .ok (.aload_n 0, 1) := by decide +kernel
theorem dX12_ofString_63 : decode cX12_ofString 63 = .ok (.iload_n 1, 1) := by decide +kernel
theorem dX12_ofString_64 : decode cX12_ofString 64 = .ok (.invokevirtual 129, 3) := by decide +kernel
theorem dX12_ofString_67 : decode cX12_ofString 67 = .ok (.ireturn, 1) := by decide +kernel
theorem dX12_ofString_68 : decode cX12_ofString 68 = .ok (.iconst 0, 1) := by decide +kernel
theorem dX12_ofString_69 : decode cX12_ofString 69 = .ok (.istore_n 3, 1) := by decide +kernel
theorem dX12_ofString_70 : decode cX12_ofString 70 = .ok (.iconst 0, 1) := by decide +kernel
theorem dX12_ofString_71 : decode cX12_ofString 71 = .ok (.istore 4, 2) := by decide +kernel
theorem dX12_ofString_73 : decode cX12_ofString 73 = .ok (.iload 4, 2) := by decide +kernel
theorem dX12_ofString_75 : decode cX12_ofString 75 = .ok (.aload_n 0, 1) := by decide +kernel
theorem dX12_ofString_76 : decode cX12_ofString 76 = .ok (.getfield 110, 3) := by decide +kernel
theorem dX12_ofString_79 : decode cX12_ofString 79 = .ok (.if_icmp .ge 33, 3) := by decide +kernel
theorem dX12_ofString_82 : decode cX12_ofString 82 = .ok (.iload_n 3, 1) := by decide +kernel
theorem dX12_ofString_83 : decode cX12_ofString 83 = .ok (.aload_n 0, 1) := by decide +kernel
theorem dX12_ofString_84 : decode cX12_ofString 84 = .ok (.getfield 26, 3) := by decide +kernel
theorem dX12_ofString_87 : decode cX12_ofString 87 = .ok (.bipush 36, 2) := by decide +kernel
theorem dX12_ofString_89 : decode cX12_ofString 89 = .ok (.iload 4, 2) := by decide +kernel
theorem dX12_ofString_91 : decode cX12_ofString 91 = .ok (.imul, 1) := by decide +kernel
theorem dX12_ofString_92 : decode cX12_ofString 92 = .ok (.iload_n 1, 1) := by decide +kernel
theorem dX12_ofString_93 : decode cX12_ofString 93 = .ok (.iadd, 1) := by decide +kernel
theorem dX12_ofString_94 : decode cX12_ofString 94 = .ok (.iaload, 1) := by decide +kernel
theorem dX12_ofString_95 : decode cX12_ofString 95 = .ok (.iconst 2, 1) := by decide +kernel
theorem dX12_ofString_96 : decode cX12_ofString 96 = .ok (.if_icmp .ne 7, 3) := by decide +kernel
theorem dX12_ofString_99 : decode cX12_ofString 99 = .ok (.iconst 1, 1) := by decide +kernel
theorem dX12_ofString_100 : decode cX12_ofString 100 = .ok (.goto 4, 3) := by decide +kernel
theorem dX12_ofString_103 : decode cX12_ofString 103 = .ok (.iconst 0, 1) := by decide +kernel
theorem dX12_ofString_104 : decode cX12_ofString 104 = .ok (.iadd, 1) := by decide +kernel
theorem dX12_ofString_105 : decode cX12_ofString 105 = .ok (.istore_n 3, 1) := by decide +kernel
theorem dX12_ofString_106 : decode cX12_ofString 106 = .ok (.iinc 4 1, 3) := by decide +kernel
theorem dX12_ofString_109 : decode cX12_ofString 109 = .ok (.goto (-36), 3) := by decide +kernel
theorem dX12_ofString_112 : decode cX12_ofString 112 = .ok (.iload_n 3, 1) := by decide +kernel
theorem dX12_ofString_113 : decode cX12_ofString 113 = .ok (.ireturn, 1) := by decide +kernel
theorem dX12_ofString_114 : decode cX12_ofString 114 = .ok (.bipush (-2), 2) := by decide +kernel
theorem dX12_ofString_116 : decode cX12_ofString 116 = .ok (.ireturn, 1) := by decide +kernel
theorem dX12_feltsOf_0 : decode cX12_feltsOf 0 = .ok (.iconst 0, 1) := by decide +kernel
theorem dX12_feltsOf_1 : decode cX12_feltsOf 1 = .ok (.istore_n 3, 1) := by decide +kernel
theorem dX12_feltsOf_2 : decode cX12_feltsOf 2 = .ok (.iconst 0, 1) := by decide +kernel
theorem dX12_feltsOf_3 : decode cX12_feltsOf 3 = .ok (.istore 4, 2) := by decide +kernel
theorem dX12_feltsOf_5 : decode cX12_feltsOf 5 = .ok (.iload 4, 2) := by decide +kernel
theorem dX12_feltsOf_7 : decode cX12_feltsOf 7 = .ok (.aload_n 0, 1) := by decide +kernel
theorem dX12_feltsOf_8 : decode cX12_feltsOf 8 = .ok (.getfield 107, 3) := by decide +kernel
theorem dX12_feltsOf_11 : decode cX12_feltsOf 11 = .ok (.if_icmp .ge 42, 3) := by decide +kernel
theorem dX12_feltsOf_14 : decode cX12_feltsOf 14 = .ok (.aload_n 0, 1) := by decide +kernel
theorem dX12_feltsOf_15 : decode cX12_feltsOf 15 = .ok (.getfield 26, 3) := by decide +kernel
theorem dX12_feltsOf_18 : decode cX12_feltsOf 18 = .ok (.bipush 36, 2) := by decide +kernel
theorem dX12_feltsOf_20 : decode cX12_feltsOf 20 = .ok (.iload_n 1, 1) := by decide +kernel
theorem dX12_feltsOf_21 : decode cX12_feltsOf 21 = .ok (.imul, 1) := by decide +kernel
theorem dX12_feltsOf_22 : decode cX12_feltsOf 22 = .ok (.iload 4, 2) := by decide +kernel
theorem dX12_feltsOf_24 : decode cX12_feltsOf 24 = .ok (.iadd, 1) := by decide +kernel
theorem dX12_feltsOf_25 : decode cX12_feltsOf 25 = .ok (.iaload, 1) := by decide +kernel
theorem dX12_feltsOf_26 : decode cX12_feltsOf 26 = .ok (.istore 5, 2) := by decide +kernel
theorem dX12_feltsOf_28 : decode cX12_feltsOf 28 = .ok (.iload_n 3, 1) := by decide +kernel
theorem dX12_feltsOf_29 : decode cX12_feltsOf 29 = .ok (.iload 5, 2) := by decide +kernel
theorem dX12_feltsOf_31 : decode cX12_feltsOf 31 = .ok (.ifCond .le 13, 3) := by decide +kernel
theorem dX12_feltsOf_34 : decode cX12_feltsOf 34 = .ok (.iload 5, 2) := by decide +kernel
theorem dX12_feltsOf_36 : decode cX12_feltsOf 36 = .ok (.iload_n 2, 1) := by decide +kernel
theorem dX12_feltsOf_37 : decode cX12_feltsOf 37 = .ok (.if_icmp .gt 7, 3) := by decide +kernel
theorem dX12_feltsOf_40 : decode cX12_feltsOf 40 = .ok (.iconst 1, 1) := by decide +kernel
theorem dX12_feltsOf_41 : decode cX12_feltsOf 41 = .ok (.goto 4, 3) := by decide +kernel
theorem dX12_feltsOf_44 : decode cX12_feltsOf 44 = .ok (.iconst 0, 1) := by decide +kernel
theorem dX12_feltsOf_45 : decode cX12_feltsOf 45 = .ok (.iadd, 1) := by decide +kernel
theorem dX12_feltsOf_46 : decode cX12_feltsOf 46 = .ok (.istore_n 3, 1) := by decide +kernel
theorem dX12_feltsOf_47 : decode cX12_feltsOf 47 = .ok (.iinc 4 1, 3) := by decide +kernel
theorem dX12_feltsOf_50 : decode cX12_feltsOf 50 = .ok (.goto (-45), 3) := by decide +kernel
theorem dX12_feltsOf_53 : decode cX12_feltsOf 53 = .ok (.iload_n 3, 1) := by decide +kernel
theorem dX12_feltsOf_54 : decode cX12_feltsOf 54 = .ok (.ireturn, 1) := by decide +kernel
theorem dX12_ofBar_0 : decode cX12_ofBar 0 = .ok (.aload_n 0, 1) := by decide +kernel
theorem dX12_ofBar_1 : decode cX12_ofBar 1 = .ok (.iload_n 1, 1) := by decide +kernel
theorem dX12_ofBar_2 : decode cX12_ofBar 2 = .ok (.invokevirtual 148, 3) := by decide +kernel
theorem dX12_ofBar_5 : decode cX12_ofBar 5 = .ok (.ifCond .ne 5, 3) := by decide +kernel
theorem dX12_ofBar_8 : decode cX12_ofBar 8 = .ok (.iconst (-1), 1) := by decide +kernel
theorem dX12_ofBar_9 : decode cX12_ofBar 9 = .ok (.ireturn, 1) := by decide +kernel
theorem dX12_ofBar_10 : decode cX12_ofBar 10 = .ok (.iload_n 2, 1) := by decide +kernel
theorem dX12_ofBar_11 : decode cX12_ofBar 11 = .ok (.tableswitch 80 0 5 #[37, 44, 51, 58, 65, 73], 37) := by decide +kernel
theorem dX12_ofBar_48 : decode cX12_ofBar 48 = .ok (.aload_n 0, 1) := by decide +kernel
theorem dX12_ofBar_49 : decode cX12_ofBar 49 = .ok (.getfield 17, 3) := by decide +kernel
theorem dX12_ofBar_52 : decode cX12_ofBar 52 = .ok (.iload_n 1, 1) := by decide +kernel
theorem dX12_ofBar_53 : decode cX12_ofBar 53 = .ok (.iaload, 1) := by decide +kernel
theorem dX12_ofBar_54 : decode cX12_ofBar 54 = .ok (.ireturn, 1) := by decide +kernel
theorem dX12_ofBar_55 : decode cX12_ofBar 55 = .ok (.aload_n 0, 1) := by decide +kernel
theorem dX12_ofBar_56 : decode cX12_ofBar 56 = .ok (.getfield 20, 3) := by decide +kernel
theorem dX12_ofBar_59 : decode cX12_ofBar 59 = .ok (.iload_n 1, 1) := by decide +kernel
theorem dX12_ofBar_60 : decode cX12_ofBar 60 = .ok (.iaload, 1) := by decide +kernel
theorem dX12_ofBar_61 : decode cX12_ofBar 61 = .ok (.ireturn, 1) := by decide +kernel
theorem dX12_ofBar_62 : decode cX12_ofBar 62 = .ok (.aload_n 0, 1) := by decide +kernel
theorem dX12_ofBar_63 : decode cX12_ofBar 63 = .ok (.iload_n 1, 1) := by decide +kernel
theorem dX12_ofBar_64 : decode cX12_ofBar 64 = .ok (.iconst 2, 1) := by decide +kernel
theorem dX12_ofBar_65 : decode cX12_ofBar 65 = .ok (.invokevirtual 151, 3) := by decide +kernel
theorem dX12_ofBar_68 : decode cX12_ofBar 68 = .ok (.ireturn, 1) := by decide +kernel
theorem dX12_ofBar_69 : decode cX12_ofBar 69 = .ok (.aload_n 0, 1) := by decide +kernel
theorem dX12_ofBar_70 : decode cX12_ofBar 70 = .ok (.iload_n 1, 1) := by decide +kernel
theorem dX12_ofBar_71 : decode cX12_ofBar 71 = .ok (.iconst 1, 1) := by decide +kernel
theorem dX12_ofBar_72 : decode cX12_ofBar 72 = .ok (.invokevirtual 151, 3) := by decide +kernel
theorem dX12_ofBar_75 : decode cX12_ofBar 75 = .ok (.ireturn, 1) := by decide +kernel
theorem dX12_ofBar_76 : decode cX12_ofBar 76 = .ok (.aload_n 0, 1) := by decide +kernel
theorem dX12_ofBar_77 : decode cX12_ofBar 77 = .ok (.iconst 1, 1) := by decide +kernel
theorem dX12_ofBar_78 : decode cX12_ofBar 78 = .ok (.iload_n 1, 1) := by decide +kernel
theorem dX12_ofBar_79 : decode cX12_ofBar 79 = .ok (.ishl, 1) := by decide +kernel
theorem dX12_ofBar_80 : decode cX12_ofBar 80 = .ok (.invokevirtual 154, 3) := by decide +kernel
theorem dX12_ofBar_83 : decode cX12_ofBar 83 = .ok (.ireturn, 1) := by decide +kernel
theorem dX12_ofBar_84 : decode cX12_ofBar 84 = .ok (.aload_n 0, 1) := by decide +kernel
theorem dX12_ofBar_85 : decode cX12_ofBar 85 = .ok (.getfield 23, 3) := by decide +kernel
theorem dX12_ofBar_88 : decode cX12_ofBar 88 = .ok (.iload_n 1, 1) := by decide +kernel
theorem dX12_ofBar_89 : decode cX12_ofBar 89 = .ok (.iaload, 1) := by decide +kernel
theorem dX12_ofBar_90 : decode cX12_ofBar 90 = .ok (.ireturn, 1) := by decide +kernel
theorem dX12_ofBar_91 : decode cX12_ofBar 91 = .ok (.bipush (-2), 2) := by decide +kernel
theorem dX12_ofBar_93 : decode cX12_ofBar 93 = .ok (.ireturn, 1) := by decide +kernel
theorem dX12_has_0 : decode cX12_has 0 = .ok (.aload_n 0, 1) := by decide +kernel
theorem dX12_has_1 : decode cX12_has 1 = .ok (.iload_n 1, 1) := by decide +kernel
theorem dX12_has_2 : decode cX12_has 2 = .ok (.invokevirtual 148, 3) := by decide +kernel
theorem dX12_has_5 : decode cX12_has 5 = .ok (.ifCond .eq 25, 3) := by decide +kernel
theorem dX12_has_8 : decode cX12_has 8 = .ok (.aload_n 0, 1) := by decide +kernel
theorem dX12_has_9 : decode cX12_has 9 = .ok (.iload_n 2, 1) := by decide +kernel
theorem dX12_has_10 : decode cX12_has 10 = .ok (.invokevirtual 117, 3) := by decide +kernel
theorem dX12_has_13 : decode cX12_has 13 = .ok (.ifCond .eq 17, 3) := by decide +kernel
theorem dX12_has_16 : decode cX12_has 16 = .ok (.aload_n 0, 1) := by decide +kernel
theorem dX12_has_17 : decode cX12_has 17 = .ok (.getfield 26, 3) := by decide +kernel
theorem dX12_has_20 : decode cX12_has 20 = .ok (.bipush 36, 2) := by decide +kernel
theorem dX12_has_22 : decode cX12_has 22 = .ok (.iload_n 1, 1) := by decide +kernel
theorem dX12_has_23 : decode cX12_has 23 = .ok (.imul, 1) := by decide +kernel
theorem dX12_has_24 : decode cX12_has 24 = .ok (.iload_n 2, 1) := by decide +kernel
theorem dX12_has_25 : decode cX12_has 25 = .ok (.iadd, 1) := by decide +kernel
theorem dX12_has_26 : decode cX12_has 26 = .ok (.iaload, 1) := by decide +kernel
theorem dX12_has_27 : decode cX12_has 27 = .ok (.goto 4, 3) := by decide +kernel
theorem dX12_has_30 : decode cX12_has 30 = .ok (.iconst (-1), 1) := by decide +kernel
theorem dX12_has_31 : decode cX12_has 31 = .ok (.ireturn, 1) := by decide +kernel
theorem dX12_doesSound_0 : decode cX12_doesSound 0 = .ok (.iconst 0, 1) := by decide +kernel
theorem dX12_doesSound_1 : decode cX12_doesSound 1 = .ok (.istore_n 3, 1) := by decide +kernel
theorem dX12_doesSound_2 : decode cX12_doesSound 2 = .ok (.iload_n 3, 1) := by decide +kernel
theorem dX12_doesSound_3 : decode cX12_doesSound 3 = .ok (.aload_n 0, 1) := by decide +kernel
theorem dX12_doesSound_4 : decode cX12_doesSound 4 = .ok (.getfield 110, 3) := by decide +kernel
theorem dX12_doesSound_7 : decode cX12_doesSound 7 = .ok (.if_icmp .ge 35, 3) := by decide +kernel
theorem dX12_doesSound_10 : decode cX12_doesSound 10 = .ok (.iload_n 1, 1) := by decide +kernel
theorem dX12_doesSound_11 : decode cX12_doesSound 11 = .ok (.iload_n 3, 1) := by decide +kernel
theorem dX12_doesSound_12 : decode cX12_doesSound 12 = .ok (.ishr, 1) := by decide +kernel
theorem dX12_doesSound_13 : decode cX12_doesSound 13 = .ok (.iconst 1, 1) := by decide +kernel
theorem dX12_doesSound_14 : decode cX12_doesSound 14 = .ok (.iand, 1) := by decide +kernel
theorem dX12_doesSound_15 : decode cX12_doesSound 15 = .ok (.iconst 1, 1) := by decide +kernel
theorem dX12_doesSound_16 : decode cX12_doesSound 16 = .ok (.if_icmp .ne 20, 3) := by decide +kernel
theorem dX12_doesSound_19 : decode cX12_doesSound 19 = .ok (.aload_n 0, 1) := by decide +kernel
theorem dX12_doesSound_20 : decode cX12_doesSound 20 = .ok (.getfield 26, 3) := by decide +kernel
theorem dX12_doesSound_23 : decode cX12_doesSound 23 = .ok (.bipush 36, 2) := by decide +kernel
theorem dX12_doesSound_25 : decode cX12_doesSound 25 = .ok (.iload_n 3, 1) := by decide +kernel
theorem dX12_doesSound_26 : decode cX12_doesSound 26 = .ok (.imul, 1) := by decide +kernel
theorem dX12_doesSound_27 : decode cX12_doesSound 27 = .ok (.iload_n 2, 1) := by decide +kernel
theorem dX12_doesSound_28 : decode cX12_doesSound 28 = .ok (.iadd, 1) := by decide +kernel
theorem dX12_doesSound_29 : decode cX12_doesSound 29 = .ok (.iaload, 1) := by decide +kernel
theorem dX12_doesSound_30 : decode cX12_doesSound 30 = .ok (.iconst 2, 1) := by decide +kernel
theorem dX12_doesSound_31 : decode cX12_doesSound 31 = .ok (.if_icmp .ne 5, 3) := by decide +kernel
theorem dX12_doesSound_34 : decode cX12_doesSound 34 = .ok (.iconst 0, 1) := by decide +kernel
theorem dX12_doesSound_35 : decode cX12_doesSound 35 = .ok (.ireturn, 1) := by decide +kernel
theorem dX12_doesSound_36 : decode cX12_doesSound 36 = .ok (.iinc 3 1, 3) := by decide +kernel
theorem dX12_doesSound_39 : decode cX12_doesSound 39 = .ok (.goto (-37), 3) := by decide +kernel
theorem dX12_doesSound_42 : decode cX12_doesSound 42 = .ok (.iconst 1, 1) := by decide +kernel
theorem dX12_doesSound_43 : decode cX12_doesSound 43 = .ok (.ireturn, 1) := by decide +kernel
theorem dX12_classesWith_0 : decode cX12_classesWith 0 = .ok (.iconst 0, 1) := by decide +kernel
theorem dX12_classesWith_1 : decode cX12_classesWith 1 = .ok (.istore_n 2, 1) := by decide +kernel
theorem dX12_classesWith_2 : decode cX12_classesWith 2 = .ok (.iconst 0, 1) := by decide +kernel
theorem dX12_classesWith_3 : decode cX12_classesWith 3 = .ok (.istore_n 3, 1) := by decide +kernel
theorem dX12_classesWith_4 : decode cX12_classesWith 4 = .ok (.iload_n 3, 1) := by decide +kernel
theorem dX12_classesWith_5 : decode cX12_classesWith 5 = .ok (.aload_n 0, 1) := by decide +kernel
theorem dX12_classesWith_6 : decode cX12_classesWith 6 = .ok (.getfield 107, 3) := by decide +kernel
theorem dX12_classesWith_9 : decode cX12_classesWith 9 = .ok (.if_icmp .ge 41, 3) := by decide +kernel
theorem dX12_classesWith_12 : decode cX12_classesWith 12 = .ok (.iload_n 2, 1) := by decide +kernel
theorem dX12_classesWith_13 : decode cX12_classesWith 13 = .ok (.aload_n 0, 1) := by decide +kernel
theorem dX12_classesWith_14 : decode cX12_classesWith 14 = .ok (.getfield 13, 3) := by decide +kernel
theorem dX12_classesWith_17 : decode cX12_classesWith 17 = .ok (.iload_n 3, 1) := by decide +kernel
theorem dX12_classesWith_18 : decode cX12_classesWith 18 = .ok (.baload, 1) := by decide +kernel
theorem dX12_classesWith_19 : decode cX12_classesWith 19 = .ok (.ifCond .ne 22, 3) := by decide +kernel
theorem dX12_classesWith_22 : decode cX12_classesWith 22 = .ok (.aload_n 0, 1) := by decide +kernel
theorem dX12_classesWith_23 : decode cX12_classesWith 23 = .ok (.iload_n 1, 1) := by decide +kernel
theorem dX12_classesWith_24 : decode cX12_classesWith 24 = .ok (.iload_n 3, 1) := by decide +kernel
theorem dX12_classesWith_25 : decode cX12_classesWith 25 = .ok (.invokevirtual 157, 3) := by decide +kernel
theorem dX12_classesWith_28 : decode cX12_classesWith 28 = .ok (.ifCond .eq 13, 3) := by decide +kernel
theorem dX12_classesWith_31 : decode cX12_classesWith 31 = .ok (.iconst 1, 1) := by decide +kernel
theorem dX12_classesWith_32 : decode cX12_classesWith 32 = .ok (.aload_n 0, 1) := by decide +kernel
theorem dX12_classesWith_33 : decode cX12_classesWith 33 = .ok (.iload_n 3, 1) := by decide +kernel
theorem dX12_classesWith_34 : decode cX12_classesWith 34 = .ok (.invokevirtual 129, 3) := by decide +kernel
theorem dX12_classesWith_37 : decode cX12_classesWith 37 = .ok (.ishl, 1) := by decide +kernel
theorem dX12_classesWith_38 : decode cX12_classesWith 38 = .ok (.goto 4, 3) := by decide +kernel
theorem dX12_classesWith_41 : decode cX12_classesWith 41 = .ok (.iconst 0, 1) := by decide +kernel
theorem dX12_classesWith_42 : decode cX12_classesWith 42 = .ok (.ior, 1) := by decide +kernel
theorem dX12_classesWith_43 : decode cX12_classesWith 43 = .ok (.istore_n 2, 1) := by decide +kernel
theorem dX12_classesWith_44 : decode cX12_classesWith 44 = .ok (.iinc 3 1, 3) := by decide +kernel
theorem dX12_classesWith_47 : decode cX12_classesWith 47 = .ok (.goto (-43), 3) := by decide +kernel
theorem dX12_classesWith_50 : decode cX12_classesWith 50 = .ok (.iload_n 2, 1) := by decide +kernel
theorem dX12_classesWith_51 : decode cX12_classesWith 51 = .ok (.ireturn, 1) := by decide +kernel
theorem dX12_sounds_0 : decode cX12_sounds 0 = .ok (.aload_n 0, 1) := by decide +kernel
theorem dX12_sounds_1 : decode cX12_sounds 1 = .ok (.iload_n 2, 1) := by decide +kernel
theorem dX12_sounds_2 : decode cX12_sounds 2 = .ok (.invokevirtual 117, 3) := by decide +kernel
theorem dX12_sounds_5 : decode cX12_sounds 5 = .ok (.ifCond .ne 5, 3) := by decide +kernel
theorem dX12_sounds_8 : decode cX12_sounds 8 = .ok (.iconst (-1), 1) := by decide +kernel
theorem dX12_sounds_9 : decode cX12_sounds 9 = .ok (.ireturn, 1) := by decide +kernel
theorem dX12_sounds_10 : decode cX12_sounds 10 = .ok (.aload_n 0, 1) := by decide +kernel
theorem dX12_sounds_11 : decode cX12_sounds 11 = .ok (.iload_n 1, 1) := by decide +kernel
theorem dX12_sounds_12 : decode cX12_sounds 12 = .ok (.invokevirtual 160, 3) := by decide +kernel
theorem dX12_sounds_15 : decode cX12_sounds 15 = .ok (.ifCond .ne 6, 3) := by decide +kernel
theorem dX12_sounds_18 : decode cX12_sounds 18 = .ok (.bipush (-2), 2) := by decide +kernel
theorem dX12_sounds_20 : decode cX12_sounds 20 = .ok (.ireturn, 1) := by decide +kernel
theorem dX12_sounds_21 : decode cX12_sounds 21 = .ok (.aload_n 0, 1) := by decide +kernel
theorem dX12_sounds_22 : decode cX12_sounds 22 = .ok (.iload_n 1, 1) := by decide +kernel
theorem dX12_sounds_23 : decode cX12_sounds 23 = .ok (.iload_n 2, 1) := by decide +kernel
theorem dX12_sounds_24 : decode cX12_sounds 24 = .ok (.invokevirtual 157, 3) := by decide +kernel
theorem dX12_sounds_27 : decode cX12_sounds 27 = .ok (.ifCond .eq 7, 3) := by decide +kernel
theorem dX12_sounds_30 : decode cX12_sounds 30 = .ok (.iconst 1, 1) := by decide +kernel
theorem dX12_sounds_31 : decode cX12_sounds 31 = .ok (.goto 4, 3) := by decide +kernel
theorem dX12_sounds_34 : decode cX12_sounds 34 = .ok (.iconst 0, 1) := by decide +kernel
theorem dX12_sounds_35 : decode cX12_sounds 35 = .ok (.ireturn, 1) := by decide +kernel
theorem dX12_classes_0 : decode cX12_classes 0 = .ok (.aload_n 0, 1) := by decide +kernel
theorem dX12_classes_1 : decode cX12_classes 1 = .ok (.iload_n 1, 1) := by decide +kernel
theorem dX12_classes_2 : decode cX12_classes 2 = .ok (.invokevirtual 160, 3) := by decide +kernel
theorem dX12_classes_5 : decode cX12_classes 5 = .ok (.ifCond .eq 11, 3) := by decide +kernel
theorem dX12_classes_8 : decode cX12_classes 8 = .ok (.aload_n 0, 1) := by decide +kernel
theorem dX12_classes_9 : decode cX12_classes 9 = .ok (.iload_n 1, 1) := by decide +kernel
theorem dX12_classes_10 : decode cX12_classes 10 = .ok (.invokevirtual 154, 3) := by decide +kernel
theorem dX12_classes_13 : decode cX12_classes 13 = .ok (.goto 5, 3) := by decide +kernel
theorem dX12_classes_16 : decode cX12_classes 16 = .ok (.bipush (-2), 2) := by decide +kernel
theorem dX12_classes_18 : decode cX12_classes 18 = .ok (.ireturn, 1) := by decide +kernel
theorem dX12_chord_0 : decode cX12_chord 0 = .ok (.iload_n 1, 1) := by decide +kernel
theorem dX12_chord_1 : decode cX12_chord 1 = .ok (.invokestatic 142, 3) := by decide +kernel
theorem dX12_chord_4 : decode cX12_chord 4 = .ok (.ifCond .eq 10, 3) := by decide +kernel
theorem dX12_chord_7 : decode cX12_chord 7 = .ok (.iload_n 1, 1) := by decide +kernel
theorem dX12_chord_8 : decode cX12_chord 8 = .ok (.invokestatic 125, 3) := by decide +kernel
theorem dX12_chord_11 : decode cX12_chord 11 = .ok (.goto 5, 3) := by decide +kernel
theorem dX12_chord_14 : decode cX12_chord 14 = .ok (.bipush (-2), 2) := by decide +kernel
theorem dX12_chord_16 : decode cX12_chord 16 = .ok (.ireturn, 1) := by decide +kernel
theorem dX12_gives_0 : decode cX12_gives 0 = .ok (.aload_n 0, 1) := by decide +kernel
theorem dX12_gives_1 : decode cX12_gives 1 = .ok (.iload_n 1, 1) := by decide +kernel
theorem dX12_gives_2 : decode cX12_gives 2 = .ok (.invokevirtual 160, 3) := by decide +kernel
theorem dX12_gives_5 : decode cX12_gives 5 = .ok (.ifCond .eq 10, 3) := by decide +kernel
theorem dX12_gives_8 : decode cX12_gives 8 = .ok (.iload_n 2, 1) := by decide +kernel
theorem dX12_gives_9 : decode cX12_gives 9 = .ok (.invokestatic 142, 3) := by decide +kernel
theorem dX12_gives_12 : decode cX12_gives 12 = .ok (.ifCond .ne 6, 3) := by decide +kernel
theorem dX12_gives_15 : decode cX12_gives 15 = .ok (.bipush (-2), 2) := by decide +kernel
theorem dX12_gives_17 : decode cX12_gives 17 = .ok (.ireturn, 1) := by decide +kernel
theorem dX12_gives_18 : decode cX12_gives 18 = .ok (.aload_n 0, 1) := by decide +kernel
theorem dX12_gives_19 : decode cX12_gives 19 = .ok (.iload_n 1, 1) := by decide +kernel
theorem dX12_gives_20 : decode cX12_gives 20 = .ok (.invokevirtual 154, 3) := by decide +kernel
theorem dX12_gives_23 : decode cX12_gives 23 = .ok (.iload_n 2, 1) := by decide +kernel
theorem dX12_gives_24 : decode cX12_gives 24 = .ok (.invokestatic 125, 3) := by decide +kernel
theorem dX12_gives_27 : decode cX12_gives 27 = .ok (.if_icmp .ne 7, 3) := by decide +kernel
theorem dX12_gives_30 : decode cX12_gives 30 = .ok (.iconst 1, 1) := by decide +kernel
theorem dX12_gives_31 : decode cX12_gives 31 = .ok (.goto 4, 3) := by decide +kernel
theorem dX12_gives_34 : decode cX12_gives 34 = .ok (.iconst 0, 1) := by decide +kernel
theorem dX12_gives_35 : decode cX12_gives 35 = .ok (.ireturn, 1) := by decide +kernel
theorem dX12_allClasses_0 : decode cX12_allClasses 0 = .ok (.iconst 0, 1) := by decide +kernel
theorem dX12_allClasses_1 : decode cX12_allClasses 1 = .ok (.istore_n 1, 1) := by decide +kernel
theorem dX12_allClasses_2 : decode cX12_allClasses 2 = .ok (.iconst 0, 1) := by decide +kernel
theorem dX12_allClasses_3 : decode cX12_allClasses 3 = .ok (.istore_n 2, 1) := by decide +kernel
theorem dX12_allClasses_4 : decode cX12_allClasses 4 = .ok (.iload_n 2, 1) := by decide +kernel
theorem dX12_allClasses_5 : decode cX12_allClasses 5 = .ok (.aload_n 0, 1) := by decide +kernel
theorem dX12_allClasses_6 : decode cX12_allClasses 6 = .ok (.getfield 107, 3) := by decide +kernel
theorem dX12_allClasses_9 : decode cX12_allClasses 9 = .ok (.if_icmp .ge 32, 3) := by decide +kernel
theorem dX12_allClasses_12 : decode cX12_allClasses 12 = .ok (.iload_n 1, 1) := by decide +kernel
theorem dX12_allClasses_13 : decode cX12_allClasses 13 = .ok (.aload_n 0, 1) := by decide +kernel
theorem dX12_allClasses_14 : decode cX12_allClasses 14 = .ok (.getfield 13, 3) := by decide +kernel
theorem dX12_allClasses_17 : decode cX12_allClasses 17 = .ok (.iload_n 2, 1) := by decide +kernel
theorem dX12_allClasses_18 : decode cX12_allClasses 18 = .ok (.baload, 1) := by decide +kernel
theorem dX12_allClasses_19 : decode cX12_allClasses 19 = .ok (.ifCond .eq 7, 3) := by decide +kernel
theorem dX12_allClasses_22 : decode cX12_allClasses 22 = .ok (.iconst 0, 1) := by decide +kernel
theorem dX12_allClasses_23 : decode cX12_allClasses 23 = .ok (.goto 10, 3) := by decide +kernel
theorem dX12_allClasses_26 : decode cX12_allClasses 26 = .ok (.iconst 1, 1) := by decide +kernel
theorem dX12_allClasses_27 : decode cX12_allClasses 27 = .ok (.aload_n 0, 1) := by decide +kernel
theorem dX12_allClasses_28 : decode cX12_allClasses 28 = .ok (.iload_n 2, 1) := by decide +kernel
theorem dX12_allClasses_29 : decode cX12_allClasses 29 = .ok (.invokevirtual 129, 3) := by decide +kernel
theorem dX12_allClasses_32 : decode cX12_allClasses 32 = .ok (.ishl, 1) := by decide +kernel
theorem dX12_allClasses_33 : decode cX12_allClasses 33 = .ok (.ior, 1) := by decide +kernel
theorem dX12_allClasses_34 : decode cX12_allClasses 34 = .ok (.istore_n 1, 1) := by decide +kernel
theorem dX12_allClasses_35 : decode cX12_allClasses 35 = .ok (.iinc 2 1, 3) := by decide +kernel
theorem dX12_allClasses_38 : decode cX12_allClasses 38 = .ok (.goto (-34), 3) := by decide +kernel
theorem dX12_allClasses_41 : decode cX12_allClasses 41 = .ok (.iload_n 1, 1) := by decide +kernel
theorem dX12_allClasses_42 : decode cX12_allClasses 42 = .ok (.ireturn, 1) := by decide +kernel
theorem dX12_lack_0 : decode cX12_lack 0 = .ok (.iload_n 1, 1) := by decide +kernel
theorem dX12_lack_1 : decode cX12_lack 1 = .ok (.invokestatic 142, 3) := by decide +kernel
theorem dX12_lack_4 : decode cX12_lack 4 = .ok (.ifCond .eq 17, 3) := by decide +kernel
theorem dX12_lack_7 : decode cX12_lack 7 = .ok (.iload_n 1, 1) := by decide +kernel
theorem dX12_lack_8 : decode cX12_lack 8 = .ok (.invokestatic 125, 3) := by decide +kernel
theorem dX12_lack_11 : decode cX12_lack 11 = .ok (.aload_n 0, 1) := by decide +kernel
theorem dX12_lack_12 : decode cX12_lack 12 = .ok (.invokevirtual 163, 3) := by decide +kernel
theorem dX12_lack_15 : decode cX12_lack 15 = .ok (.iconst (-1), 1) := by decide +kernel
theorem dX12_lack_16 : decode cX12_lack 16 = .ok (.ixor, 1) := by decide +kernel
theorem dX12_lack_17 : decode cX12_lack 17 = .ok (.iand, 1) := by decide +kernel
theorem dX12_lack_18 : decode cX12_lack 18 = .ok (.goto 5, 3) := by decide +kernel
theorem dX12_lack_21 : decode cX12_lack 21 = .ok (.bipush (-2), 2) := by decide +kernel
theorem dX12_lack_23 : decode cX12_lack 23 = .ok (.ireturn, 1) := by decide +kernel
theorem dX12_addGrip_0 : decode cX12_addGrip 0 = .ok (.aload_n 0, 1) := by decide +kernel
theorem dX12_addGrip_1 : decode cX12_addGrip 1 = .ok (.getfield 29, 3) := by decide +kernel
theorem dX12_addGrip_4 : decode cX12_addGrip 4 = .ok (.aload_n 0, 1) := by decide +kernel
theorem dX12_addGrip_5 : decode cX12_addGrip 5 = .ok (.getfield 167, 3) := by decide +kernel
theorem dX12_addGrip_8 : decode cX12_addGrip 8 = .ok (.iload_n 1, 1) := by decide +kernel
theorem dX12_addGrip_9 : decode cX12_addGrip 9 = .ok (.iastore, 1) := by decide +kernel
theorem dX12_addGrip_10 : decode cX12_addGrip 10 = .ok (.aload_n 0, 1) := by decide +kernel
theorem dX12_addGrip_11 : decode cX12_addGrip 11 = .ok (.getfield 32, 3) := by decide +kernel
theorem dX12_addGrip_14 : decode cX12_addGrip 14 = .ok (.aload_n 0, 1) := by decide +kernel
theorem dX12_addGrip_15 : decode cX12_addGrip 15 = .ok (.getfield 167, 3) := by decide +kernel
theorem dX12_addGrip_18 : decode cX12_addGrip 18 = .ok (.aload_n 0, 1) := by decide +kernel
theorem dX12_addGrip_19 : decode cX12_addGrip 19 = .ok (.iload_n 1, 1) := by decide +kernel
theorem dX12_addGrip_20 : decode cX12_addGrip 20 = .ok (.invokevirtual 154, 3) := by decide +kernel
theorem dX12_addGrip_23 : decode cX12_addGrip 23 = .ok (.iastore, 1) := by decide +kernel
theorem dX12_addGrip_24 : decode cX12_addGrip 24 = .ok (.aload_n 0, 1) := by decide +kernel
theorem dX12_addGrip_25 : decode cX12_addGrip 25 = .ok (.dup, 1) := by decide +kernel
theorem dX12_addGrip_26 : decode cX12_addGrip 26 = .ok (.getfield 167, 3) := by decide +kernel
theorem dX12_addGrip_29 : decode cX12_addGrip 29 = .ok (.iconst 1, 1) := by decide +kernel
theorem dX12_addGrip_30 : decode cX12_addGrip 30 = .ok (.iadd, 1) := by decide +kernel
theorem dX12_addGrip_31 : decode cX12_addGrip 31 = .ok (.putfield 167, 3) := by decide +kernel
theorem dX12_addGrip_34 : decode cX12_addGrip 34 = .ok (.return_, 1) := by decide +kernel
theorem dX12_findGrips_0 : decode cX12_findGrips 0 = .ok (.aload_n 0, 1) := by decide +kernel
theorem dX12_findGrips_1 : decode cX12_findGrips 1 = .ok (.iconst 0, 1) := by decide +kernel
theorem dX12_findGrips_2 : decode cX12_findGrips 2 = .ok (.putfield 167, 3) := by decide +kernel
theorem dX12_findGrips_5 : decode cX12_findGrips 5 = .ok (.aload_n 0, 1) := by decide +kernel
theorem dX12_findGrips_6 : decode cX12_findGrips 6 = .ok (.iconst 0, 1) := by decide +kernel
theorem dX12_findGrips_7 : decode cX12_findGrips 7 = .ok (.invokevirtual 170, 3) := by decide +kernel
theorem dX12_findGrips_10 : decode cX12_findGrips 10 = .ok (.iconst 0, 1) := by decide +kernel
theorem dX12_findGrips_11 : decode cX12_findGrips 11 = .ok (.istore_n 1, 1) := by decide +kernel
theorem dX12_findGrips_12 : decode cX12_findGrips 12 = .ok (.iload_n 1, 1) := by decide +kernel
theorem dX12_findGrips_13 : decode cX12_findGrips 13 = .ok (.aload_n 0, 1) := by decide +kernel
theorem dX12_findGrips_14 : decode cX12_findGrips 14 = .ok (.getfield 110, 3) := by decide +kernel
theorem dX12_findGrips_17 : decode cX12_findGrips 17 = .ok (.if_icmp .ge 16, 3) := by decide +kernel
theorem dX12_findGrips_20 : decode cX12_findGrips 20 = .ok (.aload_n 0, 1) := by decide +kernel
theorem dX12_findGrips_21 : decode cX12_findGrips 21 = .ok (.iconst 1, 1) := by decide +kernel
theorem dX12_findGrips_22 : decode cX12_findGrips 22 = .ok (.iload_n 1, 1) := by decide +kernel
theorem dX12_findGrips_23 : decode cX12_findGrips 23 = .ok (.ishl, 1) := by decide +kernel
theorem dX12_findGrips_24 : decode cX12_findGrips 24 = .ok (.invokevirtual 170, 3) := by decide +kernel
theorem dX12_findGrips_27 : decode cX12_findGrips 27 = .ok (.iinc 1 1, 3) := by decide +kernel
theorem dX12_findGrips_30 : decode cX12_findGrips 30 = .ok (.goto (-18), 3) := by decide +kernel
theorem dX12_findGrips_33 : decode cX12_findGrips 33 = .ok (.iconst 0, 1) := by decide +kernel
theorem dX12_findGrips_34 : decode cX12_findGrips 34 = .ok (.istore_n 1, 1) := by decide +kernel
theorem dX12_findGrips_35 : decode cX12_findGrips 35 = .ok (.iload_n 1, 1) := by decide +kernel
theorem dX12_findGrips_36 : decode cX12_findGrips 36 = .ok (.aload_n 0, 1) := by decide +kernel
theorem dX12_findGrips_37 : decode cX12_findGrips 37 = .ok (.getfield 110, 3) := by decide +kernel
theorem dX12_findGrips_40 : decode cX12_findGrips 40 = .ok (.if_icmp .ge 38, 3) := by decide +kernel
theorem dX12_findGrips_43 : decode cX12_findGrips 43 = .ok (.iload_n 1, 1) := by decide +kernel
theorem dX12_findGrips_44 : decode cX12_findGrips 44 = .ok (.iconst 1, 1) := by decide +kernel
theorem dX12_findGrips_45 : decode cX12_findGrips 45 = .ok (.iadd, 1) := by decide +kernel
theorem dX12_findGrips_46 : decode cX12_findGrips 46 = .ok (.istore_n 2, 1) := by decide +kernel
theorem dX12_findGrips_47 : decode cX12_findGrips 47 = .ok (.iload_n 2, 1) := by decide +kernel
theorem dX12_findGrips_48 : decode cX12_findGrips 48 = .ok (.aload_n 0, 1) := by decide +kernel
theorem dX12_findGrips_49 : decode cX12_findGrips 49 = .ok (.getfield 110, 3) := by decide +kernel
theorem dX12_findGrips_52 : decode cX12_findGrips 52 = .ok (.if_icmp .ge 20, 3) := by decide +kernel
theorem dX12_findGrips_55 : decode cX12_findGrips 55 = .ok (.aload_n 0, 1) := by decide +kernel
theorem dX12_findGrips_56 : decode cX12_findGrips 56 = .ok (.iconst 1, 1) := by decide +kernel
theorem dX12_findGrips_57 : decode cX12_findGrips 57 = .ok (.iload_n 1, 1) := by decide +kernel
theorem dX12_findGrips_58 : decode cX12_findGrips 58 = .ok (.ishl, 1) := by decide +kernel
theorem dX12_findGrips_59 : decode cX12_findGrips 59 = .ok (.iconst 1, 1) := by decide +kernel
theorem dX12_findGrips_60 : decode cX12_findGrips 60 = .ok (.iload_n 2, 1) := by decide +kernel
theorem dX12_findGrips_61 : decode cX12_findGrips 61 = .ok (.ishl, 1) := by decide +kernel
theorem dX12_findGrips_62 : decode cX12_findGrips 62 = .ok (.ior, 1) := by decide +kernel
theorem dX12_findGrips_63 : decode cX12_findGrips 63 = .ok (.invokevirtual 170, 3) := by decide +kernel
theorem dX12_findGrips_66 : decode cX12_findGrips 66 = .ok (.iinc 2 1, 3) := by decide +kernel
theorem dX12_findGrips_69 : decode cX12_findGrips 69 = .ok (.goto (-22), 3) := by decide +kernel
theorem dX12_findGrips_72 : decode cX12_findGrips 72 = .ok (.iinc 1 1, 3) := by decide +kernel
theorem dX12_findGrips_75 : decode cX12_findGrips 75 = .ok (.goto (-40), 3) := by decide +kernel
theorem dX12_findGrips_78 : decode cX12_findGrips 78 = .ok (.return_, 1) := by decide +kernel
theorem dX12_findHolds_0 : decode cX12_findHolds 0 = .ok (.aload_n 0, 1) := by decide +kernel
theorem dX12_findHolds_1 : decode cX12_findHolds 1 = .ok (.invokevirtual 174, 3) := by decide +kernel
theorem dX12_findHolds_4 : decode cX12_findHolds 4 = .ok (.iconst 0, 1) := by decide +kernel
theorem dX12_findHolds_5 : decode cX12_findHolds 5 = .ok (.istore_n 1, 1) := by decide +kernel
theorem dX12_findHolds_6 : decode cX12_findHolds 6 = .ok (.iload_n 1, 1) := by decide +kernel
theorem dX12_findHolds_7 : decode cX12_findHolds 7 = .ok (.bipush 96, 2) := by decide +kernel
theorem dX12_findHolds_9 : decode cX12_findHolds 9 = .ok (.if_icmp .ge 65, 3) := by decide +kernel
theorem dX12_findHolds_12 : decode cX12_findHolds 12 = .ok (.iload_n 1, 1) := by decide +kernel
theorem dX12_findHolds_13 : decode cX12_findHolds 13 = .ok (.invokestatic 125, 3) := by decide +kernel
theorem dX12_findHolds_16 : decode cX12_findHolds 16 = .ok (.istore_n 2, 1) := by decide +kernel
theorem dX12_findHolds_17 : decode cX12_findHolds 17 = .ok (.aload_n 0, 1) := by decide +kernel
theorem dX12_findHolds_18 : decode cX12_findHolds 18 = .ok (.getfield 35, 3) := by decide +kernel
theorem dX12_findHolds_21 : decode cX12_findHolds 21 = .ok (.iload_n 1, 1) := by decide +kernel
theorem dX12_findHolds_22 : decode cX12_findHolds 22 = .ok (.bipush (-9), 2) := by decide +kernel
theorem dX12_findHolds_24 : decode cX12_findHolds 24 = .ok (.iastore, 1) := by decide +kernel
theorem dX12_findHolds_25 : decode cX12_findHolds 25 = .ok (.aload_n 0, 1) := by decide +kernel
theorem dX12_findHolds_26 : decode cX12_findHolds 26 = .ok (.getfield 167, 3) := by decide +kernel
theorem dX12_findHolds_29 : decode cX12_findHolds 29 = .ok (.iconst 1, 1) := by decide +kernel
theorem dX12_findHolds_30 : decode cX12_findHolds 30 = .ok (.isub, 1) := by decide +kernel
theorem dX12_findHolds_31 : decode cX12_findHolds 31 = .ok (.istore_n 3, 1) := by decide +kernel
theorem dX12_findHolds_32 : decode cX12_findHolds 32 = .ok (.iload_n 3, 1) := by decide +kernel
theorem dX12_findHolds_33 : decode cX12_findHolds 33 = .ok (.ifCond .le 35, 3) := by decide +kernel
theorem dX12_findHolds_36 : decode cX12_findHolds 36 = .ok (.aload_n 0, 1) := by decide +kernel
theorem dX12_findHolds_37 : decode cX12_findHolds 37 = .ok (.getfield 35, 3) := by decide +kernel
theorem dX12_findHolds_40 : decode cX12_findHolds 40 = .ok (.iload_n 1, 1) := by decide +kernel
theorem dX12_findHolds_41 : decode cX12_findHolds 41 = .ok (.aload_n 0, 1) := by decide +kernel
theorem dX12_findHolds_42 : decode cX12_findHolds 42 = .ok (.getfield 32, 3) := by decide +kernel
theorem dX12_findHolds_45 : decode cX12_findHolds 45 = .ok (.iload_n 3, 1) := by decide +kernel
theorem dX12_findHolds_46 : decode cX12_findHolds 46 = .ok (.iaload, 1) := by decide +kernel
theorem dX12_findHolds_47 : decode cX12_findHolds 47 = .ok (.iload_n 2, 1) := by decide +kernel
theorem dX12_findHolds_48 : decode cX12_findHolds 48 = .ok (.if_icmp .ne 7, 3) := by decide +kernel
theorem dX12_findHolds_51 : decode cX12_findHolds 51 = .ok (.iload_n 3, 1) := by decide +kernel
theorem dX12_findHolds_52 : decode cX12_findHolds 52 = .ok (.goto 9, 3) := by decide +kernel
theorem dX12_findHolds_55 : decode cX12_findHolds 55 = .ok (.aload_n 0, 1) := by decide +kernel
theorem dX12_findHolds_56 : decode cX12_findHolds 56 = .ok (.getfield 35, 3) := by decide +kernel
theorem dX12_findHolds_59 : decode cX12_findHolds 59 = .ok (.iload_n 1, 1) := by decide +kernel
theorem dX12_findHolds_60 : decode cX12_findHolds 60 = .ok (.iaload, 1) := by decide +kernel
theorem dX12_findHolds_61 : decode cX12_findHolds 61 = .ok (.iastore, 1) := by decide +kernel
theorem dX12_findHolds_62 : decode cX12_findHolds 62 = .ok (.iinc 3 (-1), 3) := by decide +kernel
theorem dX12_findHolds_65 : decode cX12_findHolds 65 = .ok (.goto (-33), 3) := by decide +kernel
theorem dX12_findHolds_68 : decode cX12_findHolds 68 = .ok (.iinc 1 1, 3) := by decide +kernel
theorem dX12_findHolds_71 : decode cX12_findHolds 71 = .ok (.goto (-65), 3) := by decide +kernel
theorem dX12_findHolds_74 : decode cX12_findHolds 74 = .ok (.return_, 1) := by decide +kernel
theorem dX12_setOf_0 : decode cX12_setOf 0 = .ok (.iload_n 1, 1) := by decide +kernel
theorem dX12_setOf_1 : decode cX12_setOf 1 = .ok (.bipush (-9), 2) := by decide +kernel
theorem dX12_setOf_3 : decode cX12_setOf 3 = .ok (.if_icmp .ne 7, 3) := by decide +kernel
theorem dX12_setOf_6 : decode cX12_setOf 6 = .ok (.iconst 0, 1) := by decide +kernel
theorem dX12_setOf_7 : decode cX12_setOf 7 = .ok (.goto 9, 3) := by decide +kernel
theorem dX12_setOf_10 : decode cX12_setOf 10 = .ok (.aload_n 0, 1) := by decide +kernel
theorem dX12_setOf_11 : decode cX12_setOf 11 = .ok (.getfield 29, 3) := by decide +kernel
theorem dX12_setOf_14 : decode cX12_setOf 14 = .ok (.iload_n 1, 1) := by decide +kernel
theorem dX12_setOf_15 : decode cX12_setOf 15 = .ok (.iaload, 1) := by decide +kernel
theorem dX12_setOf_16 : decode cX12_setOf 16 = .ok (.ireturn, 1) := by decide +kernel
theorem dX12_hold_0 : decode cX12_hold 0 = .ok (.iload_n 1, 1) := by decide +kernel
theorem dX12_hold_1 : decode cX12_hold 1 = .ok (.invokestatic 142, 3) := by decide +kernel
theorem dX12_hold_4 : decode cX12_hold 4 = .ok (.ifCond .ne 6, 3) := by decide +kernel
theorem dX12_hold_7 : decode cX12_hold 7 = .ok (.bipush (-2), 2) := by decide +kernel
theorem dX12_hold_9 : decode cX12_hold 9 = .ok (.ireturn, 1) := by decide +kernel
theorem dX12_hold_10 : decode cX12_hold 10 = .ok (.aload_n 0, 1) := by decide +kernel
theorem dX12_hold_11 : decode cX12_hold 11 = .ok (.invokevirtual 177, 3) := by decide +kernel
theorem dX12_hold_14 : decode cX12_hold 14 = .ok (.aload_n 0, 1) := by decide +kernel
theorem dX12_hold_15 : decode cX12_hold 15 = .ok (.getfield 35, 3) := by decide +kernel
theorem dX12_hold_18 : decode cX12_hold 18 = .ok (.iload_n 1, 1) := by decide +kernel
theorem dX12_hold_19 : decode cX12_hold 19 = .ok (.iaload, 1) := by decide +kernel
theorem dX12_hold_20 : decode cX12_hold 20 = .ok (.bipush (-9), 2) := by decide +kernel
theorem dX12_hold_22 : decode cX12_hold 22 = .ok (.if_icmp .ne 8, 3) := by decide +kernel
theorem dX12_hold_25 : decode cX12_hold 25 = .ok (.bipush (-9), 2) := by decide +kernel
theorem dX12_hold_27 : decode cX12_hold 27 = .ok (.goto 14, 3) := by decide +kernel
theorem dX12_hold_30 : decode cX12_hold 30 = .ok (.aload_n 0, 1) := by decide +kernel
theorem dX12_hold_31 : decode cX12_hold 31 = .ok (.getfield 29, 3) := by decide +kernel
theorem dX12_hold_34 : decode cX12_hold 34 = .ok (.aload_n 0, 1) := by decide +kernel
theorem dX12_hold_35 : decode cX12_hold 35 = .ok (.getfield 35, 3) := by decide +kernel
theorem dX12_hold_38 : decode cX12_hold 38 = .ok (.iload_n 1, 1) := by decide +kernel
theorem dX12_hold_39 : decode cX12_hold 39 = .ok (.iaload, 1) := by decide +kernel
theorem dX12_hold_40 : decode cX12_hold 40 = .ok (.iaload, 1) := by decide +kernel
theorem dX12_hold_41 : decode cX12_hold 41 = .ok (.ireturn, 1) := by decide +kernel
theorem dX12_holds_0 : decode cX12_holds 0 = .ok (.iload_n 1, 1) := by decide +kernel
theorem dX12_holds_1 : decode cX12_holds 1 = .ok (.iconst 0, 1) := by decide +kernel
theorem dX12_holds_2 : decode cX12_holds 2 = .ok (.iconst 2, 1) := by decide +kernel
theorem dX12_holds_3 : decode cX12_holds 3 = .ok (.invokestatic 113, 3) := by decide +kernel
theorem dX12_holds_6 : decode cX12_holds 6 = .ok (.ifCond .ne 6, 3) := by decide +kernel
theorem dX12_holds_9 : decode cX12_holds 9 = .ok (.bipush (-2), 2) := by decide +kernel
theorem dX12_holds_11 : decode cX12_holds 11 = .ok (.ireturn, 1) := by decide +kernel
theorem dX12_holds_12 : decode cX12_holds 12 = .ok (.aload_n 0, 1) := by decide +kernel
theorem dX12_holds_13 : decode cX12_holds 13 = .ok (.invokevirtual 177, 3) := by decide +kernel
theorem dX12_holds_16 : decode cX12_holds 16 = .ok (.iconst 0, 1) := by decide +kernel
theorem dX12_holds_17 : decode cX12_holds 17 = .ok (.istore_n 2, 1) := by decide +kernel
theorem dX12_holds_18 : decode cX12_holds 18 = .ok (.iconst 0, 1) := by decide +kernel
theorem dX12_holds_19 : decode cX12_holds 19 = .ok (.istore_n 3, 1) := by decide +kernel
theorem dX12_holds_20 : decode cX12_holds 20 = .ok (.iload_n 3, 1) := by decide +kernel
theorem dX12_holds_21 : decode cX12_holds 21 = .ok (.bipush 96, 2) := by decide +kernel
theorem dX12_holds_23 : decode cX12_holds 23 = .ok (.if_icmp .ge 58, 3) := by decide +kernel
theorem dX12_holds_26 : decode cX12_holds 26 = .ok (.aload_n 0, 1) := by decide +kernel
theorem dX12_holds_27 : decode cX12_holds 27 = .ok (.getfield 35, 3) := by decide +kernel
theorem dX12_holds_30 : decode cX12_holds 30 = .ok (.iload_n 3, 1) := by decide +kernel
theorem dX12_holds_31 : decode cX12_holds 31 = .ok (.iaload, 1) := by decide +kernel
theorem dX12_holds_32 : decode cX12_holds 32 = .ok (.istore 4, 2) := by decide +kernel
theorem dX12_holds_34 : decode cX12_holds 34 = .ok (.iload 4, 2) := by decide +kernel
theorem dX12_holds_36 : decode cX12_holds 36 = .ok (.bipush (-9), 2) := by decide +kernel
theorem dX12_holds_38 : decode cX12_holds 38 = .ok (.if_icmp .ne 7, 3) := by decide +kernel
theorem dX12_holds_41 : decode cX12_holds 41 = .ok (.iconst 0, 1) := by decide +kernel
theorem dX12_holds_42 : decode cX12_holds 42 = .ok (.goto 17, 3) := by decide +kernel
theorem dX12_holds_45 : decode cX12_holds 45 = .ok (.iload 4, 2) := by decide +kernel
theorem dX12_holds_47 : decode cX12_holds 47 = .ok (.aload_n 0, 1) := by decide +kernel
theorem dX12_holds_48 : decode cX12_holds 48 = .ok (.getfield 110, 3) := by decide +kernel
theorem dX12_holds_51 : decode cX12_holds 51 = .ok (.if_icmp .gt 7, 3) := by decide +kernel
theorem dX12_holds_54 : decode cX12_holds 54 = .ok (.iconst 1, 1) := by decide +kernel
theorem dX12_holds_55 : decode cX12_holds 55 = .ok (.goto 4, 3) := by decide +kernel
theorem dX12_holds_58 : decode cX12_holds 58 = .ok (.iconst 2, 1) := by decide +kernel
theorem dX12_holds_59 : decode cX12_holds 59 = .ok (.istore 5, 2) := by decide +kernel
theorem dX12_holds_61 : decode cX12_holds 61 = .ok (.iload_n 2, 1) := by decide +kernel
theorem dX12_holds_62 : decode cX12_holds 62 = .ok (.iload 5, 2) := by decide +kernel
theorem dX12_holds_64 : decode cX12_holds 64 = .ok (.iload_n 1, 1) := by decide +kernel
theorem dX12_holds_65 : decode cX12_holds 65 = .ok (.if_icmp .ne 7, 3) := by decide +kernel
theorem dX12_holds_68 : decode cX12_holds 68 = .ok (.iconst 1, 1) := by decide +kernel
theorem dX12_holds_69 : decode cX12_holds 69 = .ok (.goto 4, 3) := by decide +kernel
theorem dX12_holds_72 : decode cX12_holds 72 = .ok (.iconst 0, 1) := by decide +kernel
theorem dX12_holds_73 : decode cX12_holds 73 = .ok (.iadd, 1) := by decide +kernel
theorem dX12_holds_74 : decode cX12_holds 74 = .ok (.istore_n 2, 1) := by decide +kernel
theorem dX12_holds_75 : decode cX12_holds 75 = .ok (.iinc 3 1, 3) := by decide +kernel
theorem dX12_holds_78 : decode cX12_holds 78 = .ok (.goto (-58), 3) := by decide +kernel
theorem dX12_holds_81 : decode cX12_holds 81 = .ok (.iload_n 2, 1) := by decide +kernel
theorem dX12_holds_82 : decode cX12_holds 82 = .ok (.ireturn, 1) := by decide +kernel
theorem dX12_strum_0 : decode cX12_strum 0 = .ok (.aload_n 0, 1) := by decide +kernel
theorem dX12_strum_1 : decode cX12_strum 1 = .ok (.iload_n 1, 1) := by decide +kernel
theorem dX12_strum_2 : decode cX12_strum 2 = .ok (.invokevirtual 160, 3) := by decide +kernel
theorem dX12_strum_5 : decode cX12_strum 5 = .ok (.ifCond .eq 12, 3) := by decide +kernel
theorem dX12_strum_8 : decode cX12_strum 8 = .ok (.iload_n 2, 1) := by decide +kernel
theorem dX12_strum_9 : decode cX12_strum 9 = .ok (.iconst 0, 1) := by decide +kernel
theorem dX12_strum_10 : decode cX12_strum 10 = .ok (.iconst 3, 1) := by decide +kernel
theorem dX12_strum_11 : decode cX12_strum 11 = .ok (.invokestatic 113, 3) := by decide +kernel
theorem dX12_strum_14 : decode cX12_strum 14 = .ok (.ifCond .ne 6, 3) := by decide +kernel
theorem dX12_strum_17 : decode cX12_strum 17 = .ok (.bipush (-2), 2) := by decide +kernel
theorem dX12_strum_19 : decode cX12_strum 19 = .ok (.ireturn, 1) := by decide +kernel
theorem dX12_strum_20 : decode cX12_strum 20 = .ok (.iconst 0, 1) := by decide +kernel
theorem dX12_strum_21 : decode cX12_strum 21 = .ok (.istore_n 3, 1) := by decide +kernel
theorem dX12_strum_22 : decode cX12_strum 22 = .ok (.iconst 0, 1) := by decide +kernel
theorem dX12_strum_23 : decode cX12_strum 23 = .ok (.istore 4, 2) := by decide +kernel
theorem dX12_strum_25 : decode cX12_strum 25 = .ok (.iload 4, 2) := by decide +kernel
theorem dX12_strum_27 : decode cX12_strum 27 = .ok (.aload_n 0, 1) := by decide +kernel
theorem dX12_strum_28 : decode cX12_strum 28 = .ok (.getfield 107, 3) := by decide +kernel
theorem dX12_strum_31 : decode cX12_strum 31 = .ok (.if_icmp .ge 88, 3) := by decide +kernel
theorem dX12_strum_34 : decode cX12_strum 34 = .ok (.aload_n 0, 1) := by decide +kernel
theorem dX12_strum_35 : decode cX12_strum 35 = .ok (.iload_n 1, 1) := by decide +kernel
theorem dX12_strum_36 : decode cX12_strum 36 = .ok (.iload 4, 2) := by decide +kernel
theorem dX12_strum_38 : decode cX12_strum 38 = .ok (.invokevirtual 157, 3) := by decide +kernel
theorem dX12_strum_41 : decode cX12_strum 41 = .ok (.ifCond .ne 6, 3) := by decide +kernel
theorem dX12_strum_44 : decode cX12_strum 44 = .ok (.goto 69, 3) := by decide +kernel
theorem dX12_strum_47 : decode cX12_strum 47 = .ok (.iload_n 3, 1) := by decide +kernel
theorem dX12_strum_48 : decode cX12_strum 48 = .ok (.istore 5, 2) := by decide +kernel
theorem dX12_strum_50 : decode cX12_strum 50 = .ok (.iload 5, 2) := by decide +kernel
theorem dX12_strum_52 : decode cX12_strum 52 = .ok (.ifCond .le 44, 3) := by decide +kernel
theorem dX12_strum_55 : decode cX12_strum 55 = .ok (.aload_n 0, 1) := by decide +kernel
theorem dX12_strum_56 : decode cX12_strum 56 = .ok (.getfield 38, 3) := by decide +kernel
theorem dX12_strum_59 : decode cX12_strum 59 = .ok (.iload 5, 2) := by decide +kernel
theorem dX12_strum_61 : decode cX12_strum 61 = .ok (.iconst 1, 1) := by decide +kernel
theorem dX12_strum_62 : decode cX12_strum 62 = .ok (.isub, 1) := by decide +kernel
theorem dX12_strum_63 : decode cX12_strum 63 = .ok (.iaload, 1) := by decide +kernel
theorem dX12_strum_64 : decode cX12_strum 64 = .ok (.aload_n 0, 1) := by decide +kernel
theorem dX12_strum_65 : decode cX12_strum 65 = .ok (.getfield 7, 3) := by decide +kernel
theorem dX12_strum_68 : decode cX12_strum 68 = .ok (.iload 4, 2) := by decide +kernel
theorem dX12_strum_70 : decode cX12_strum 70 = .ok (.iaload, 1) := by decide +kernel
theorem dX12_strum_71 : decode cX12_strum 71 = .ok (.if_icmp .le 25, 3) := by decide +kernel
theorem dX12_strum_74 : decode cX12_strum 74 = .ok (.aload_n 0, 1) := by decide +kernel
theorem dX12_strum_75 : decode cX12_strum 75 = .ok (.getfield 38, 3) := by decide +kernel
theorem dX12_strum_78 : decode cX12_strum 78 = .ok (.iload 5, 2) := by decide +kernel
theorem dX12_strum_80 : decode cX12_strum 80 = .ok (.aload_n 0, 1) := by decide +kernel
theorem dX12_strum_81 : decode cX12_strum 81 = .ok (.getfield 38, 3) := by decide +kernel
theorem dX12_strum_84 : decode cX12_strum 84 = .ok (.iload 5, 2) := by decide +kernel
theorem dX12_strum_86 : decode cX12_strum 86 = .ok (.iconst 1, 1) := by decide +kernel
theorem dX12_strum_87 : decode cX12_strum 87 = .ok (.isub, 1) := by decide +kernel
theorem dX12_strum_88 : decode cX12_strum 88 = .ok (.iaload, 1) := by decide +kernel
theorem dX12_strum_89 : decode cX12_strum 89 = .ok (.iastore, 1) := by decide +kernel
theorem dX12_strum_90 : decode cX12_strum 90 = .ok (.iinc 5 (-1), 3) := by decide +kernel
theorem dX12_strum_93 : decode cX12_strum 93 = .ok (.goto (-43), 3) := by decide +kernel
theorem dX12_strum_96 : decode cX12_strum 96 = .ok (.aload_n 0, 1) := by decide +kernel
theorem dX12_strum_97 : decode cX12_strum 97 = .ok (.getfield 38, 3) := by decide +kernel
theorem dX12_strum_100 : decode cX12_strum 100 = .ok (.iload 5, 2) := by decide +kernel
theorem dX12_strum_102 : decode cX12_strum 102 = .ok (.aload_n 0, 1) := by decide +kernel
theorem dX12_strum_103 : decode cX12_strum 103 = .ok (.getfield 7, 3) := by decide +kernel
theorem dX12_strum_106 : decode cX12_strum 106 = .ok (.iload 4, 2) := by decide +kernel
theorem dX12_strum_108 : decode cX12_strum 108 = .ok (.iaload, 1) := by decide +kernel
theorem dX12_strum_109 : decode cX12_strum 109 = .ok (.iastore, 1) := by decide +kernel
theorem dX12_strum_110 : decode cX12_strum 110 = .ok (.iinc 3 1, 3) := by decide +kernel
theorem dX12_strum_113 : decode cX12_strum 113 = .ok (.iinc 4 1, 3) := by decide +kernel
theorem dX12_strum_116 : decode cX12_strum 116 = .ok (.goto (-91), 3) := by decide +kernel
theorem dX12_strum_119 : decode cX12_strum 119 = .ok (.iconst 0, 1) := by decide +kernel
theorem dX12_strum_120 : decode cX12_strum 120 = .ok (.istore 4, 2) := by decide +kernel
theorem dX12_strum_122 : decode cX12_strum 122 = .ok (.iconst 1, 1) := by decide +kernel
theorem dX12_strum_123 : decode cX12_strum 123 = .ok (.istore 5, 2) := by decide +kernel
theorem dX12_strum_125 : decode cX12_strum 125 = .ok (.iload 5, 2) := by decide +kernel
theorem dX12_strum_127 : decode cX12_strum 127 = .ok (.iload_n 3, 1) := by decide +kernel
theorem dX12_strum_128 : decode cX12_strum 128 = .ok (.if_icmp .ge 44, 3) := by decide +kernel
theorem dX12_strum_131 : decode cX12_strum 131 = .ok (.aload_n 0, 1) := by decide +kernel
theorem dX12_strum_132 : decode cX12_strum 132 = .ok (.getfield 38, 3) := by decide +kernel
theorem dX12_strum_135 : decode cX12_strum 135 = .ok (.iload 5, 2) := by decide +kernel
theorem dX12_strum_137 : decode cX12_strum 137 = .ok (.iaload, 1) := by decide +kernel
theorem dX12_strum_138 : decode cX12_strum 138 = .ok (.aload_n 0, 1) := by decide +kernel
theorem dX12_strum_139 : decode cX12_strum 139 = .ok (.getfield 38, 3) := by decide +kernel
theorem dX12_strum_142 : decode cX12_strum 142 = .ok (.iload 5, 2) := by decide +kernel
theorem dX12_strum_144 : decode cX12_strum 144 = .ok (.iconst 1, 1) := by decide +kernel
theorem dX12_strum_145 : decode cX12_strum 145 = .ok (.isub, 1) := by decide +kernel
theorem dX12_strum_146 : decode cX12_strum 146 = .ok (.iaload, 1) := by decide +kernel
theorem dX12_strum_147 : decode cX12_strum 147 = .ok (.isub, 1) := by decide +kernel
theorem dX12_strum_148 : decode cX12_strum 148 = .ok (.istore 6, 2) := by decide +kernel
theorem dX12_strum_150 : decode cX12_strum 150 = .ok (.iload 6, 2) := by decide +kernel
theorem dX12_strum_152 : decode cX12_strum 152 = .ok (.iload 4, 2) := by decide +kernel
theorem dX12_strum_154 : decode cX12_strum 154 = .ok (.if_icmp .le 8, 3) := by decide +kernel
theorem dX12_strum_157 : decode cX12_strum 157 = .ok (.iload 6, 2) := by decide +kernel
theorem dX12_strum_159 : decode cX12_strum 159 = .ok (.goto 5, 3) := by decide +kernel
theorem dX12_strum_162 : decode cX12_strum 162 = .ok (.iload 4, 2) := by decide +kernel
theorem dX12_strum_164 : decode cX12_strum 164 = .ok (.istore 4, 2) := by decide +kernel
theorem dX12_strum_166 : decode cX12_strum 166 = .ok (.iinc 5 1, 3) := by decide +kernel
theorem dX12_strum_169 : decode cX12_strum 169 = .ok (.goto (-44), 3) := by decide +kernel
theorem dX12_strum_172 : decode cX12_strum 172 = .ok (.iload_n 2, 1) := by decide +kernel
theorem dX12_strum_173 : decode cX12_strum 173 = .ok (.tableswitch 63 0 2 #[27, 29, 45], 27) := by decide +kernel
theorem dX12_strum_200 : decode cX12_strum 200 = .ok (.iload_n 3, 1) := by decide +kernel
theorem dX12_strum_201 : decode cX12_strum 201 = .ok (.ireturn, 1) := by decide +kernel
theorem dX12_strum_202 : decode cX12_strum 202 = .ok (.iload_n 3, 1) := by decide +kernel
theorem dX12_strum_203 : decode cX12_strum 203 = .ok (.ifCond .ne 8, 3) := by decide +kernel
theorem dX12_strum_206 : decode cX12_strum 206 = .ok (.bipush (-9), 2) := by decide +kernel
theorem dX12_strum_208 : decode cX12_strum 208 = .ok (.goto 9, 3) := by decide +kernel
theorem dX12_strum_211 : decode cX12_strum 211 = .ok (.aload_n 0, 1) := by decide +kernel
theorem dX12_strum_212 : decode cX12_strum 212 = .ok (.getfield 38, 3) := by decide +kernel
theorem dX12_strum_215 : decode cX12_strum 215 = .ok (.iconst 0, 1) := by decide +kernel
theorem dX12_strum_216 : decode cX12_strum 216 = .ok (.iaload, 1) := by decide +kernel
theorem dX12_strum_217 : decode cX12_strum 217 = .ok (.ireturn, 1) := by decide +kernel
theorem dX12_strum_218 : decode cX12_strum 218 = .ok (.iload_n 3, 1) := by decide +kernel
theorem dX12_strum_219 : decode cX12_strum 219 = .ok (.ifCond .ne 8, 3) := by decide +kernel
theorem dX12_strum_222 : decode cX12_strum 222 = .ok (.bipush (-9), 2) := by decide +kernel
theorem dX12_strum_224 : decode cX12_strum 224 = .ok (.goto 11, 3) := by decide +kernel
theorem dX12_strum_227 : decode cX12_strum 227 = .ok (.aload_n 0, 1) := by decide +kernel
theorem dX12_strum_228 : decode cX12_strum 228 = .ok (.getfield 38, 3) := by decide +kernel
theorem dX12_strum_231 : decode cX12_strum 231 = .ok (.iload_n 3, 1) := by decide +kernel
theorem dX12_strum_232 : decode cX12_strum 232 = .ok (.iconst 1, 1) := by decide +kernel
theorem dX12_strum_233 : decode cX12_strum 233 = .ok (.isub, 1) := by decide +kernel
theorem dX12_strum_234 : decode cX12_strum 234 = .ok (.iaload, 1) := by decide +kernel
theorem dX12_strum_235 : decode cX12_strum 235 = .ok (.ireturn, 1) := by decide +kernel
theorem dX12_strum_236 : decode cX12_strum 236 = .ok (.iload 4, 2) := by decide +kernel
theorem dX12_strum_238 : decode cX12_strum 238 = .ok (.ireturn, 1) := by decide +kernel
theorem dX12_isSong_0 : decode cX12_isSong 0 = .ok (.iload_n 1, 1) := by decide +kernel
theorem dX12_isSong_1 : decode cX12_isSong 1 = .ok (.ifCond .lt 15, 3) := by decide +kernel
theorem dX12_isSong_4 : decode cX12_isSong 4 = .ok (.iload_n 1, 1) := by decide +kernel
theorem dX12_isSong_5 : decode cX12_isSong 5 = .ok (.aload_n 0, 1) := by decide +kernel
theorem dX12_isSong_6 : decode cX12_isSong 6 = .ok (.getfield 180, 3) := by decide +kernel
theorem dX12_isSong_9 : decode cX12_isSong 9 = .ok (.if_icmp .ge 7, 3) := by decide +kernel
theorem dX12_isSong_12 : decode cX12_isSong 12 = .ok (.iconst 1, 1) := by decide +kernel
theorem dX12_isSong_13 : decode cX12_isSong 13 = .ok (.goto 4, 3) := by decide +kernel
theorem dX12_isSong_16 : decode cX12_isSong 16 = .ok (.iconst 0, 1) := by decide +kernel
theorem dX12_isSong_17 : decode cX12_isSong 17 = .ok (.ireturn, 1) := by decide +kernel
theorem dX12_isStep_0 : decode cX12_isStep 0 = .ok (.aload_n 0, 1) := by decide +kernel
theorem dX12_isStep_1 : decode cX12_isStep 1 = .ok (.iload_n 1, 1) := by decide +kernel
theorem dX12_isStep_2 : decode cX12_isStep 2 = .ok (.invokevirtual 183, 3) := by decide +kernel
theorem dX12_isStep_5 : decode cX12_isStep 5 = .ok (.ifCond .eq 21, 3) := by decide +kernel
theorem dX12_isStep_8 : decode cX12_isStep 8 = .ok (.iload_n 2, 1) := by decide +kernel
theorem dX12_isStep_9 : decode cX12_isStep 9 = .ok (.ifCond .lt 17, 3) := by decide +kernel
theorem dX12_isStep_12 : decode cX12_isStep 12 = .ok (.iload_n 2, 1) := by decide +kernel
theorem dX12_isStep_13 : decode cX12_isStep 13 = .ok (.aload_n 0, 1) := by decide +kernel
theorem dX12_isStep_14 : decode cX12_isStep 14 = .ok (.getfield 41, 3) := by decide +kernel
theorem dX12_isStep_17 : decode cX12_isStep 17 = .ok (.iload_n 1, 1) := by decide +kernel
theorem dX12_isStep_18 : decode cX12_isStep 18 = .ok (.iaload, 1) := by decide +kernel
theorem dX12_isStep_19 : decode cX12_isStep 19 = .ok (.if_icmp .ge 7, 3) := by decide +kernel
theorem dX12_isStep_22 : decode cX12_isStep 22 = .ok (.iconst 1, 1) := by decide +kernel
theorem dX12_isStep_23 : decode cX12_isStep 23 = .ok (.goto 4, 3) := by decide +kernel
theorem dX12_isStep_26 : decode cX12_isStep 26 = .ok (.iconst 0, 1) := by decide +kernel
theorem dX12_isStep_27 : decode cX12_isStep 27 = .ok (.ireturn, 1) := by decide +kernel
theorem dX12_song_0 : decode cX12_song 0 = .ok (.aload_n 0, 1) := by decide +kernel
theorem dX12_song_1 : decode cX12_song 1 = .ok (.iconst 0, 1) := by decide +kernel
theorem dX12_song_2 : decode cX12_song 2 = .ok (.putfield 101, 3) := by decide +kernel
theorem dX12_song_5 : decode cX12_song 5 = .ok (.iload_n 1, 1) := by decide +kernel
theorem dX12_song_6 : decode cX12_song 6 = .ok (.iconst 0, 1) := by decide +kernel
theorem dX12_song_7 : decode cX12_song 7 = .ok (.iconst 3, 1) := by decide +kernel
theorem dX12_song_8 : decode cX12_song 8 = .ok (.invokestatic 113, 3) := by decide +kernel
theorem dX12_song_11 : decode cX12_song 11 = .ok (.ifCond .ne 5, 3) := by decide +kernel
theorem dX12_song_14 : decode cX12_song 14 = .ok (.iconst (-1), 1) := by decide +kernel
theorem dX12_song_15 : decode cX12_song 15 = .ok (.ireturn, 1) := by decide +kernel
theorem dX12_song_16 : decode cX12_song 16 = .ok (.iload_n 2, 1) := by decide +kernel
theorem dX12_song_17 : decode cX12_song 17 = .ok (.iconst 0, 1) := by decide +kernel
theorem dX12_song_18 : decode cX12_song 18 = .ok (.iconst 2, 1) := by decide +kernel
theorem dX12_song_19 : decode cX12_song 19 = .ok (.invokestatic 113, 3) := by decide +kernel
theorem dX12_song_22 : decode cX12_song 22 = .ok (.ifCond .ne 6, 3) := by decide +kernel
theorem dX12_song_25 : decode cX12_song 25 = .ok (.bipush (-2), 2) := by decide +kernel
theorem dX12_song_27 : decode cX12_song 27 = .ok (.ireturn, 1) := by decide +kernel
theorem dX12_song_28 : decode cX12_song 28 = .ok (.aload_n 0, 1) := by decide +kernel
theorem dX12_song_29 : decode cX12_song 29 = .ok (.getfield 53, 3) := by decide +kernel
theorem dX12_song_32 : decode cX12_song 32 = .ok (.iload_n 1, 1) := by decide +kernel
theorem dX12_song_33 : decode cX12_song 33 = .ok (.iaload, 1) := by decide +kernel
theorem dX12_song_34 : decode cX12_song 34 = .ok (.bipush (-9), 2) := by decide +kernel
theorem dX12_song_36 : decode cX12_song 36 = .ok (.if_icmp .eq 19, 3) := by decide +kernel
theorem dX12_song_39 : decode cX12_song 39 = .ok (.aload_n 0, 1) := by decide +kernel
theorem dX12_song_40 : decode cX12_song 40 = .ok (.getfield 53, 3) := by decide +kernel
theorem dX12_song_43 : decode cX12_song 43 = .ok (.iload_n 1, 1) := by decide +kernel
theorem dX12_song_44 : decode cX12_song 44 = .ok (.iaload, 1) := by decide +kernel
theorem dX12_song_45 : decode cX12_song 45 = .ok (.iload_n 2, 1) := by decide +kernel
theorem dX12_song_46 : decode cX12_song 46 = .ok (.if_icmp .eq 9, 3) := by decide +kernel
theorem dX12_song_49 : decode cX12_song 49 = .ok (.aload_n 0, 1) := by decide +kernel
theorem dX12_song_50 : decode cX12_song 50 = .ok (.iconst 2, 1) := by decide +kernel
theorem dX12_song_51 : decode cX12_song 51 = .ok (.invokevirtual 186, 3) := by decide +kernel
theorem dX12_song_54 : decode cX12_song 54 = .ok (.ireturn, 1) := by decide +kernel
theorem dX12_song_55 : decode cX12_song 55 = .ok (.aload_n 0, 1) := by decide +kernel
theorem dX12_song_56 : decode cX12_song 56 = .ok (.getfield 53, 3) := by decide +kernel
theorem dX12_song_59 : decode cX12_song 59 = .ok (.iload_n 1, 1) := by decide +kernel
theorem dX12_song_60 : decode cX12_song 60 = .ok (.iaload, 1) := by decide +kernel
theorem dX12_song_61 : decode cX12_song 61 = .ok (.bipush (-9), 2) := by decide +kernel
theorem dX12_song_63 : decode cX12_song 63 = .ok (.if_icmp .ne 9, 3) := by decide +kernel
theorem dX12_song_66 : decode cX12_song 66 = .ok (.aload_n 0, 1) := by decide +kernel
theorem dX12_song_67 : decode cX12_song 67 = .ok (.iconst 1, 1) := by decide +kernel
theorem dX12_song_68 : decode cX12_song 68 = .ok (.invokevirtual 186, 3) := by decide +kernel
theorem dX12_song_71 : decode cX12_song 71 = .ok (.ireturn, 1) := by decide +kernel
theorem dX12_song_72 : decode cX12_song 72 = .ok (.iload 4, 2) := by decide +kernel
theorem dX12_song_74 : decode cX12_song 74 = .ok (.ifCond .ge 9, 3) := by decide +kernel
theorem dX12_song_77 : decode cX12_song 77 = .ok (.aload_n 0, 1) := by decide +kernel
theorem dX12_song_78 : decode cX12_song 78 = .ok (.iconst 4, 1) := by decide +kernel
theorem dX12_song_79 : decode cX12_song 79 = .ok (.invokevirtual 186, 3) := by decide +kernel
theorem dX12_song_82 : decode cX12_song 82 = .ok (.ireturn, 1) := by decide +kernel
theorem dX12_song_83 : decode cX12_song 83 = .ok (.iload_n 3, 1) := by decide +kernel
theorem dX12_song_84 : decode cX12_song 84 = .ok (.ifCond .lt 33, 3) := by decide +kernel
theorem dX12_song_87 : decode cX12_song 87 = .ok (.iload_n 3, 1) := by decide +kernel
theorem dX12_song_88 : decode cX12_song 88 = .ok (.aload_n 0, 1) := by decide +kernel
theorem dX12_song_89 : decode cX12_song 89 = .ok (.getfield 56, 3) := by decide +kernel
theorem dX12_song_92 : decode cX12_song 92 = .ok (.iload_n 1, 1) := by decide +kernel
theorem dX12_song_93 : decode cX12_song 93 = .ok (.iaload, 1) := by decide +kernel
theorem dX12_song_94 : decode cX12_song 94 = .ok (.if_icmp .gt 23, 3) := by decide +kernel
theorem dX12_song_97 : decode cX12_song 97 = .ok (.ldc2_w 189, 3) := by decide +kernel
theorem dX12_song_100 : decode cX12_song 100 = .ok (.iload 4, 2) := by decide +kernel
theorem dX12_song_102 : decode cX12_song 102 = .ok (.i2l, 1) := by decide +kernel
theorem dX12_song_103 : decode cX12_song 103 = .ok (.lmul, 1) := by decide +kernel
theorem dX12_song_104 : decode cX12_song 104 = .ok (.aload_n 0, 1) := by decide +kernel
theorem dX12_song_105 : decode cX12_song 105 = .ok (.getfield 56, 3) := by decide +kernel
theorem dX12_song_108 : decode cX12_song 108 = .ok (.iload_n 1, 1) := by decide +kernel
theorem dX12_song_109 : decode cX12_song 109 = .ok (.iaload, 1) := by decide +kernel
theorem dX12_song_110 : decode cX12_song 110 = .ok (.iload_n 3, 1) := by decide +kernel
theorem dX12_song_111 : decode cX12_song 111 = .ok (.isub, 1) := by decide +kernel
theorem dX12_song_112 : decode cX12_song 112 = .ok (.i2l, 1) := by decide +kernel
theorem dX12_song_113 : decode cX12_song 113 = .ok (.lcmp, 1) := by decide +kernel
theorem dX12_song_114 : decode cX12_song 114 = .ok (.ifCond .le 9, 3) := by decide +kernel
theorem dX12_song_117 : decode cX12_song 117 = .ok (.aload_n 0, 1) := by decide +kernel
theorem dX12_song_118 : decode cX12_song 118 = .ok (.iconst 3, 1) := by decide +kernel
theorem dX12_song_119 : decode cX12_song 119 = .ok (.invokevirtual 186, 3) := by decide +kernel
theorem dX12_song_122 : decode cX12_song 122 = .ok (.ireturn, 1) := by decide +kernel
theorem dX12_song_123 : decode cX12_song 123 = .ok (.iload 4, 2) := by decide +kernel
theorem dX12_song_125 : decode cX12_song 125 = .ok (.iconst 1, 1) := by decide +kernel
theorem dX12_song_126 : decode cX12_song 126 = .ok (.bipush 24, 2) := by decide +kernel
theorem dX12_song_128 : decode cX12_song 128 = .ok (.invokestatic 113, 3) := by decide +kernel
theorem dX12_song_131 : decode cX12_song 131 = .ok (.ifCond .ne 6, 3) := by decide +kernel
theorem dX12_song_134 : decode cX12_song 134 = .ok (.bipush (-2), 2) := by decide +kernel
theorem dX12_song_136 : decode cX12_song 136 = .ok (.ireturn, 1) := by decide +kernel
theorem dX12_song_137 : decode cX12_song 137 = .ok (.iconst 0, 1) := by decide +kernel
theorem dX12_song_138 : decode cX12_song 138 = .ok (.istore 5, 2) := by decide +kernel
theorem dX12_song_140 : decode cX12_song 140 = .ok (.iload 5, 2) := by decide +kernel
theorem dX12_song_142 : decode cX12_song 142 = .ok (.iload 4, 2) := by decide +kernel
theorem dX12_song_144 : decode cX12_song 144 = .ok (.if_icmp .ge 56, 3) := by decide +kernel
theorem dX12_song_147 : decode cX12_song 147 = .ok (.bipush 64, 2) := by decide +kernel
theorem dX12_song_149 : decode cX12_song 149 = .ok (.iload_n 1, 1) := by decide +kernel
theorem dX12_song_150 : decode cX12_song 150 = .ok (.imul, 1) := by decide +kernel
theorem dX12_song_151 : decode cX12_song 151 = .ok (.iload_n 3, 1) := by decide +kernel
theorem dX12_song_152 : decode cX12_song 152 = .ok (.iadd, 1) := by decide +kernel
theorem dX12_song_153 : decode cX12_song 153 = .ok (.iconst 2, 1) := by decide +kernel
theorem dX12_song_154 : decode cX12_song 154 = .ok (.iload 5, 2) := by decide +kernel
theorem dX12_song_156 : decode cX12_song 156 = .ok (.imul, 1) := by decide +kernel
theorem dX12_song_157 : decode cX12_song 157 = .ok (.iadd, 1) := by decide +kernel
theorem dX12_song_158 : decode cX12_song 158 = .ok (.istore 6, 2) := by decide +kernel
theorem dX12_song_160 : decode cX12_song 160 = .ok (.aload_n 0, 1) := by decide +kernel
theorem dX12_song_161 : decode cX12_song 161 = .ok (.getfield 59, 3) := by decide +kernel
theorem dX12_song_164 : decode cX12_song 164 = .ok (.iload 6, 2) := by decide +kernel
theorem dX12_song_166 : decode cX12_song 166 = .ok (.iaload, 1) := by decide +kernel
theorem dX12_song_167 : decode cX12_song 167 = .ok (.invokestatic 142, 3) := by decide +kernel
theorem dX12_song_170 : decode cX12_song 170 = .ok (.ifCond .eq 21, 3) := by decide +kernel
theorem dX12_song_173 : decode cX12_song 173 = .ok (.aload_n 0, 1) := by decide +kernel
theorem dX12_song_174 : decode cX12_song 174 = .ok (.getfield 59, 3) := by decide +kernel
theorem dX12_song_177 : decode cX12_song 177 = .ok (.iload 6, 2) := by decide +kernel
theorem dX12_song_179 : decode cX12_song 179 = .ok (.iconst 1, 1) := by decide +kernel
theorem dX12_song_180 : decode cX12_song 180 = .ok (.iadd, 1) := by decide +kernel
theorem dX12_song_181 : decode cX12_song 181 = .ok (.iaload, 1) := by decide +kernel
theorem dX12_song_182 : decode cX12_song 182 = .ok (.iconst (-1), 1) := by decide +kernel
theorem dX12_song_183 : decode cX12_song 183 = .ok (.bipush 60, 2) := by decide +kernel
theorem dX12_song_185 : decode cX12_song 185 = .ok (.invokestatic 113, 3) := by decide +kernel
theorem dX12_song_188 : decode cX12_song 188 = .ok (.ifCond .ne 6, 3) := by decide +kernel
theorem dX12_song_191 : decode cX12_song 191 = .ok (.bipush (-2), 2) := by decide +kernel
theorem dX12_song_193 : decode cX12_song 193 = .ok (.ireturn, 1) := by decide +kernel
theorem dX12_song_194 : decode cX12_song 194 = .ok (.iinc 5 1, 3) := by decide +kernel
theorem dX12_song_197 : decode cX12_song 197 = .ok (.goto (-57), 3) := by decide +kernel
theorem dX12_song_200 : decode cX12_song 200 = .ok (.aload_n 0, 1) := by decide +kernel
theorem dX12_song_201 : decode cX12_song 201 = .ok (.getfield 180, 3) := by decide +kernel
theorem dX12_song_204 : decode cX12_song 204 = .ok (.bipush 8, 2) := by decide +kernel
theorem dX12_song_206 : decode cX12_song 206 = .ok (.if_icmp .ne 6, 3) := by decide +kernel
theorem dX12_song_209 : decode cX12_song 209 = .ok (.bipush (-4), 2) := by decide +kernel
theorem dX12_song_211 : decode cX12_song 211 = .ok (.ireturn, 1) := by decide +kernel
theorem dX12_song_212 : decode cX12_song 212 = .ok (.iconst 0, 1) := by decide +kernel
theorem dX12_song_213 : decode cX12_song 213 = .ok (.istore 5, 2) := by decide +kernel
theorem dX12_song_215 : decode cX12_song 215 = .ok (.iload 5, 2) := by decide +kernel
theorem dX12_song_217 : decode cX12_song 217 = .ok (.iload 4, 2) := by decide +kernel
theorem dX12_song_219 : decode cX12_song 219 = .ok (.if_icmp .ge 68, 3) := by decide +kernel
theorem dX12_song_222 : decode cX12_song 222 = .ok (.bipush 64, 2) := by decide +kernel
theorem dX12_song_224 : decode cX12_song 224 = .ok (.iload_n 1, 1) := by decide +kernel
theorem dX12_song_225 : decode cX12_song 225 = .ok (.imul, 1) := by decide +kernel
theorem dX12_song_226 : decode cX12_song 226 = .ok (.iload_n 3, 1) := by decide +kernel
theorem dX12_song_227 : decode cX12_song 227 = .ok (.iadd, 1) := by decide +kernel
theorem dX12_song_228 : decode cX12_song 228 = .ok (.iconst 2, 1) := by decide +kernel
theorem dX12_song_229 : decode cX12_song 229 = .ok (.iload 5, 2) := by decide +kernel
theorem dX12_song_231 : decode cX12_song 231 = .ok (.imul, 1) := by decide +kernel
theorem dX12_song_232 : decode cX12_song 232 = .ok (.iadd, 1) := by decide +kernel
theorem dX12_song_233 : decode cX12_song 233 = .ok (.istore 6, 2) := by decide +kernel
theorem dX12_song_235 : decode cX12_song 235 = .ok (.aload_n 0, 1) := by decide +kernel
theorem dX12_song_236 : decode cX12_song 236 = .ok (.getfield 47, 3) := by decide +kernel
theorem dX12_song_239 : decode cX12_song 239 = .ok (.bipush 24, 2) := by decide +kernel
theorem dX12_song_241 : decode cX12_song 241 = .ok (.aload_n 0, 1) := by decide +kernel
theorem dX12_song_242 : decode cX12_song 242 = .ok (.getfield 180, 3) := by decide +kernel
theorem dX12_song_245 : decode cX12_song 245 = .ok (.imul, 1) := by decide +kernel
theorem dX12_song_246 : decode cX12_song 246 = .ok (.iload 5, 2) := by decide +kernel
theorem dX12_song_248 : decode cX12_song 248 = .ok (.iadd, 1) := by decide +kernel
theorem dX12_song_249 : decode cX12_song 249 = .ok (.aload_n 0, 1) := by decide +kernel
theorem dX12_song_250 : decode cX12_song 250 = .ok (.getfield 59, 3) := by decide +kernel
theorem dX12_song_253 : decode cX12_song 253 = .ok (.iload 6, 2) := by decide +kernel
theorem dX12_song_255 : decode cX12_song 255 = .ok (.iaload, 1) := by decide +kernel
theorem dX12_song_256 : decode cX12_song 256 = .ok (.iastore, 1) := by decide +kernel
theorem dX12_song_257 : decode cX12_song 257 = .ok (.aload_n 0, 1) := by decide +kernel
theorem dX12_song_258 : decode cX12_song 258 = .ok (.getfield 50, 3) := by decide +kernel
theorem dX12_song_261 : decode cX12_song 261 = .ok (.bipush 24, 2) := by decide +kernel
theorem dX12_song_263 : decode cX12_song 263 = .ok (.aload_n 0, 1) := by decide +kernel
theorem dX12_song_264 : decode cX12_song 264 = .ok (.getfield 180, 3) := by decide +kernel
theorem dX12_song_267 : decode cX12_song 267 = .ok (.imul, 1) := by decide +kernel
theorem dX12_song_268 : decode cX12_song 268 = .ok (.iload 5, 2) := by decide +kernel
theorem dX12_song_270 : decode cX12_song 270 = .ok (.iadd, 1) := by decide +kernel
theorem dX12_song_271 : decode cX12_song 271 = .ok (.aload_n 0, 1) := by decide +kernel
theorem dX12_song_272 : decode cX12_song 272 = .ok (.getfield 59, 3) := by decide +kernel
theorem dX12_song_275 : decode cX12_song 275 = .ok (.iload 6, 2) := by decide +kernel
theorem dX12_song_277 : decode cX12_song 277 = .ok (.iconst 1, 1) := by decide +kernel
theorem dX12_song_278 : decode cX12_song 278 = .ok (.iadd, 1) := by decide +kernel
theorem dX12_song_279 : decode cX12_song 279 = .ok (.iaload, 1) := by decide +kernel
theorem dX12_song_280 : decode cX12_song 280 = .ok (.iastore, 1) := by decide +kernel
theorem dX12_song_281 : decode cX12_song 281 = .ok (.iinc 5 1, 3) := by decide +kernel
theorem dX12_song_284 : decode cX12_song 284 = .ok (.goto (-69), 3) := by decide +kernel
theorem dX12_song_287 : decode cX12_song 287 = .ok (.aload_n 0, 1) := by decide +kernel
theorem dX12_song_288 : decode cX12_song 288 = .ok (.getfield 41, 3) := by decide +kernel
theorem dX12_song_291 : decode cX12_song 291 = .ok (.aload_n 0, 1) := by decide +kernel
theorem dX12_song_292 : decode cX12_song 292 = .ok (.getfield 180, 3) := by decide +kernel
theorem dX12_song_295 : decode cX12_song 295 = .ok (.iload 4, 2) := by decide +kernel
theorem dX12_song_297 : decode cX12_song 297 = .ok (.iastore, 1) := by decide +kernel
theorem dX12_song_298 : decode cX12_song 298 = .ok (.aload_n 0, 1) := by decide +kernel
theorem dX12_song_299 : decode cX12_song 299 = .ok (.getfield 44, 3) := by decide +kernel
theorem dX12_song_302 : decode cX12_song 302 = .ok (.aload_n 0, 1) := by decide +kernel
theorem dX12_song_303 : decode cX12_song 303 = .ok (.getfield 180, 3) := by decide +kernel
theorem dX12_song_306 : decode cX12_song 306 = .ok (.iconst 0, 1) := by decide +kernel
theorem dX12_song_307 : decode cX12_song 307 = .ok (.iastore, 1) := by decide +kernel
theorem dX12_song_308 : decode cX12_song 308 = .ok (.aload_n 0, 1) := by decide +kernel
theorem dX12_song_309 : decode cX12_song 309 = .ok (.dup, 1) := by decide +kernel
theorem dX12_song_310 : decode cX12_song 310 = .ok (.getfield 180, 3) := by decide +kernel
theorem dX12_song_313 : decode cX12_song 313 = .ok (.iconst 1, 1) := by decide +kernel
theorem dX12_song_314 : decode cX12_song 314 = .ok (.iadd, 1) := by decide +kernel
theorem dX12_song_315 : decode cX12_song 315 = .ok (.putfield 180, 3) := by decide +kernel
theorem dX12_song_318 : decode cX12_song 318 = .ok (.aload_n 0, 1) := by decide +kernel
theorem dX12_song_319 : decode cX12_song 319 = .ok (.getfield 180, 3) := by decide +kernel
theorem dX12_song_322 : decode cX12_song 322 = .ok (.iconst 1, 1) := by decide +kernel
theorem dX12_song_323 : decode cX12_song 323 = .ok (.isub, 1) := by decide +kernel
theorem dX12_song_324 : decode cX12_song 324 = .ok (.ireturn, 1) := by decide +kernel
theorem dX12_chordAt_0 : decode cX12_chordAt 0 = .ok (.aload_n 0, 1) := by decide +kernel
theorem dX12_chordAt_1 : decode cX12_chordAt 1 = .ok (.getfield 47, 3) := by decide +kernel
theorem dX12_chordAt_4 : decode cX12_chordAt 4 = .ok (.bipush 24, 2) := by decide +kernel
theorem dX12_chordAt_6 : decode cX12_chordAt 6 = .ok (.iload_n 1, 1) := by decide +kernel
theorem dX12_chordAt_7 : decode cX12_chordAt 7 = .ok (.imul, 1) := by decide +kernel
theorem dX12_chordAt_8 : decode cX12_chordAt 8 = .ok (.iload_n 2, 1) := by decide +kernel
theorem dX12_chordAt_9 : decode cX12_chordAt 9 = .ok (.iadd, 1) := by decide +kernel
theorem dX12_chordAt_10 : decode cX12_chordAt 10 = .ok (.iaload, 1) := by decide +kernel
theorem dX12_chordAt_11 : decode cX12_chordAt 11 = .ok (.istore 4, 2) := by decide +kernel
theorem dX12_chordAt_13 : decode cX12_chordAt 13 = .ok (.iload 4, 2) := by decide +kernel
theorem dX12_chordAt_15 : decode cX12_chordAt 15 = .ok (.bipush 12, 2) := by decide +kernel
theorem dX12_chordAt_17 : decode cX12_chordAt 17 = .ok (.idiv, 1) := by decide +kernel
theorem dX12_chordAt_18 : decode cX12_chordAt 18 = .ok (.bipush 12, 2) := by decide +kernel
theorem dX12_chordAt_20 : decode cX12_chordAt 20 = .ok (.imul, 1) := by decide +kernel
theorem dX12_chordAt_21 : decode cX12_chordAt 21 = .ok (.iload 4, 2) := by decide +kernel
theorem dX12_chordAt_23 : decode cX12_chordAt 23 = .ok (.bipush 12, 2) := by decide +kernel
theorem dX12_chordAt_25 : decode cX12_chordAt 25 = .ok (.irem, 1) := by decide +kernel
theorem dX12_chordAt_26 : decode cX12_chordAt 26 = .ok (.iload_n 3, 1) := by decide +kernel
theorem dX12_chordAt_27 : decode cX12_chordAt 27 = .ok (.iadd, 1) := by decide +kernel
theorem dX12_chordAt_28 : decode cX12_chordAt 28 = .ok (.bipush 12, 2) := by decide +kernel
theorem dX12_chordAt_30 : decode cX12_chordAt 30 = .ok (.iadd, 1) := by decide +kernel
theorem dX12_chordAt_31 : decode cX12_chordAt 31 = .ok (.bipush 12, 2) := by decide +kernel
theorem dX12_chordAt_33 : decode cX12_chordAt 33 = .ok (.irem, 1) := by decide +kernel
theorem dX12_chordAt_34 : decode cX12_chordAt 34 = .ok (.iadd, 1) := by decide +kernel
theorem dX12_chordAt_35 : decode cX12_chordAt 35 = .ok (.ireturn, 1) := by decide +kernel
theorem dX12_hasNote_0 : decode cX12_hasNote 0 = .ok (.aload_n 0, 1) := by decide +kernel
theorem dX12_hasNote_1 : decode cX12_hasNote 1 = .ok (.getfield 50, 3) := by decide +kernel
theorem dX12_hasNote_4 : decode cX12_hasNote 4 = .ok (.bipush 24, 2) := by decide +kernel
theorem dX12_hasNote_6 : decode cX12_hasNote 6 = .ok (.iload_n 1, 1) := by decide +kernel
theorem dX12_hasNote_7 : decode cX12_hasNote 7 = .ok (.imul, 1) := by decide +kernel
theorem dX12_hasNote_8 : decode cX12_hasNote 8 = .ok (.iload_n 2, 1) := by decide +kernel
theorem dX12_hasNote_9 : decode cX12_hasNote 9 = .ok (.iadd, 1) := by decide +kernel
theorem dX12_hasNote_10 : decode cX12_hasNote 10 = .ok (.iaload, 1) := by decide +kernel
theorem dX12_hasNote_11 : decode cX12_hasNote 11 = .ok (.ifCond .lt 7, 3) := by decide +kernel
theorem dX12_hasNote_14 : decode cX12_hasNote 14 = .ok (.iconst 1, 1) := by decide +kernel
theorem dX12_hasNote_15 : decode cX12_hasNote 15 = .ok (.goto 4, 3) := by decide +kernel
theorem dX12_hasNote_18 : decode cX12_hasNote 18 = .ok (.iconst 0, 1) := by decide +kernel
theorem dX12_hasNote_19 : decode cX12_hasNote 19 = .ok (.ireturn, 1) := by decide +kernel
theorem dX12_noteAt_0 : decode cX12_noteAt 0 = .ok (.aload_n 0, 1) := by decide +kernel
theorem dX12_noteAt_1 : decode cX12_noteAt 1 = .ok (.getfield 50, 3) := by decide +kernel
theorem dX12_noteAt_4 : decode cX12_noteAt 4 = .ok (.bipush 24, 2) := by decide +kernel
theorem dX12_noteAt_6 : decode cX12_noteAt 6 = .ok (.iload_n 1, 1) := by decide +kernel
theorem dX12_noteAt_7 : decode cX12_noteAt 7 = .ok (.imul, 1) := by decide +kernel
theorem dX12_noteAt_8 : decode cX12_noteAt 8 = .ok (.iload_n 2, 1) := by decide +kernel
theorem dX12_noteAt_9 : decode cX12_noteAt 9 = .ok (.iadd, 1) := by decide +kernel
theorem dX12_noteAt_10 : decode cX12_noteAt 10 = .ok (.iaload, 1) := by decide +kernel
theorem dX12_noteAt_11 : decode cX12_noteAt 11 = .ok (.iload_n 3, 1) := by decide +kernel
theorem dX12_noteAt_12 : decode cX12_noteAt 12 = .ok (.iadd, 1) := by decide +kernel
theorem dX12_noteAt_13 : decode cX12_noteAt 13 = .ok (.ireturn, 1) := by decide +kernel
theorem dX12_isHeard_0 : decode cX12_isHeard 0 = .ok (.iconst 0, 1) := by decide +kernel
theorem dX12_isHeard_1 : decode cX12_isHeard 1 = .ok (.istore_n 3, 1) := by decide +kernel
theorem dX12_isHeard_2 : decode cX12_isHeard 2 = .ok (.iload_n 3, 1) := by decide +kernel
theorem dX12_isHeard_3 : decode cX12_isHeard 3 = .ok (.aload_n 0, 1) := by decide +kernel
theorem dX12_isHeard_4 : decode cX12_isHeard 4 = .ok (.getfield 107, 3) := by decide +kernel
theorem dX12_isHeard_7 : decode cX12_isHeard 7 = .ok (.if_icmp .ge 30, 3) := by decide +kernel
theorem dX12_isHeard_10 : decode cX12_isHeard 10 = .ok (.aload_n 0, 1) := by decide +kernel
theorem dX12_isHeard_11 : decode cX12_isHeard 11 = .ok (.getfield 7, 3) := by decide +kernel
theorem dX12_isHeard_14 : decode cX12_isHeard 14 = .ok (.iload_n 3, 1) := by decide +kernel
theorem dX12_isHeard_15 : decode cX12_isHeard 15 = .ok (.iaload, 1) := by decide +kernel
theorem dX12_isHeard_16 : decode cX12_isHeard 16 = .ok (.iload_n 1, 1) := by decide +kernel
theorem dX12_isHeard_17 : decode cX12_isHeard 17 = .ok (.if_icmp .ne 14, 3) := by decide +kernel
theorem dX12_isHeard_20 : decode cX12_isHeard 20 = .ok (.aload_n 0, 1) := by decide +kernel
theorem dX12_isHeard_21 : decode cX12_isHeard 21 = .ok (.iload_n 2, 1) := by decide +kernel
theorem dX12_isHeard_22 : decode cX12_isHeard 22 = .ok (.iload_n 3, 1) := by decide +kernel
theorem dX12_isHeard_23 : decode cX12_isHeard 23 = .ok (.invokevirtual 157, 3) := by decide +kernel
theorem dX12_isHeard_26 : decode cX12_isHeard 26 = .ok (.ifCond .eq 5, 3) := by decide +kernel
theorem dX12_isHeard_29 : decode cX12_isHeard 29 = .ok (.iconst 1, 1) := by decide +kernel
theorem dX12_isHeard_30 : decode cX12_isHeard 30 = .ok (.ireturn, 1) := by decide +kernel
theorem dX12_isHeard_31 : decode cX12_isHeard 31 = .ok (.iinc 3 1, 3) := by decide +kernel
theorem dX12_isHeard_34 : decode cX12_isHeard 34 = .ok (.goto (-32), 3) := by decide +kernel
theorem dX12_isHeard_37 : decode cX12_isHeard 37 = .ok (.iconst 0, 1) := by decide +kernel
theorem dX12_isHeard_38 : decode cX12_isHeard 38 = .ok (.ireturn, 1) := by decide +kernel
theorem dX12_missAt_0 : decode cX12_missAt 0 = .ok (.aload_n 0, 1) := by decide +kernel
theorem dX12_missAt_1 : decode cX12_missAt 1 = .ok (.getfield 35, 3) := by decide +kernel
theorem dX12_missAt_4 : decode cX12_missAt 4 = .ok (.aload_n 0, 1) := by decide +kernel
theorem dX12_missAt_5 : decode cX12_missAt 5 = .ok (.iload_n 1, 1) := by decide +kernel
theorem dX12_missAt_6 : decode cX12_missAt 6 = .ok (.iload_n 2, 1) := by decide +kernel
theorem dX12_missAt_7 : decode cX12_missAt 7 = .ok (.iload_n 3, 1) := by decide +kernel
theorem dX12_missAt_8 : decode cX12_missAt 8 = .ok (.invokevirtual 191, 3) := by decide +kernel
theorem dX12_missAt_11 : decode cX12_missAt 11 = .ok (.iaload, 1) := by decide +kernel
theorem dX12_missAt_12 : decode cX12_missAt 12 = .ok (.istore 5, 2) := by decide +kernel
theorem dX12_missAt_14 : decode cX12_missAt 14 = .ok (.iload 4, 2) := by decide +kernel
theorem dX12_missAt_16 : decode cX12_missAt 16 = .ok (.ifCond .ne 16, 3) := by decide +kernel
theorem dX12_missAt_19 : decode cX12_missAt 19 = .ok (.iload 5, 2) := by decide +kernel
theorem dX12_missAt_21 : decode cX12_missAt 21 = .ok (.bipush (-9), 2) := by decide +kernel
theorem dX12_missAt_23 : decode cX12_missAt 23 = .ok (.if_icmp .ne 7, 3) := by decide +kernel
theorem dX12_missAt_26 : decode cX12_missAt 26 = .ok (.iconst 1, 1) := by decide +kernel
theorem dX12_missAt_27 : decode cX12_missAt 27 = .ok (.goto 4, 3) := by decide +kernel
theorem dX12_missAt_30 : decode cX12_missAt 30 = .ok (.iconst 0, 1) := by decide +kernel
theorem dX12_missAt_31 : decode cX12_missAt 31 = .ok (.ireturn, 1) := by decide +kernel
theorem dX12_missAt_32 : decode cX12_missAt 32 = .ok (.aload_n 0, 1) := by decide +kernel
theorem dX12_missAt_33 : decode cX12_missAt 33 = .ok (.iload_n 1, 1) := by decide +kernel
theorem dX12_missAt_34 : decode cX12_missAt 34 = .ok (.iload_n 2, 1) := by decide +kernel
theorem dX12_missAt_35 : decode cX12_missAt 35 = .ok (.invokevirtual 195, 3) := by decide +kernel
theorem dX12_missAt_38 : decode cX12_missAt 38 = .ok (.ifCond .eq 27, 3) := by decide +kernel
theorem dX12_missAt_41 : decode cX12_missAt 41 = .ok (.aload_n 0, 1) := by decide +kernel
theorem dX12_missAt_42 : decode cX12_missAt 42 = .ok (.aload_n 0, 1) := by decide +kernel
theorem dX12_missAt_43 : decode cX12_missAt 43 = .ok (.iload_n 1, 1) := by decide +kernel
theorem dX12_missAt_44 : decode cX12_missAt 44 = .ok (.iload_n 2, 1) := by decide +kernel
theorem dX12_missAt_45 : decode cX12_missAt 45 = .ok (.iload_n 3, 1) := by decide +kernel
theorem dX12_missAt_46 : decode cX12_missAt 46 = .ok (.invokevirtual 198, 3) := by decide +kernel
theorem dX12_missAt_49 : decode cX12_missAt 49 = .ok (.aload_n 0, 1) := by decide +kernel
theorem dX12_missAt_50 : decode cX12_missAt 50 = .ok (.iload 5, 2) := by decide +kernel
theorem dX12_missAt_52 : decode cX12_missAt 52 = .ok (.invokevirtual 201, 3) := by decide +kernel
theorem dX12_missAt_55 : decode cX12_missAt 55 = .ok (.invokevirtual 204, 3) := by decide +kernel
theorem dX12_missAt_58 : decode cX12_missAt 58 = .ok (.ifCond .ne 7, 3) := by decide +kernel
theorem dX12_missAt_61 : decode cX12_missAt 61 = .ok (.iconst 1, 1) := by decide +kernel
theorem dX12_missAt_62 : decode cX12_missAt 62 = .ok (.goto 4, 3) := by decide +kernel
theorem dX12_missAt_65 : decode cX12_missAt 65 = .ok (.iconst 0, 1) := by decide +kernel
theorem dX12_missAt_66 : decode cX12_missAt 66 = .ok (.ireturn, 1) := by decide +kernel
theorem dX12_missesOf_0 : decode cX12_missesOf 0 = .ok (.iconst 0, 1) := by decide +kernel
theorem dX12_missesOf_1 : decode cX12_missesOf 1 = .ok (.istore 4, 2) := by decide +kernel
theorem dX12_missesOf_3 : decode cX12_missesOf 3 = .ok (.iconst 0, 1) := by decide +kernel
theorem dX12_missesOf_4 : decode cX12_missesOf 4 = .ok (.istore 5, 2) := by decide +kernel
theorem dX12_missesOf_6 : decode cX12_missesOf 6 = .ok (.iload 5, 2) := by decide +kernel
theorem dX12_missesOf_8 : decode cX12_missesOf 8 = .ok (.aload_n 0, 1) := by decide +kernel
theorem dX12_missesOf_9 : decode cX12_missesOf 9 = .ok (.getfield 41, 3) := by decide +kernel
theorem dX12_missesOf_12 : decode cX12_missesOf 12 = .ok (.iload_n 1, 1) := by decide +kernel
theorem dX12_missesOf_13 : decode cX12_missesOf 13 = .ok (.iaload, 1) := by decide +kernel
theorem dX12_missesOf_14 : decode cX12_missesOf 14 = .ok (.if_icmp .ge 54, 3) := by decide +kernel
theorem dX12_missesOf_17 : decode cX12_missesOf 17 = .ok (.iload 4, 2) := by decide +kernel
theorem dX12_missesOf_19 : decode cX12_missesOf 19 = .ok (.iload_n 3, 1) := by decide +kernel
theorem dX12_missesOf_20 : decode cX12_missesOf 20 = .ok (.iconst 1, 1) := by decide +kernel
theorem dX12_missesOf_21 : decode cX12_missesOf 21 = .ok (.if_icmp .eq 15, 3) := by decide +kernel
theorem dX12_missesOf_24 : decode cX12_missesOf 24 = .ok (.aload_n 0, 1) := by decide +kernel
theorem dX12_missesOf_25 : decode cX12_missesOf 25 = .ok (.iload_n 1, 1) := by decide +kernel
theorem dX12_missesOf_26 : decode cX12_missesOf 26 = .ok (.iload 5, 2) := by decide +kernel
theorem dX12_missesOf_28 : decode cX12_missesOf 28 = .ok (.iload_n 2, 1) := by decide +kernel
theorem dX12_missesOf_29 : decode cX12_missesOf 29 = .ok (.iconst 0, 1) := by decide +kernel
theorem dX12_missesOf_30 : decode cX12_missesOf 30 = .ok (.invokevirtual 207, 3) := by decide +kernel
theorem dX12_missesOf_33 : decode cX12_missesOf 33 = .ok (.goto 4, 3) := by decide +kernel
theorem dX12_missesOf_36 : decode cX12_missesOf 36 = .ok (.iconst 0, 1) := by decide +kernel
theorem dX12_missesOf_37 : decode cX12_missesOf 37 = .ok (.iadd, 1) := by decide +kernel
theorem dX12_missesOf_38 : decode cX12_missesOf 38 = .ok (.istore 4, 2) := by decide +kernel
theorem dX12_missesOf_40 : decode cX12_missesOf 40 = .ok (.iload 4, 2) := by decide +kernel
theorem dX12_missesOf_42 : decode cX12_missesOf 42 = .ok (.iload_n 3, 1) := by decide +kernel
theorem dX12_missesOf_43 : decode cX12_missesOf 43 = .ok (.ifCond .eq 15, 3) := by decide +kernel
theorem dX12_missesOf_46 : decode cX12_missesOf 46 = .ok (.aload_n 0, 1) := by decide +kernel
theorem dX12_missesOf_47 : decode cX12_missesOf 47 = .ok (.iload_n 1, 1) := by decide +kernel
theorem dX12_missesOf_48 : decode cX12_missesOf 48 = .ok (.iload 5, 2) := by decide +kernel
theorem dX12_missesOf_50 : decode cX12_missesOf 50 = .ok (.iload_n 2, 1) := by decide +kernel
theorem dX12_missesOf_51 : decode cX12_missesOf 51 = .ok (.iconst 1, 1) := by decide +kernel
theorem dX12_missesOf_52 : decode cX12_missesOf 52 = .ok (.invokevirtual 207, 3) := by decide +kernel
theorem dX12_missesOf_55 : decode cX12_missesOf 55 = .ok (.goto 4, 3) := by decide +kernel
theorem dX12_missesOf_58 : decode cX12_missesOf 58 = .ok (.iconst 0, 1) := by decide +kernel
theorem dX12_missesOf_59 : decode cX12_missesOf 59 = .ok (.iadd, 1) := by decide +kernel
theorem dX12_missesOf_60 : decode cX12_missesOf 60 = .ok (.istore 4, 2) := by decide +kernel
theorem dX12_missesOf_62 : decode cX12_missesOf 62 = .ok (.iinc 5 1, 3) := by decide +kernel
theorem dX12_missesOf_65 : decode cX12_missesOf 65 = .ok (.goto (-59), 3) := by decide +kernel
theorem dX12_missesOf_68 : decode cX12_missesOf 68 = .ok (.iload 4, 2) := by decide +kernel
theorem dX12_missesOf_70 : decode cX12_missesOf 70 = .ok (.ireturn, 1) := by decide +kernel
theorem dX12_step_0 : decode cX12_step 0 = .ok (.aload_n 0, 1) := by decide +kernel
theorem dX12_step_1 : decode cX12_step 1 = .ok (.iload_n 1, 1) := by decide +kernel
theorem dX12_step_2 : decode cX12_step 2 = .ok (.iload_n 2, 1) := by decide +kernel
theorem dX12_step_3 : decode cX12_step 3 = .ok (.invokevirtual 211, 3) := by decide +kernel
theorem dX12_step_6 : decode cX12_step 6 = .ok (.ifCond .ne 5, 3) := by decide +kernel
theorem dX12_step_9 : decode cX12_step 9 = .ok (.iconst (-1), 1) := by decide +kernel
theorem dX12_step_10 : decode cX12_step 10 = .ok (.ireturn, 1) := by decide +kernel
theorem dX12_step_11 : decode cX12_step 11 = .ok (.iload_n 3, 1) := by decide +kernel
theorem dX12_step_12 : decode cX12_step 12 = .ok (.iconst 0, 1) := by decide +kernel
theorem dX12_step_13 : decode cX12_step 13 = .ok (.iconst 3, 1) := by decide +kernel
theorem dX12_step_14 : decode cX12_step 14 = .ok (.invokestatic 113, 3) := by decide +kernel
theorem dX12_step_17 : decode cX12_step 17 = .ok (.ifCond .ne 6, 3) := by decide +kernel
theorem dX12_step_20 : decode cX12_step 20 = .ok (.bipush (-2), 2) := by decide +kernel
theorem dX12_step_22 : decode cX12_step 22 = .ok (.ireturn, 1) := by decide +kernel
theorem dX12_step_23 : decode cX12_step 23 = .ok (.aload_n 0, 1) := by decide +kernel
theorem dX12_step_24 : decode cX12_step 24 = .ok (.invokevirtual 177, 3) := by decide +kernel
theorem dX12_step_27 : decode cX12_step 27 = .ok (.aload_n 0, 1) := by decide +kernel
theorem dX12_step_28 : decode cX12_step 28 = .ok (.getfield 44, 3) := by decide +kernel
theorem dX12_step_31 : decode cX12_step 31 = .ok (.iload_n 1, 1) := by decide +kernel
theorem dX12_step_32 : decode cX12_step 32 = .ok (.iaload, 1) := by decide +kernel
theorem dX12_step_33 : decode cX12_step 33 = .ok (.istore 4, 2) := by decide +kernel
theorem dX12_step_35 : decode cX12_step 35 = .ok (.iload_n 3, 1) := by decide +kernel
theorem dX12_step_36 : decode cX12_step 36 = .ok (.lookupswitch 60 #[(0, 28), (1, 37)], 28) := by decide +kernel
theorem dX12_step_64 : decode cX12_step 64 = .ok (.aload_n 0, 1) := by decide +kernel
theorem dX12_step_65 : decode cX12_step 65 = .ok (.iload_n 1, 1) := by decide +kernel
theorem dX12_step_66 : decode cX12_step 66 = .ok (.iload_n 2, 1) := by decide +kernel
theorem dX12_step_67 : decode cX12_step 67 = .ok (.iload 4, 2) := by decide +kernel
theorem dX12_step_69 : decode cX12_step 69 = .ok (.invokevirtual 191, 3) := by decide +kernel
theorem dX12_step_72 : decode cX12_step 72 = .ok (.ireturn, 1) := by decide +kernel
theorem dX12_step_73 : decode cX12_step 73 = .ok (.aload_n 0, 1) := by decide +kernel
theorem dX12_step_74 : decode cX12_step 74 = .ok (.iload_n 1, 1) := by decide +kernel
theorem dX12_step_75 : decode cX12_step 75 = .ok (.iload_n 2, 1) := by decide +kernel
theorem dX12_step_76 : decode cX12_step 76 = .ok (.invokevirtual 195, 3) := by decide +kernel
theorem dX12_step_79 : decode cX12_step 79 = .ok (.ifCond .eq 14, 3) := by decide +kernel
theorem dX12_step_82 : decode cX12_step 82 = .ok (.aload_n 0, 1) := by decide +kernel
theorem dX12_step_83 : decode cX12_step 83 = .ok (.iload_n 1, 1) := by decide +kernel
theorem dX12_step_84 : decode cX12_step 84 = .ok (.iload_n 2, 1) := by decide +kernel
theorem dX12_step_85 : decode cX12_step 85 = .ok (.iload 4, 2) := by decide +kernel
theorem dX12_step_87 : decode cX12_step 87 = .ok (.invokevirtual 198, 3) := by decide +kernel
theorem dX12_step_90 : decode cX12_step 90 = .ok (.goto 5, 3) := by decide +kernel
theorem dX12_step_93 : decode cX12_step 93 = .ok (.bipush (-9), 2) := by decide +kernel
theorem dX12_step_95 : decode cX12_step 95 = .ok (.ireturn, 1) := by decide +kernel
theorem dX12_step_96 : decode cX12_step 96 = .ok (.aload_n 0, 1) := by decide +kernel
theorem dX12_step_97 : decode cX12_step 97 = .ok (.iload_n 1, 1) := by decide +kernel
theorem dX12_step_98 : decode cX12_step 98 = .ok (.iload_n 2, 1) := by decide +kernel
theorem dX12_step_99 : decode cX12_step 99 = .ok (.iload 4, 2) := by decide +kernel
theorem dX12_step_101 : decode cX12_step 101 = .ok (.iload_n 3, 1) := by decide +kernel
theorem dX12_step_102 : decode cX12_step 102 = .ok (.iconst 3, 1) := by decide +kernel
theorem dX12_step_103 : decode cX12_step 103 = .ok (.if_icmp .ne 7, 3) := by decide +kernel
theorem dX12_step_106 : decode cX12_step 106 = .ok (.iconst 1, 1) := by decide +kernel
theorem dX12_step_107 : decode cX12_step 107 = .ok (.goto 4, 3) := by decide +kernel
theorem dX12_step_110 : decode cX12_step 110 = .ok (.iconst 0, 1) := by decide +kernel
theorem dX12_step_111 : decode cX12_step 111 = .ok (.invokevirtual 207, 3) := by decide +kernel
theorem dX12_step_114 : decode cX12_step 114 = .ok (.ireturn, 1) := by decide +kernel
theorem dX12_key_0 : decode cX12_key 0 = .ok (.aload_n 0, 1) := by decide +kernel
theorem dX12_key_1 : decode cX12_key 1 = .ok (.iload_n 1, 1) := by decide +kernel
theorem dX12_key_2 : decode cX12_key 2 = .ok (.invokevirtual 183, 3) := by decide +kernel
theorem dX12_key_5 : decode cX12_key 5 = .ok (.ifCond .ne 5, 3) := by decide +kernel
theorem dX12_key_8 : decode cX12_key 8 = .ok (.iconst (-1), 1) := by decide +kernel
theorem dX12_key_9 : decode cX12_key 9 = .ok (.ireturn, 1) := by decide +kernel
theorem dX12_key_10 : decode cX12_key 10 = .ok (.iload_n 2, 1) := by decide +kernel
theorem dX12_key_11 : decode cX12_key 11 = .ok (.bipush (-6), 2) := by decide +kernel
theorem dX12_key_13 : decode cX12_key 13 = .ok (.iconst 5, 1) := by decide +kernel
theorem dX12_key_14 : decode cX12_key 14 = .ok (.invokestatic 113, 3) := by decide +kernel
theorem dX12_key_17 : decode cX12_key 17 = .ok (.ifCond .ne 6, 3) := by decide +kernel
theorem dX12_key_20 : decode cX12_key 20 = .ok (.bipush (-2), 2) := by decide +kernel
theorem dX12_key_22 : decode cX12_key 22 = .ok (.ireturn, 1) := by decide +kernel
theorem dX12_key_23 : decode cX12_key 23 = .ok (.aload_n 0, 1) := by decide +kernel
theorem dX12_key_24 : decode cX12_key 24 = .ok (.getfield 44, 3) := by decide +kernel
theorem dX12_key_27 : decode cX12_key 27 = .ok (.iload_n 1, 1) := by decide +kernel
theorem dX12_key_28 : decode cX12_key 28 = .ok (.iaload, 1) := by decide +kernel
theorem dX12_key_29 : decode cX12_key 29 = .ok (.istore_n 3, 1) := by decide +kernel
theorem dX12_key_30 : decode cX12_key 30 = .ok (.aload_n 0, 1) := by decide +kernel
theorem dX12_key_31 : decode cX12_key 31 = .ok (.getfield 44, 3) := by decide +kernel
theorem dX12_key_34 : decode cX12_key 34 = .ok (.iload_n 1, 1) := by decide +kernel
theorem dX12_key_35 : decode cX12_key 35 = .ok (.iload_n 2, 1) := by decide +kernel
theorem dX12_key_36 : decode cX12_key 36 = .ok (.iastore, 1) := by decide +kernel
theorem dX12_key_37 : decode cX12_key 37 = .ok (.iload_n 3, 1) := by decide +kernel
theorem dX12_key_38 : decode cX12_key 38 = .ok (.ireturn, 1) := by decide +kernel
theorem dX12_misses_0 : decode cX12_misses 0 = .ok (.aload_n 0, 1) := by decide +kernel
theorem dX12_misses_1 : decode cX12_misses 1 = .ok (.iload_n 1, 1) := by decide +kernel
theorem dX12_misses_2 : decode cX12_misses 2 = .ok (.invokevirtual 183, 3) := by decide +kernel
theorem dX12_misses_5 : decode cX12_misses 5 = .ok (.ifCond .ne 5, 3) := by decide +kernel
theorem dX12_misses_8 : decode cX12_misses 8 = .ok (.iconst (-1), 1) := by decide +kernel
theorem dX12_misses_9 : decode cX12_misses 9 = .ok (.ireturn, 1) := by decide +kernel
theorem dX12_misses_10 : decode cX12_misses 10 = .ok (.iload_n 2, 1) := by decide +kernel
theorem dX12_misses_11 : decode cX12_misses 11 = .ok (.iconst 0, 1) := by decide +kernel
theorem dX12_misses_12 : decode cX12_misses 12 = .ok (.iconst 4, 1) := by decide +kernel
theorem dX12_misses_13 : decode cX12_misses 13 = .ok (.invokestatic 113, 3) := by decide +kernel
theorem dX12_misses_16 : decode cX12_misses 16 = .ok (.ifCond .ne 6, 3) := by decide +kernel
theorem dX12_misses_19 : decode cX12_misses 19 = .ok (.bipush (-2), 2) := by decide +kernel
theorem dX12_misses_21 : decode cX12_misses 21 = .ok (.ireturn, 1) := by decide +kernel
theorem dX12_misses_22 : decode cX12_misses 22 = .ok (.iload_n 2, 1) := by decide +kernel
theorem dX12_misses_23 : decode cX12_misses 23 = .ok (.iconst 2, 1) := by decide +kernel
theorem dX12_misses_24 : decode cX12_misses 24 = .ok (.if_icmp .le 24, 3) := by decide +kernel
theorem dX12_misses_27 : decode cX12_misses 27 = .ok (.iload_n 2, 1) := by decide +kernel
theorem dX12_misses_28 : decode cX12_misses 28 = .ok (.iconst 3, 1) := by decide +kernel
theorem dX12_misses_29 : decode cX12_misses 29 = .ok (.if_icmp .ne 12, 3) := by decide +kernel
theorem dX12_misses_32 : decode cX12_misses 32 = .ok (.aload_n 0, 1) := by decide +kernel
theorem dX12_misses_33 : decode cX12_misses 33 = .ok (.getfield 41, 3) := by decide +kernel
theorem dX12_misses_36 : decode cX12_misses 36 = .ok (.iload_n 1, 1) := by decide +kernel
theorem dX12_misses_37 : decode cX12_misses 37 = .ok (.iaload, 1) := by decide +kernel
theorem dX12_misses_38 : decode cX12_misses 38 = .ok (.goto 9, 3) := by decide +kernel
theorem dX12_misses_41 : decode cX12_misses 41 = .ok (.aload_n 0, 1) := by decide +kernel
theorem dX12_misses_42 : decode cX12_misses 42 = .ok (.getfield 44, 3) := by decide +kernel
theorem dX12_misses_45 : decode cX12_misses 45 = .ok (.iload_n 1, 1) := by decide +kernel
theorem dX12_misses_46 : decode cX12_misses 46 = .ok (.iaload, 1) := by decide +kernel
theorem dX12_misses_47 : decode cX12_misses 47 = .ok (.ireturn, 1) := by decide +kernel
theorem dX12_misses_48 : decode cX12_misses 48 = .ok (.aload_n 0, 1) := by decide +kernel
theorem dX12_misses_49 : decode cX12_misses 49 = .ok (.invokevirtual 177, 3) := by decide +kernel
theorem dX12_misses_52 : decode cX12_misses 52 = .ok (.aload_n 0, 1) := by decide +kernel
theorem dX12_misses_53 : decode cX12_misses 53 = .ok (.iload_n 1, 1) := by decide +kernel
theorem dX12_misses_54 : decode cX12_misses 54 = .ok (.aload_n 0, 1) := by decide +kernel
theorem dX12_misses_55 : decode cX12_misses 55 = .ok (.getfield 44, 3) := by decide +kernel
theorem dX12_misses_58 : decode cX12_misses 58 = .ok (.iload_n 1, 1) := by decide +kernel
theorem dX12_misses_59 : decode cX12_misses 59 = .ok (.iaload, 1) := by decide +kernel
theorem dX12_misses_60 : decode cX12_misses 60 = .ok (.iload_n 2, 1) := by decide +kernel
theorem dX12_misses_61 : decode cX12_misses 61 = .ok (.invokevirtual 214, 3) := by decide +kernel
theorem dX12_misses_64 : decode cX12_misses 64 = .ok (.ireturn, 1) := by decide +kernel
theorem dX12_bestKey_0 : decode cX12_bestKey 0 = .ok (.aload_n 0, 1) := by decide +kernel
theorem dX12_bestKey_1 : decode cX12_bestKey 1 = .ok (.iload_n 1, 1) := by decide +kernel
theorem dX12_bestKey_2 : decode cX12_bestKey 2 = .ok (.invokevirtual 183, 3) := by decide +kernel
theorem dX12_bestKey_5 : decode cX12_bestKey 5 = .ok (.ifCond .ne 6, 3) := by decide +kernel
theorem dX12_bestKey_8 : decode cX12_bestKey 8 = .ok (.bipush 99, 2) := by decide +kernel
theorem dX12_bestKey_10 : decode cX12_bestKey 10 = .ok (.ireturn, 1) := by decide +kernel
theorem dX12_bestKey_11 : decode cX12_bestKey 11 = .ok (.aload_n 0, 1) := by decide +kernel
theorem dX12_bestKey_12 : decode cX12_bestKey 12 = .ok (.invokevirtual 177, 3) := by decide +kernel
theorem dX12_bestKey_15 : decode cX12_bestKey 15 = .ok (.iconst 0, 1) := by decide +kernel
theorem dX12_bestKey_16 : decode cX12_bestKey 16 = .ok (.istore_n 2, 1) := by decide +kernel
theorem dX12_bestKey_17 : decode cX12_bestKey 17 = .ok (.aload_n 0, 1) := by decide +kernel
theorem dX12_bestKey_18 : decode cX12_bestKey 18 = .ok (.iload_n 1, 1) := by decide +kernel
theorem dX12_bestKey_19 : decode cX12_bestKey 19 = .ok (.iconst 0, 1) := by decide +kernel
theorem dX12_bestKey_20 : decode cX12_bestKey 20 = .ok (.iconst 2, 1) := by decide +kernel
theorem dX12_bestKey_21 : decode cX12_bestKey 21 = .ok (.invokevirtual 214, 3) := by decide +kernel
theorem dX12_bestKey_24 : decode cX12_bestKey 24 = .ok (.istore_n 3, 1) := by decide +kernel
theorem dX12_bestKey_25 : decode cX12_bestKey 25 = .ok (.iconst 1, 1) := by decide +kernel
theorem dX12_bestKey_26 : decode cX12_bestKey 26 = .ok (.istore 4, 2) := by decide +kernel
theorem dX12_bestKey_28 : decode cX12_bestKey 28 = .ok (.iload 4, 2) := by decide +kernel
theorem dX12_bestKey_30 : decode cX12_bestKey 30 = .ok (.bipush 6, 2) := by decide +kernel
theorem dX12_bestKey_32 : decode cX12_bestKey 32 = .ok (.if_icmp .gt 70, 3) := by decide +kernel
theorem dX12_bestKey_35 : decode cX12_bestKey 35 = .ok (.iconst 0, 1) := by decide +kernel
theorem dX12_bestKey_36 : decode cX12_bestKey 36 = .ok (.istore 5, 2) := by decide +kernel
theorem dX12_bestKey_38 : decode cX12_bestKey 38 = .ok (.iload 5, 2) := by decide +kernel
theorem dX12_bestKey_40 : decode cX12_bestKey 40 = .ok (.iconst 2, 1) := by decide +kernel
theorem dX12_bestKey_41 : decode cX12_bestKey 41 = .ok (.if_icmp .ge 55, 3) := by decide +kernel
theorem dX12_bestKey_44 : decode cX12_bestKey 44 = .ok (.iload 5, 2) := by decide +kernel
theorem dX12_bestKey_46 : decode cX12_bestKey 46 = .ok (.ifCond .ne 8, 3) := by decide +kernel
theorem dX12_bestKey_49 : decode cX12_bestKey 49 = .ok (.iload 4, 2) := by decide +kernel
theorem dX12_bestKey_51 : decode cX12_bestKey 51 = .ok (.goto 6, 3) := by decide +kernel
theorem dX12_bestKey_54 : decode cX12_bestKey 54 = .ok (.iload 4, 2) := by decide +kernel
theorem dX12_bestKey_56 : decode cX12_bestKey 56 = .ok (.ineg, 1) := by decide +kernel
theorem dX12_bestKey_57 : decode cX12_bestKey 57 = .ok (.istore 6, 2) := by decide +kernel
theorem dX12_bestKey_59 : decode cX12_bestKey 59 = .ok (.iload 6, 2) := by decide +kernel
theorem dX12_bestKey_61 : decode cX12_bestKey 61 = .ok (.iconst 5, 1) := by decide +kernel
theorem dX12_bestKey_62 : decode cX12_bestKey 62 = .ok (.if_icmp .le 6, 3) := by decide +kernel
theorem dX12_bestKey_65 : decode cX12_bestKey 65 = .ok (.goto 25, 3) := by decide +kernel
theorem dX12_bestKey_68 : decode cX12_bestKey 68 = .ok (.aload_n 0, 1) := by decide +kernel
theorem dX12_bestKey_69 : decode cX12_bestKey 69 = .ok (.iload_n 1, 1) := by decide +kernel
theorem dX12_bestKey_70 : decode cX12_bestKey 70 = .ok (.iload 6, 2) := by decide +kernel
theorem dX12_bestKey_72 : decode cX12_bestKey 72 = .ok (.iconst 2, 1) := by decide +kernel
theorem dX12_bestKey_73 : decode cX12_bestKey 73 = .ok (.invokevirtual 214, 3) := by decide +kernel
theorem dX12_bestKey_76 : decode cX12_bestKey 76 = .ok (.istore 7, 2) := by decide +kernel
theorem dX12_bestKey_78 : decode cX12_bestKey 78 = .ok (.iload 7, 2) := by decide +kernel
theorem dX12_bestKey_80 : decode cX12_bestKey 80 = .ok (.iload_n 3, 1) := by decide +kernel
theorem dX12_bestKey_81 : decode cX12_bestKey 81 = .ok (.if_icmp .ge 9, 3) := by decide +kernel
theorem dX12_bestKey_84 : decode cX12_bestKey 84 = .ok (.iload 7, 2) := by decide +kernel
theorem dX12_bestKey_86 : decode cX12_bestKey 86 = .ok (.istore_n 3, 1) := by decide +kernel
theorem dX12_bestKey_87 : decode cX12_bestKey 87 = .ok (.iload 6, 2) := by decide +kernel
theorem dX12_bestKey_89 : decode cX12_bestKey 89 = .ok (.istore_n 2, 1) := by decide +kernel
theorem dX12_bestKey_90 : decode cX12_bestKey 90 = .ok (.iinc 5 1, 3) := by decide +kernel
theorem dX12_bestKey_93 : decode cX12_bestKey 93 = .ok (.goto (-55), 3) := by decide +kernel
theorem dX12_bestKey_96 : decode cX12_bestKey 96 = .ok (.iinc 4 1, 3) := by decide +kernel
theorem dX12_bestKey_99 : decode cX12_bestKey 99 = .ok (.goto (-71), 3) := by decide +kernel
theorem dX12_bestKey_102 : decode cX12_bestKey 102 = .ok (.iload_n 2, 1) := by decide +kernel
theorem dX12_bestKey_103 : decode cX12_bestKey 103 = .ok (.ireturn, 1) := by decide +kernel
theorem dX12_played_0 : decode cX12_played 0 = .ok (.aload_n 0, 1) := by decide +kernel
theorem dX12_played_1 : decode cX12_played 1 = .ok (.invokevirtual 177, 3) := by decide +kernel
theorem dX12_played_4 : decode cX12_played 4 = .ok (.iconst 0, 1) := by decide +kernel
theorem dX12_played_5 : decode cX12_played 5 = .ok (.istore_n 1, 1) := by decide +kernel
theorem dX12_played_6 : decode cX12_played 6 = .ok (.iconst 0, 1) := by decide +kernel
theorem dX12_played_7 : decode cX12_played 7 = .ok (.istore_n 2, 1) := by decide +kernel
theorem dX12_played_8 : decode cX12_played 8 = .ok (.iload_n 2, 1) := by decide +kernel
theorem dX12_played_9 : decode cX12_played 9 = .ok (.aload_n 0, 1) := by decide +kernel
theorem dX12_played_10 : decode cX12_played 10 = .ok (.getfield 180, 3) := by decide +kernel
theorem dX12_played_13 : decode cX12_played 13 = .ok (.if_icmp .ge 34, 3) := by decide +kernel
theorem dX12_played_16 : decode cX12_played 16 = .ok (.iload_n 1, 1) := by decide +kernel
theorem dX12_played_17 : decode cX12_played 17 = .ok (.aload_n 0, 1) := by decide +kernel
theorem dX12_played_18 : decode cX12_played 18 = .ok (.iload_n 2, 1) := by decide +kernel
theorem dX12_played_19 : decode cX12_played 19 = .ok (.aload_n 0, 1) := by decide +kernel
theorem dX12_played_20 : decode cX12_played 20 = .ok (.getfield 44, 3) := by decide +kernel
theorem dX12_played_23 : decode cX12_played 23 = .ok (.iload_n 2, 1) := by decide +kernel
theorem dX12_played_24 : decode cX12_played 24 = .ok (.iaload, 1) := by decide +kernel
theorem dX12_played_25 : decode cX12_played 25 = .ok (.iconst 2, 1) := by decide +kernel
theorem dX12_played_26 : decode cX12_played 26 = .ok (.invokevirtual 214, 3) := by decide +kernel
theorem dX12_played_29 : decode cX12_played 29 = .ok (.ifCond .ne 9, 3) := by decide +kernel
theorem dX12_played_32 : decode cX12_played 32 = .ok (.iconst 1, 1) := by decide +kernel
theorem dX12_played_33 : decode cX12_played 33 = .ok (.iload_n 2, 1) := by decide +kernel
theorem dX12_played_34 : decode cX12_played 34 = .ok (.ishl, 1) := by decide +kernel
theorem dX12_played_35 : decode cX12_played 35 = .ok (.goto 4, 3) := by decide +kernel
theorem dX12_played_38 : decode cX12_played 38 = .ok (.iconst 0, 1) := by decide +kernel
theorem dX12_played_39 : decode cX12_played 39 = .ok (.ior, 1) := by decide +kernel
theorem dX12_played_40 : decode cX12_played 40 = .ok (.istore_n 1, 1) := by decide +kernel
theorem dX12_played_41 : decode cX12_played 41 = .ok (.iinc 2 1, 3) := by decide +kernel
theorem dX12_played_44 : decode cX12_played 44 = .ok (.goto (-36), 3) := by decide +kernel
theorem dX12_played_47 : decode cX12_played 47 = .ok (.iload_n 1, 1) := by decide +kernel
theorem dX12_played_48 : decode cX12_played 48 = .ok (.ireturn, 1) := by decide +kernel
theorem dX12_playable_0 : decode cX12_playable 0 = .ok (.aload_n 0, 1) := by decide +kernel
theorem dX12_playable_1 : decode cX12_playable 1 = .ok (.invokevirtual 217, 3) := by decide +kernel
theorem dX12_playable_4 : decode cX12_playable 4 = .ok (.ireturn, 1) := by decide +kernel
theorem dX12_offer_0 : decode cX12_offer 0 = .ok (.iload_n 1, 1) := by decide +kernel
theorem dX12_offer_1 : decode cX12_offer 1 = .ok (.invokestatic 142, 3) := by decide +kernel
theorem dX12_offer_4 : decode cX12_offer 4 = .ok (.ifCond .ne 6, 3) := by decide +kernel
theorem dX12_offer_7 : decode cX12_offer 7 = .ok (.bipush (-2), 2) := by decide +kernel
theorem dX12_offer_9 : decode cX12_offer 9 = .ok (.ireturn, 1) := by decide +kernel
theorem dX12_offer_10 : decode cX12_offer 10 = .ok (.iconst 0, 1) := by decide +kernel
theorem dX12_offer_11 : decode cX12_offer 11 = .ok (.istore_n 2, 1) := by decide +kernel
theorem dX12_offer_12 : decode cX12_offer 12 = .ok (.iload_n 2, 1) := by decide +kernel
theorem dX12_offer_13 : decode cX12_offer 13 = .ok (.aload_n 0, 1) := by decide +kernel
theorem dX12_offer_14 : decode cX12_offer 14 = .ok (.getfield 220, 3) := by decide +kernel
theorem dX12_offer_17 : decode cX12_offer 17 = .ok (.if_icmp .ge 22, 3) := by decide +kernel
theorem dX12_offer_20 : decode cX12_offer 20 = .ok (.aload_n 0, 1) := by decide +kernel
theorem dX12_offer_21 : decode cX12_offer 21 = .ok (.getfield 62, 3) := by decide +kernel
theorem dX12_offer_24 : decode cX12_offer 24 = .ok (.iload_n 2, 1) := by decide +kernel
theorem dX12_offer_25 : decode cX12_offer 25 = .ok (.iaload, 1) := by decide +kernel
theorem dX12_offer_26 : decode cX12_offer 26 = .ok (.iload_n 1, 1) := by decide +kernel
theorem dX12_offer_27 : decode cX12_offer 27 = .ok (.if_icmp .ne 6, 3) := by decide +kernel
theorem dX12_offer_30 : decode cX12_offer 30 = .ok (.bipush (-3), 2) := by decide +kernel
theorem dX12_offer_32 : decode cX12_offer 32 = .ok (.ireturn, 1) := by decide +kernel
theorem dX12_offer_33 : decode cX12_offer 33 = .ok (.iinc 2 1, 3) := by decide +kernel
theorem dX12_offer_36 : decode cX12_offer 36 = .ok (.goto (-24), 3) := by decide +kernel
theorem dX12_offer_39 : decode cX12_offer 39 = .ok (.aload_n 0, 1) := by decide +kernel
theorem dX12_offer_40 : decode cX12_offer 40 = .ok (.getfield 220, 3) := by decide +kernel
theorem dX12_offer_43 : decode cX12_offer 43 = .ok (.bipush 12, 2) := by decide +kernel
theorem dX12_offer_45 : decode cX12_offer 45 = .ok (.if_icmp .ne 6, 3) := by decide +kernel
theorem dX12_offer_48 : decode cX12_offer 48 = .ok (.bipush (-4), 2) := by decide +kernel
theorem dX12_offer_50 : decode cX12_offer 50 = .ok (.ireturn, 1) := by decide +kernel
theorem dX12_offer_51 : decode cX12_offer 51 = .ok (.aload_n 0, 1) := by decide +kernel
theorem dX12_offer_52 : decode cX12_offer 52 = .ok (.getfield 62, 3) := by decide +kernel
theorem dX12_offer_55 : decode cX12_offer 55 = .ok (.aload_n 0, 1) := by decide +kernel
theorem dX12_offer_56 : decode cX12_offer 56 = .ok (.getfield 220, 3) := by decide +kernel
theorem dX12_offer_59 : decode cX12_offer 59 = .ok (.iload_n 1, 1) := by decide +kernel
theorem dX12_offer_60 : decode cX12_offer 60 = .ok (.iastore, 1) := by decide +kernel
theorem dX12_offer_61 : decode cX12_offer 61 = .ok (.aload_n 0, 1) := by decide +kernel
theorem dX12_offer_62 : decode cX12_offer 62 = .ok (.dup, 1) := by decide +kernel
theorem dX12_offer_63 : decode cX12_offer 63 = .ok (.getfield 220, 3) := by decide +kernel
theorem dX12_offer_66 : decode cX12_offer 66 = .ok (.iconst 1, 1) := by decide +kernel
theorem dX12_offer_67 : decode cX12_offer 67 = .ok (.iadd, 1) := by decide +kernel
theorem dX12_offer_68 : decode cX12_offer 68 = .ok (.putfield 220, 3) := by decide +kernel
theorem dX12_offer_71 : decode cX12_offer 71 = .ok (.aload_n 0, 1) := by decide +kernel
theorem dX12_offer_72 : decode cX12_offer 72 = .ok (.getfield 220, 3) := by decide +kernel
theorem dX12_offer_75 : decode cX12_offer 75 = .ok (.iconst 1, 1) := by decide +kernel
theorem dX12_offer_76 : decode cX12_offer 76 = .ok (.isub, 1) := by decide +kernel
theorem dX12_offer_77 : decode cX12_offer 77 = .ok (.ireturn, 1) := by decide +kernel
theorem dX12_findPairs_0 : decode cX12_findPairs 0 = .ok (.iconst 0, 1) := by decide +kernel
theorem dX12_findPairs_1 : decode cX12_findPairs 1 = .ok (.istore_n 1, 1) := by decide +kernel
theorem dX12_findPairs_2 : decode cX12_findPairs 2 = .ok (.iload_n 1, 1) := by decide +kernel
theorem dX12_findPairs_3 : decode cX12_findPairs 3 = .ok (.aload_n 0, 1) := by decide +kernel
theorem dX12_findPairs_4 : decode cX12_findPairs 4 = .ok (.getfield 220, 3) := by decide +kernel
theorem dX12_findPairs_7 : decode cX12_findPairs 7 = .ok (.if_icmp .ge 124, 3) := by decide +kernel
theorem dX12_findPairs_10 : decode cX12_findPairs 10 = .ok (.iconst 0, 1) := by decide +kernel
