theorem dX0_init_0 : decode cX0_init 0 = .ok (.aload_n 0, 1) := by decide +kernel
theorem dX0_init_1 : decode cX0_init 1 = .ok (.invokespecial 3, 3) := by decide +kernel
theorem dX0_init_4 : decode cX0_init 4 = .ok (.aload_n 0, 1) := by decide +kernel
theorem dX0_init_5 : decode cX0_init 5 = .ok (.bipush (-9), 2) := by decide +kernel
theorem dX0_init_7 : decode cX0_init 7 = .ok (.putfield 9, 3) := by decide +kernel
theorem dX0_init_10 : decode cX0_init 10 = .ok (.aload_n 0, 1) := by decide +kernel
theorem dX0_init_11 : decode cX0_init 11 = .ok (.lconst 0, 1) := by decide +kernel
theorem dX0_init_12 : decode cX0_init 12 = .ok (.putfield 15, 3) := by decide +kernel
theorem dX0_init_15 : decode cX0_init 15 = .ok (.aload_n 0, 1) := by decide +kernel
theorem dX0_init_16 : decode cX0_init 16 = .ok (.lconst 0, 1) := by decide +kernel
theorem dX0_init_17 : decode cX0_init 17 = .ok (.putfield 19, 3) := by decide +kernel
theorem dX0_init_20 : decode cX0_init 20 = .ok (.aload_n 0, 1) := by decide +kernel
theorem dX0_init_21 : decode cX0_init 21 = .ok (.iconst 0, 1) := by decide +kernel
theorem dX0_init_22 : decode cX0_init 22 = .ok (.putfield 22, 3) := by decide +kernel
theorem dX0_init_25 : decode cX0_init 25 = .ok (.return_, 1) := by decide +kernel
theorem dX0_kind_0 : decode cX0_kind 0 = .ok (.aload_n 0, 1) := by decide +kernel
theorem dX0_kind_1 : decode cX0_kind 1 = .ok (.getfield 9, 3) := by decide +kernel
theorem dX0_kind_4 : decode cX0_kind 4 = .ok (.invokestatic 25, 3) := by decide +kernel
theorem dX0_kind_7 : decode cX0_kind 7 = .ok (.ifCond .ne 5, 3) := by decide +kernel
theorem dX0_kind_10 : decode cX0_kind 10 = .ok (.iconst 0, 1) := by decide +kernel
theorem dX0_kind_11 : decode cX0_kind 11 = .ok (.ireturn, 1) := by decide +kernel
theorem dX0_kind_12 : decode cX0_kind 12 = .ok (.aload_n 0, 1) := by decide +kernel
theorem dX0_kind_13 : decode cX0_kind 13 = .ok (.getfield 9, 3) := by decide +kernel
theorem dX0_kind_16 : decode cX0_kind 16 = .ok (.bipush 12, 2) := by decide +kernel
theorem dX0_kind_18 : decode cX0_kind 18 = .ok (.idiv, 1) := by decide +kernel
theorem dX0_kind_19 : decode cX0_kind 19 = .ok (.istore_n 1, 1) := by decide +kernel
theorem dX0_kind_20 : decode cX0_kind 20 = .ok (.iload_n 1, 1) := by decide +kernel
theorem dX0_kind_21 : decode cX0_kind 21 = .ok (.iconst 2, 1) := by decide +kernel
theorem dX0_kind_22 : decode cX0_kind 22 = .ok (.if_icmp .eq 14, 3) := by decide +kernel
theorem dX0_kind_25 : decode cX0_kind 25 = .ok (.iload_n 1, 1) := by decide +kernel
theorem dX0_kind_26 : decode cX0_kind 26 = .ok (.iconst 3, 1) := by decide +kernel
theorem dX0_kind_27 : decode cX0_kind 27 = .ok (.if_icmp .eq 9, 3) := by decide +kernel
theorem dX0_kind_30 : decode cX0_kind 30 = .ok (.iload_n 1, 1) := by decide +kernel
theorem dX0_kind_31 : decode cX0_kind 31 = .ok (.bipush 6, 2) := by decide +kernel
theorem dX0_kind_33 : decode cX0_kind 33 = .ok (.if_icmp .ne 7, 3) := by decide +kernel
theorem dX0_kind_36 : decode cX0_kind 36 = .ok (.iconst 2, 1) := by decide +kernel
theorem dX0_kind_37 : decode cX0_kind 37 = .ok (.goto 4, 3) := by decide +kernel
theorem dX0_kind_40 : decode cX0_kind 40 = .ok (.iconst 1, 1) := by decide +kernel
theorem dX0_kind_41 : decode cX0_kind 41 = .ok (.ireturn, 1) := by decide +kernel
theorem dX0_wholeOnes_0 : decode cX0_wholeOnes 0 = .ok (.aload_n 0, 1) := by decide +kernel
theorem dX0_wholeOnes_1 : decode cX0_wholeOnes 1 = .ok (.getfield 15, 3) := by decide +kernel
theorem dX0_wholeOnes_4 : decode cX0_wholeOnes 4 = .ok (.aload_n 0, 1) := by decide +kernel
theorem dX0_wholeOnes_5 : decode cX0_wholeOnes 5 = .ok (.getfield 19, 3) := by decide +kernel
theorem dX0_wholeOnes_8 : decode cX0_wholeOnes 8 = .ok (.ldc2_w 29, 3) := by decide +kernel
theorem dX0_wholeOnes_11 : decode cX0_wholeOnes 11 = .ok (.lxor, 1) := by decide +kernel
theorem dX0_wholeOnes_12 : decode cX0_wholeOnes 12 = .ok (.land, 1) := by decide +kernel
theorem dX0_wholeOnes_13 : decode cX0_wholeOnes 13 = .ok (.lreturn, 1) := by decide +kernel
theorem dX0_hasFelt_0 : decode cX0_hasFelt 0 = .ok (.aload_n 0, 1) := by decide +kernel
theorem dX0_hasFelt_1 : decode cX0_hasFelt 1 = .ok (.getfield 15, 3) := by decide +kernel
theorem dX0_hasFelt_4 : decode cX0_hasFelt 4 = .ok (.iload_n 1, 1) := by decide +kernel
theorem dX0_hasFelt_5 : decode cX0_hasFelt 5 = .ok (.invokestatic 31, 3) := by decide +kernel
theorem dX0_hasFelt_8 : decode cX0_hasFelt 8 = .ok (.ireturn, 1) := by decide +kernel
theorem dX0_isWorn_0 : decode cX0_isWorn 0 = .ok (.aload_n 0, 1) := by decide +kernel
theorem dX0_isWorn_1 : decode cX0_isWorn 1 = .ok (.getfield 19, 3) := by decide +kernel
theorem dX0_isWorn_4 : decode cX0_isWorn 4 = .ok (.iload_n 1, 1) := by decide +kernel
theorem dX0_isWorn_5 : decode cX0_isWorn 5 = .ok (.invokestatic 31, 3) := by decide +kernel
theorem dX0_isWorn_8 : decode cX0_isWorn 8 = .ok (.ireturn, 1) := by decide +kernel
theorem dX0_setFelt_0 : decode cX0_setFelt 0 = .ok (.aload_n 0, 1) := by decide +kernel
theorem dX0_setFelt_1 : decode cX0_setFelt 1 = .ok (.iload_n 1, 1) := by decide +kernel
theorem dX0_setFelt_2 : decode cX0_setFelt 2 = .ok (.invokevirtual 35, 3) := by decide +kernel
theorem dX0_setFelt_5 : decode cX0_setFelt 5 = .ok (.iload_n 2, 1) := by decide +kernel
theorem dX0_setFelt_6 : decode cX0_setFelt 6 = .ok (.if_icmp .ne 5, 3) := by decide +kernel
theorem dX0_setFelt_9 : decode cX0_setFelt 9 = .ok (.iconst 0, 1) := by decide +kernel
theorem dX0_setFelt_10 : decode cX0_setFelt 10 = .ok (.ireturn, 1) := by decide +kernel
theorem dX0_setFelt_11 : decode cX0_setFelt 11 = .ok (.aload_n 0, 1) := by decide +kernel
theorem dX0_setFelt_12 : decode cX0_setFelt 12 = .ok (.dup, 1) := by decide +kernel
theorem dX0_setFelt_13 : decode cX0_setFelt 13 = .ok (.getfield 15, 3) := by decide +kernel
theorem dX0_setFelt_16 : decode cX0_setFelt 16 = .ok (.lconst 1, 1) := by decide +kernel
theorem dX0_setFelt_17 : decode cX0_setFelt 17 = .ok (.iload_n 1, 1) := by decide +kernel
theorem dX0_setFelt_18 : decode cX0_setFelt 18 = .ok (.lshl, 1) := by decide +kernel
theorem dX0_setFelt_19 : decode cX0_setFelt 19 = .ok (.lxor, 1) := by decide +kernel
theorem dX0_setFelt_20 : decode cX0_setFelt 20 = .ok (.putfield 15, 3) := by decide +kernel
theorem dX0_setFelt_23 : decode cX0_setFelt 23 = .ok (.aload_n 0, 1) := by decide +kernel
theorem dX0_setFelt_24 : decode cX0_setFelt 24 = .ok (.dup, 1) := by decide +kernel
theorem dX0_setFelt_25 : decode cX0_setFelt 25 = .ok (.getfield 19, 3) := by decide +kernel
theorem dX0_setFelt_28 : decode cX0_setFelt 28 = .ok (.lconst 1, 1) := by decide +kernel
theorem dX0_setFelt_29 : decode cX0_setFelt 29 = .ok (.iload_n 1, 1) := by decide +kernel
theorem dX0_setFelt_30 : decode cX0_setFelt 30 = .ok (.lshl, 1) := by decide +kernel
theorem dX0_setFelt_31 : decode cX0_setFelt 31 = .ok (.ldc2_w 29, 3) := by decide +kernel
theorem dX0_setFelt_34 : decode cX0_setFelt 34 = .ok (.lxor, 1) := by decide +kernel
theorem dX0_setFelt_35 : decode cX0_setFelt 35 = .ok (.land, 1) := by decide +kernel
theorem dX0_setFelt_36 : decode cX0_setFelt 36 = .ok (.putfield 19, 3) := by decide +kernel
theorem dX0_setFelt_39 : decode cX0_setFelt 39 = .ok (.iconst 1, 1) := by decide +kernel
theorem dX0_setFelt_40 : decode cX0_setFelt 40 = .ok (.ireturn, 1) := by decide +kernel
theorem dX0_setWorn_0 : decode cX0_setWorn 0 = .ok (.aload_n 0, 1) := by decide +kernel
theorem dX0_setWorn_1 : decode cX0_setWorn 1 = .ok (.iload_n 1, 1) := by decide +kernel
theorem dX0_setWorn_2 : decode cX0_setWorn 2 = .ok (.invokevirtual 38, 3) := by decide +kernel
theorem dX0_setWorn_5 : decode cX0_setWorn 5 = .ok (.iload_n 2, 1) := by decide +kernel
theorem dX0_setWorn_6 : decode cX0_setWorn 6 = .ok (.if_icmp .ne 5, 3) := by decide +kernel
theorem dX0_setWorn_9 : decode cX0_setWorn 9 = .ok (.iconst 0, 1) := by decide +kernel
theorem dX0_setWorn_10 : decode cX0_setWorn 10 = .ok (.ireturn, 1) := by decide +kernel
theorem dX0_setWorn_11 : decode cX0_setWorn 11 = .ok (.aload_n 0, 1) := by decide +kernel
theorem dX0_setWorn_12 : decode cX0_setWorn 12 = .ok (.dup, 1) := by decide +kernel
theorem dX0_setWorn_13 : decode cX0_setWorn 13 = .ok (.getfield 19, 3) := by decide +kernel
theorem dX0_setWorn_16 : decode cX0_setWorn 16 = .ok (.lconst 1, 1) := by decide +kernel
theorem dX0_setWorn_17 : decode cX0_setWorn 17 = .ok (.iload_n 1, 1) := by decide +kernel
theorem dX0_setWorn_18 : decode cX0_setWorn 18 = .ok (.lshl, 1) := by decide +kernel
theorem dX0_setWorn_19 : decode cX0_setWorn 19 = .ok (.lxor, 1) := by decide +kernel
theorem dX0_setWorn_20 : decode cX0_setWorn 20 = .ok (.putfield 19, 3) := by decide +kernel
theorem dX0_setWorn_23 : decode cX0_setWorn 23 = .ok (.iconst 1, 1) := by decide +kernel
theorem dX0_setWorn_24 : decode cX0_setWorn 24 = .ok (.ireturn, 1) := by decide +kernel
theorem dX1_init_0 : decode cX1_init 0 = .ok (.aload_n 0, 1) := by decide +kernel
theorem dX1_init_1 : decode cX1_init 1 = .ok (.invokespecial 3, 3) := by decide +kernel
theorem dX1_init_4 : decode cX1_init 4 = .ok (.aload_n 0, 1) := by decide +kernel
theorem dX1_init_5 : decode cX1_init 5 = .ok (.bipush 8, 2) := by decide +kernel
theorem dX1_init_7 : decode cX1_init 7 = .ok (.anewarray 9, 3) := by decide +kernel
theorem dX1_init_10 : decode cX1_init 10 = .ok (.putfield 11, 3) := by decide +kernel
theorem dX1_init_13 : decode cX1_init 13 = .ok (.aload_n 0, 1) := by decide +kernel
theorem dX1_init_14 : decode cX1_init 14 = .ok (.iconst 0, 1) := by decide +kernel
theorem dX1_init_15 : decode cX1_init 15 = .ok (.putfield 17, 3) := by decide +kernel
theorem dX1_init_18 : decode cX1_init 18 = .ok (.iconst 0, 1) := by decide +kernel
theorem dX1_init_19 : decode cX1_init 19 = .ok (.istore_n 1, 1) := by decide +kernel
theorem dX1_init_20 : decode cX1_init 20 = .ok (.iload_n 1, 1) := by decide +kernel
theorem dX1_init_21 : decode cX1_init 21 = .ok (.bipush 8, 2) := by decide +kernel
theorem dX1_init_23 : decode cX1_init 23 = .ok (.if_icmp .ge 22, 3) := by decide +kernel
theorem dX1_init_26 : decode cX1_init 26 = .ok (.aload_n 0, 1) := by decide +kernel
theorem dX1_init_27 : decode cX1_init 27 = .ok (.getfield 11, 3) := by decide +kernel
theorem dX1_init_30 : decode cX1_init 30 = .ok (.iload_n 1, 1) := by decide +kernel
theorem dX1_init_31 : decode cX1_init 31 = .ok (.new 9, 3) := by decide +kernel
theorem dX1_init_34 : decode cX1_init 34 = .ok (.dup, 1) := by decide +kernel
theorem dX1_init_35 : decode cX1_init 35 = .ok (.invokespecial 21, 3) := by decide +kernel
theorem dX1_init_38 : decode cX1_init 38 = .ok (.aastore, 1) := by decide +kernel
theorem dX1_init_39 : decode cX1_init 39 = .ok (.iinc 1 1, 3) := by decide +kernel
theorem dX1_init_42 : decode cX1_init 42 = .ok (.goto (-22), 3) := by decide +kernel
theorem dX1_init_45 : decode cX1_init 45 = .ok (.return_, 1) := by decide +kernel
theorem dX1_knows_0 : decode cX1_knows 0 = .ok (.iload_n 1, 1) := by decide +kernel
theorem dX1_knows_1 : decode cX1_knows 1 = .ok (.ifCond .lt 15, 3) := by decide +kernel
theorem dX1_knows_4 : decode cX1_knows 4 = .ok (.iload_n 1, 1) := by decide +kernel
theorem dX1_knows_5 : decode cX1_knows 5 = .ok (.aload_n 0, 1) := by decide +kernel
theorem dX1_knows_6 : decode cX1_knows 6 = .ok (.getfield 17, 3) := by decide +kernel
theorem dX1_knows_9 : decode cX1_knows 9 = .ok (.if_icmp .ge 7, 3) := by decide +kernel
theorem dX1_knows_12 : decode cX1_knows 12 = .ok (.iconst 1, 1) := by decide +kernel
theorem dX1_knows_13 : decode cX1_knows 13 = .ok (.goto 4, 3) := by decide +kernel
theorem dX1_knows_16 : decode cX1_knows 16 = .ok (.iconst 0, 1) := by decide +kernel
theorem dX1_knows_17 : decode cX1_knows 17 = .ok (.ireturn, 1) := by decide +kernel
theorem dX1_isFull_0 : decode cX1_isFull 0 = .ok (.aload_n 0, 1) := by decide +kernel
theorem dX1_isFull_1 : decode cX1_isFull 1 = .ok (.getfield 17, 3) := by decide +kernel
theorem dX1_isFull_4 : decode cX1_isFull 4 = .ok (.bipush 8, 2) := by decide +kernel
theorem dX1_isFull_6 : decode cX1_isFull 6 = .ok (.if_icmp .lt 7, 3) := by decide +kernel
theorem dX1_isFull_9 : decode cX1_isFull 9 = .ok (.iconst 1, 1) := by decide +kernel
theorem dX1_isFull_10 : decode cX1_isFull 10 = .ok (.goto 4, 3) := by decide +kernel
theorem dX1_isFull_13 : decode cX1_isFull 13 = .ok (.iconst 0, 1) := by decide +kernel
theorem dX1_isFull_14 : decode cX1_isFull 14 = .ok (.ireturn, 1) := by decide +kernel
theorem dX1_all_0 : decode cX1_all 0 = .ok (.iconst 1, 1) := by decide +kernel
theorem dX1_all_1 : decode cX1_all 1 = .ok (.aload_n 0, 1) := by decide +kernel
theorem dX1_all_2 : decode cX1_all 2 = .ok (.getfield 17, 3) := by decide +kernel
theorem dX1_all_5 : decode cX1_all 5 = .ok (.ishl, 1) := by decide +kernel
theorem dX1_all_6 : decode cX1_all 6 = .ok (.iconst 1, 1) := by decide +kernel
theorem dX1_all_7 : decode cX1_all 7 = .ok (.isub, 1) := by decide +kernel
theorem dX1_all_8 : decode cX1_all 8 = .ok (.ireturn, 1) := by decide +kernel
theorem dX1_add_0 : decode cX1_add 0 = .ok (.aload_n 0, 1) := by decide +kernel
theorem dX1_add_1 : decode cX1_add 1 = .ok (.getfield 17, 3) := by decide +kernel
theorem dX1_add_4 : decode cX1_add 4 = .ok (.istore 4, 2) := by decide +kernel
theorem dX1_add_6 : decode cX1_add 6 = .ok (.aload_n 0, 1) := by decide +kernel
theorem dX1_add_7 : decode cX1_add 7 = .ok (.dup, 1) := by decide +kernel
theorem dX1_add_8 : decode cX1_add 8 = .ok (.getfield 17, 3) := by decide +kernel
theorem dX1_add_11 : decode cX1_add 11 = .ok (.iconst 1, 1) := by decide +kernel
theorem dX1_add_12 : decode cX1_add 12 = .ok (.iadd, 1) := by decide +kernel
theorem dX1_add_13 : decode cX1_add 13 = .ok (.putfield 17, 3) := by decide +kernel
theorem dX1_add_16 : decode cX1_add 16 = .ok (.aload_n 0, 1) := by decide +kernel
theorem dX1_add_17 : decode cX1_add 17 = .ok (.getfield 11, 3) := by decide +kernel
theorem dX1_add_20 : decode cX1_add 20 = .ok (.iload 4, 2) := by decide +kernel
theorem dX1_add_22 : decode cX1_add 22 = .ok (.aaload, 1) := by decide +kernel
theorem dX1_add_23 : decode cX1_add 23 = .ok (.iload_n 3, 1) := by decide +kernel
theorem dX1_add_24 : decode cX1_add 24 = .ok (.putfield 22, 3) := by decide +kernel
theorem dX1_add_27 : decode cX1_add 27 = .ok (.iconst 0, 1) := by decide +kernel
theorem dX1_add_28 : decode cX1_add 28 = .ok (.istore 5, 2) := by decide +kernel
theorem dX1_add_30 : decode cX1_add 30 = .ok (.iload 5, 2) := by decide +kernel
theorem dX1_add_32 : decode cX1_add 32 = .ok (.iload_n 3, 1) := by decide +kernel
theorem dX1_add_33 : decode cX1_add 33 = .ok (.if_icmp .ge 59, 3) := by decide +kernel
theorem dX1_add_36 : decode cX1_add 36 = .ok (.aload_n 0, 1) := by decide +kernel
theorem dX1_add_37 : decode cX1_add 37 = .ok (.getfield 11, 3) := by decide +kernel
theorem dX1_add_40 : decode cX1_add 40 = .ok (.iload 4, 2) := by decide +kernel
theorem dX1_add_42 : decode cX1_add 42 = .ok (.aaload, 1) := by decide +kernel
theorem dX1_add_43 : decode cX1_add 43 = .ok (.getfield 25, 3) := by decide +kernel
theorem dX1_add_46 : decode cX1_add 46 = .ok (.iload 5, 2) := by decide +kernel
theorem dX1_add_48 : decode cX1_add 48 = .ok (.aload_n 1, 1) := by decide +kernel
theorem dX1_add_49 : decode cX1_add 49 = .ok (.getfield 29, 3) := by decide +kernel
theorem dX1_add_52 : decode cX1_add 52 = .ok (.iload_n 2, 1) := by decide +kernel
theorem dX1_add_53 : decode cX1_add 53 = .ok (.iconst 2, 1) := by decide +kernel
theorem dX1_add_54 : decode cX1_add 54 = .ok (.iload 5, 2) := by decide +kernel
theorem dX1_add_56 : decode cX1_add 56 = .ok (.imul, 1) := by decide +kernel
theorem dX1_add_57 : decode cX1_add 57 = .ok (.iadd, 1) := by decide +kernel
theorem dX1_add_58 : decode cX1_add 58 = .ok (.iaload, 1) := by decide +kernel
theorem dX1_add_59 : decode cX1_add 59 = .ok (.iastore, 1) := by decide +kernel
theorem dX1_add_60 : decode cX1_add 60 = .ok (.aload_n 0, 1) := by decide +kernel
theorem dX1_add_61 : decode cX1_add 61 = .ok (.getfield 11, 3) := by decide +kernel
theorem dX1_add_64 : decode cX1_add 64 = .ok (.iload 4, 2) := by decide +kernel
theorem dX1_add_66 : decode cX1_add 66 = .ok (.aaload, 1) := by decide +kernel
theorem dX1_add_67 : decode cX1_add 67 = .ok (.getfield 34, 3) := by decide +kernel
theorem dX1_add_70 : decode cX1_add 70 = .ok (.iload 5, 2) := by decide +kernel
theorem dX1_add_72 : decode cX1_add 72 = .ok (.aload_n 1, 1) := by decide +kernel
theorem dX1_add_73 : decode cX1_add 73 = .ok (.getfield 29, 3) := by decide +kernel
theorem dX1_add_76 : decode cX1_add 76 = .ok (.iload_n 2, 1) := by decide +kernel
theorem dX1_add_77 : decode cX1_add 77 = .ok (.iconst 2, 1) := by decide +kernel
theorem dX1_add_78 : decode cX1_add 78 = .ok (.iload 5, 2) := by decide +kernel
theorem dX1_add_80 : decode cX1_add 80 = .ok (.imul, 1) := by decide +kernel
theorem dX1_add_81 : decode cX1_add 81 = .ok (.iadd, 1) := by decide +kernel
theorem dX1_add_82 : decode cX1_add 82 = .ok (.iconst 1, 1) := by decide +kernel
theorem dX1_add_83 : decode cX1_add 83 = .ok (.iadd, 1) := by decide +kernel
theorem dX1_add_84 : decode cX1_add 84 = .ok (.iaload, 1) := by decide +kernel
theorem dX1_add_85 : decode cX1_add 85 = .ok (.iastore, 1) := by decide +kernel
theorem dX1_add_86 : decode cX1_add 86 = .ok (.iinc 5 1, 3) := by decide +kernel
theorem dX1_add_89 : decode cX1_add 89 = .ok (.goto (-59), 3) := by decide +kernel
theorem dX1_add_92 : decode cX1_add 92 = .ok (.iload 4, 2) := by decide +kernel
theorem dX1_add_94 : decode cX1_add 94 = .ok (.ireturn, 1) := by decide +kernel
theorem dX1_playedWith_0 : decode cX1_playedWith 0 = .ok (.iconst 0, 1) := by decide +kernel
theorem dX1_playedWith_1 : decode cX1_playedWith 1 = .ok (.istore_n 2, 1) := by decide +kernel
theorem dX1_playedWith_2 : decode cX1_playedWith 2 = .ok (.iconst 0, 1) := by decide +kernel
theorem dX1_playedWith_3 : decode cX1_playedWith 3 = .ok (.istore_n 3, 1) := by decide +kernel
theorem dX1_playedWith_4 : decode cX1_playedWith 4 = .ok (.iload_n 3, 1) := by decide +kernel
theorem dX1_playedWith_5 : decode cX1_playedWith 5 = .ok (.aload_n 0, 1) := by decide +kernel
theorem dX1_playedWith_6 : decode cX1_playedWith 6 = .ok (.getfield 17, 3) := by decide +kernel
theorem dX1_playedWith_9 : decode cX1_playedWith 9 = .ok (.if_icmp .ge 28, 3) := by decide +kernel
theorem dX1_playedWith_12 : decode cX1_playedWith 12 = .ok (.aload_n 1, 1) := by decide +kernel
theorem dX1_playedWith_13 : decode cX1_playedWith 13 = .ok (.aload_n 0, 1) := by decide +kernel
theorem dX1_playedWith_14 : decode cX1_playedWith 14 = .ok (.getfield 11, 3) := by decide +kernel
theorem dX1_playedWith_17 : decode cX1_playedWith 17 = .ok (.iload_n 3, 1) := by decide +kernel
theorem dX1_playedWith_18 : decode cX1_playedWith 18 = .ok (.aaload, 1) := by decide +kernel
theorem dX1_playedWith_19 : decode cX1_playedWith 19 = .ok (.invokevirtual 37, 3) := by decide +kernel
theorem dX1_playedWith_22 : decode cX1_playedWith 22 = .ok (.ifCond .eq 9, 3) := by decide +kernel
theorem dX1_playedWith_25 : decode cX1_playedWith 25 = .ok (.iload_n 2, 1) := by decide +kernel
theorem dX1_playedWith_26 : decode cX1_playedWith 26 = .ok (.iconst 1, 1) := by decide +kernel
theorem dX1_playedWith_27 : decode cX1_playedWith 27 = .ok (.iload_n 3, 1) := by decide +kernel
theorem dX1_playedWith_28 : decode cX1_playedWith 28 = .ok (.ishl, 1) := by decide +kernel
theorem dX1_playedWith_29 : decode cX1_playedWith 29 = .ok (.ior, 1) := by decide +kernel
theorem dX1_playedWith_30 : decode cX1_playedWith 30 = .ok (.istore_n 2, 1) := by decide +kernel
theorem dX1_playedWith_31 : decode cX1_playedWith 31 = .ok (.iinc 3 1, 3) := by decide +kernel
theorem dX1_playedWith_34 : decode cX1_playedWith 34 = .ok (.goto (-30), 3) := by decide +kernel
theorem dX1_playedWith_37 : decode cX1_playedWith 37 = .ok (.iload_n 2, 1) := by decide +kernel
theorem dX1_playedWith_38 : decode cX1_playedWith 38 = .ok (.ireturn, 1) := by decide +kernel
theorem dX2_init_0 : decode cX2_init 0 = .ok (.aload_n 0, 1) := by decide +kernel
theorem dX2_init_1 : decode cX2_init 1 = .ok (.invokespecial 3, 3) := by decide +kernel
theorem dX2_init_4 : decode cX2_init 4 = .ok (.aload_n 0, 1) := by decide +kernel
theorem dX2_init_5 : decode cX2_init 5 = .ok (.bipush 20, 2) := by decide +kernel
theorem dX2_init_7 : decode cX2_init 7 = .ok (.newarray .int, 2) := by decide +kernel
theorem dX2_init_9 : decode cX2_init 9 = .ok (.putfield 9, 3) := by decide +kernel
theorem dX2_init_12 : decode cX2_init 12 = .ok (.aload_n 0, 1) := by decide +kernel
theorem dX2_init_13 : decode cX2_init 13 = .ok (.bipush 20, 2) := by decide +kernel
theorem dX2_init_15 : decode cX2_init 15 = .ok (.newarray .long, 2) := by decide +kernel
theorem dX2_init_17 : decode cX2_init 17 = .ok (.putfield 15, 3) := by decide +kernel
theorem dX2_init_20 : decode cX2_init 20 = .ok (.aload_n 0, 1) := by decide +kernel
theorem dX2_init_21 : decode cX2_init 21 = .ok (.bipush 20, 2) := by decide +kernel
theorem dX2_init_23 : decode cX2_init 23 = .ok (.newarray .long, 2) := by decide +kernel
theorem dX2_init_25 : decode cX2_init 25 = .ok (.putfield 19, 3) := by decide +kernel
theorem dX2_init_28 : decode cX2_init 28 = .ok (.aload_n 0, 1) := by decide +kernel
theorem dX2_init_29 : decode cX2_init 29 = .ok (.bipush 12, 2) := by decide +kernel
theorem dX2_init_31 : decode cX2_init 31 = .ok (.newarray .long, 2) := by decide +kernel
theorem dX2_init_33 : decode cX2_init 33 = .ok (.putfield 22, 3) := by decide +kernel
theorem dX2_init_36 : decode cX2_init 36 = .ok (.aload_n 0, 1) := by decide +kernel
theorem dX2_init_37 : decode cX2_init 37 = .ok (.iconst 0, 1) := by decide +kernel
theorem dX2_init_38 : decode cX2_init 38 = .ok (.putfield 25, 3) := by decide +kernel
theorem dX2_init_41 : decode cX2_init 41 = .ok (.return_, 1) := by decide +kernel
theorem dX2_isFull_0 : decode cX2_isFull 0 = .ok (.aload_n 0, 1) := by decide +kernel
theorem dX2_isFull_1 : decode cX2_isFull 1 = .ok (.getfield 25, 3) := by decide +kernel
theorem dX2_isFull_4 : decode cX2_isFull 4 = .ok (.bipush 20, 2) := by decide +kernel
theorem dX2_isFull_6 : decode cX2_isFull 6 = .ok (.if_icmp .lt 7, 3) := by decide +kernel
theorem dX2_isFull_9 : decode cX2_isFull 9 = .ok (.iconst 1, 1) := by decide +kernel
theorem dX2_isFull_10 : decode cX2_isFull 10 = .ok (.goto 4, 3) := by decide +kernel
theorem dX2_isFull_13 : decode cX2_isFull 13 = .ok (.iconst 0, 1) := by decide +kernel
theorem dX2_isFull_14 : decode cX2_isFull 14 = .ok (.ireturn, 1) := by decide +kernel
theorem dX2_clear_0 : decode cX2_clear 0 = .ok (.aload_n 0, 1) := by decide +kernel
theorem dX2_clear_1 : decode cX2_clear 1 = .ok (.iconst 0, 1) := by decide +kernel
theorem dX2_clear_2 : decode cX2_clear 2 = .ok (.putfield 25, 3) := by decide +kernel
theorem dX2_clear_5 : decode cX2_clear 5 = .ok (.return_, 1) := by decide +kernel
theorem dX2_add_0 : decode cX2_add 0 = .ok (.aload_n 0, 1) := by decide +kernel
theorem dX2_add_1 : decode cX2_add 1 = .ok (.getfield 25, 3) := by decide +kernel
theorem dX2_add_4 : decode cX2_add 4 = .ok (.istore 5, 2) := by decide +kernel
theorem dX2_add_6 : decode cX2_add 6 = .ok (.aload_n 0, 1) := by decide +kernel
theorem dX2_add_7 : decode cX2_add 7 = .ok (.dup, 1) := by decide +kernel
theorem dX2_add_8 : decode cX2_add 8 = .ok (.getfield 25, 3) := by decide +kernel
theorem dX2_add_11 : decode cX2_add 11 = .ok (.iconst 1, 1) := by decide +kernel
theorem dX2_add_12 : decode cX2_add 12 = .ok (.iadd, 1) := by decide +kernel
theorem dX2_add_13 : decode cX2_add 13 = .ok (.putfield 25, 3) := by decide +kernel
theorem dX2_add_16 : decode cX2_add 16 = .ok (.aload_n 0, 1) := by decide +kernel
theorem dX2_add_17 : decode cX2_add 17 = .ok (.getfield 9, 3) := by decide +kernel
theorem dX2_add_20 : decode cX2_add 20 = .ok (.iload 5, 2) := by decide +kernel
theorem dX2_add_22 : decode cX2_add 22 = .ok (.iload_n 1, 1) := by decide +kernel
theorem dX2_add_23 : decode cX2_add 23 = .ok (.iastore, 1) := by decide +kernel
theorem dX2_add_24 : decode cX2_add 24 = .ok (.aload_n 0, 1) := by decide +kernel
theorem dX2_add_25 : decode cX2_add 25 = .ok (.getfield 15, 3) := by decide +kernel
theorem dX2_add_28 : decode cX2_add 28 = .ok (.iload 5, 2) := by decide +kernel
theorem dX2_add_30 : decode cX2_add 30 = .ok (.aload_n 2, 1) := by decide +kernel
theorem dX2_add_31 : decode cX2_add 31 = .ok (.iconst 0, 1) := by decide +kernel
theorem dX2_add_32 : decode cX2_add 32 = .ok (.iload_n 3, 1) := by decide +kernel
theorem dX2_add_33 : decode cX2_add 33 = .ok (.iload 4, 2) := by decide +kernel
theorem dX2_add_35 : decode cX2_add 35 = .ok (.invokevirtual 29, 3) := by decide +kernel
theorem dX2_add_38 : decode cX2_add 38 = .ok (.lastore, 1) := by decide +kernel
theorem dX2_add_39 : decode cX2_add 39 = .ok (.aload_n 0, 1) := by decide +kernel
theorem dX2_add_40 : decode cX2_add 40 = .ok (.getfield 19, 3) := by decide +kernel
theorem dX2_add_43 : decode cX2_add 43 = .ok (.iload 5, 2) := by decide +kernel
theorem dX2_add_45 : decode cX2_add 45 = .ok (.aload_n 2, 1) := by decide +kernel
theorem dX2_add_46 : decode cX2_add 46 = .ok (.iconst 1, 1) := by decide +kernel
theorem dX2_add_47 : decode cX2_add 47 = .ok (.iload_n 3, 1) := by decide +kernel
theorem dX2_add_48 : decode cX2_add 48 = .ok (.iload 4, 2) := by decide +kernel
theorem dX2_add_50 : decode cX2_add 50 = .ok (.invokevirtual 29, 3) := by decide +kernel
theorem dX2_add_53 : decode cX2_add 53 = .ok (.lastore, 1) := by decide +kernel
theorem dX2_add_54 : decode cX2_add 54 = .ok (.iload 5, 2) := by decide +kernel
theorem dX2_add_56 : decode cX2_add 56 = .ok (.ireturn, 1) := by decide +kernel
theorem dX2_findWorn_0 : decode cX2_findWorn 0 = .ok (.iconst 0, 1) := by decide +kernel
theorem dX2_findWorn_1 : decode cX2_findWorn 1 = .ok (.istore_n 2, 1) := by decide +kernel
theorem dX2_findWorn_2 : decode cX2_findWorn 2 = .ok (.iload_n 2, 1) := by decide +kernel
theorem dX2_findWorn_3 : decode cX2_findWorn 3 = .ok (.bipush 12, 2) := by decide +kernel
theorem dX2_findWorn_5 : decode cX2_findWorn 5 = .ok (.if_icmp .ge 71, 3) := by decide +kernel
theorem dX2_findWorn_8 : decode cX2_findWorn 8 = .ok (.aload_n 0, 1) := by decide +kernel
theorem dX2_findWorn_9 : decode cX2_findWorn 9 = .ok (.getfield 22, 3) := by decide +kernel
theorem dX2_findWorn_12 : decode cX2_findWorn 12 = .ok (.iload_n 2, 1) := by decide +kernel
theorem dX2_findWorn_13 : decode cX2_findWorn 13 = .ok (.lconst 0, 1) := by decide +kernel
theorem dX2_findWorn_14 : decode cX2_findWorn 14 = .ok (.lastore, 1) := by decide +kernel
theorem dX2_findWorn_15 : decode cX2_findWorn 15 = .ok (.iconst 0, 1) := by decide +kernel
theorem dX2_findWorn_16 : decode cX2_findWorn 16 = .ok (.istore_n 3, 1) := by decide +kernel
theorem dX2_findWorn_17 : decode cX2_findWorn 17 = .ok (.iload_n 3, 1) := by decide +kernel
theorem dX2_findWorn_18 : decode cX2_findWorn 18 = .ok (.aload_n 0, 1) := by decide +kernel
theorem dX2_findWorn_19 : decode cX2_findWorn 19 = .ok (.getfield 25, 3) := by decide +kernel
theorem dX2_findWorn_22 : decode cX2_findWorn 22 = .ok (.if_icmp .ge 48, 3) := by decide +kernel
theorem dX2_findWorn_25 : decode cX2_findWorn 25 = .ok (.aload_n 0, 1) := by decide +kernel
theorem dX2_findWorn_26 : decode cX2_findWorn 26 = .ok (.getfield 9, 3) := by decide +kernel
theorem dX2_findWorn_29 : decode cX2_findWorn 29 = .ok (.iload_n 3, 1) := by decide +kernel
theorem dX2_findWorn_30 : decode cX2_findWorn 30 = .ok (.iaload, 1) := by decide +kernel
theorem dX2_findWorn_31 : decode cX2_findWorn 31 = .ok (.i2l, 1) := by decide +kernel
theorem dX2_findWorn_32 : decode cX2_findWorn 32 = .ok (.iload_n 2, 1) := by decide +kernel
theorem dX2_findWorn_33 : decode cX2_findWorn 33 = .ok (.invokestatic 35, 3) := by decide +kernel
theorem dX2_findWorn_36 : decode cX2_findWorn 36 = .ok (.ifCond .eq 28, 3) := by decide +kernel
theorem dX2_findWorn_39 : decode cX2_findWorn 39 = .ok (.aload_n 0, 1) := by decide +kernel
theorem dX2_findWorn_40 : decode cX2_findWorn 40 = .ok (.getfield 22, 3) := by decide +kernel
theorem dX2_findWorn_43 : decode cX2_findWorn 43 = .ok (.iload_n 2, 1) := by decide +kernel
theorem dX2_findWorn_44 : decode cX2_findWorn 44 = .ok (.dup2, 1) := by decide +kernel
theorem dX2_findWorn_45 : decode cX2_findWorn 45 = .ok (.laload, 1) := by decide +kernel
theorem dX2_findWorn_46 : decode cX2_findWorn 46 = .ok (.aload_n 1, 1) := by decide +kernel
theorem dX2_findWorn_47 : decode cX2_findWorn 47 = .ok (.getfield 39, 3) := by decide +kernel
theorem dX2_findWorn_50 : decode cX2_findWorn 50 = .ok (.iload_n 2, 1) := by decide +kernel
theorem dX2_findWorn_51 : decode cX2_findWorn 51 = .ok (.aaload, 1) := by decide +kernel
theorem dX2_findWorn_52 : decode cX2_findWorn 52 = .ok (.getfield 45, 3) := by decide +kernel
theorem dX2_findWorn_55 : decode cX2_findWorn 55 = .ok (.aload_n 0, 1) := by decide +kernel
theorem dX2_findWorn_56 : decode cX2_findWorn 56 = .ok (.getfield 19, 3) := by decide +kernel
theorem dX2_findWorn_59 : decode cX2_findWorn 59 = .ok (.iload_n 3, 1) := by decide +kernel
theorem dX2_findWorn_60 : decode cX2_findWorn 60 = .ok (.laload, 1) := by decide +kernel
theorem dX2_findWorn_61 : decode cX2_findWorn 61 = .ok (.land, 1) := by decide +kernel
theorem dX2_findWorn_62 : decode cX2_findWorn 62 = .ok (.lor, 1) := by decide +kernel
theorem dX2_findWorn_63 : decode cX2_findWorn 63 = .ok (.lastore, 1) := by decide +kernel
theorem dX2_findWorn_64 : decode cX2_findWorn 64 = .ok (.iinc 3 1, 3) := by decide +kernel
theorem dX2_findWorn_67 : decode cX2_findWorn 67 = .ok (.goto (-50), 3) := by decide +kernel
theorem dX2_findWorn_70 : decode cX2_findWorn 70 = .ok (.iinc 2 1, 3) := by decide +kernel
theorem dX2_findWorn_73 : decode cX2_findWorn 73 = .ok (.goto (-71), 3) := by decide +kernel
theorem dX2_findWorn_76 : decode cX2_findWorn 76 = .ok (.return_, 1) := by decide +kernel
theorem dX2_howManyWorn_0 : decode cX2_howManyWorn 0 = .ok (.iconst 0, 1) := by decide +kernel
theorem dX2_howManyWorn_1 : decode cX2_howManyWorn 1 = .ok (.istore_n 1, 1) := by decide +kernel
theorem dX2_howManyWorn_2 : decode cX2_howManyWorn 2 = .ok (.iconst 0, 1) := by decide +kernel
theorem dX2_howManyWorn_3 : decode cX2_howManyWorn 3 = .ok (.istore_n 2, 1) := by decide +kernel
theorem dX2_howManyWorn_4 : decode cX2_howManyWorn 4 = .ok (.iload_n 2, 1) := by decide +kernel
theorem dX2_howManyWorn_5 : decode cX2_howManyWorn 5 = .ok (.bipush 12, 2) := by decide +kernel
theorem dX2_howManyWorn_7 : decode cX2_howManyWorn 7 = .ok (.if_icmp .ge 21, 3) := by decide +kernel
theorem dX2_howManyWorn_10 : decode cX2_howManyWorn 10 = .ok (.iload_n 1, 1) := by decide +kernel
theorem dX2_howManyWorn_11 : decode cX2_howManyWorn 11 = .ok (.aload_n 0, 1) := by decide +kernel
theorem dX2_howManyWorn_12 : decode cX2_howManyWorn 12 = .ok (.getfield 22, 3) := by decide +kernel
theorem dX2_howManyWorn_15 : decode cX2_howManyWorn 15 = .ok (.iload_n 2, 1) := by decide +kernel
theorem dX2_howManyWorn_16 : decode cX2_howManyWorn 16 = .ok (.laload, 1) := by decide +kernel
theorem dX2_howManyWorn_17 : decode cX2_howManyWorn 17 = .ok (.invokestatic 51, 3) := by decide +kernel
theorem dX2_howManyWorn_20 : decode cX2_howManyWorn 20 = .ok (.iadd, 1) := by decide +kernel
theorem dX2_howManyWorn_21 : decode cX2_howManyWorn 21 = .ok (.istore_n 1, 1) := by decide +kernel
theorem dX2_howManyWorn_22 : decode cX2_howManyWorn 22 = .ok (.iinc 2 1, 3) := by decide +kernel
theorem dX2_howManyWorn_25 : decode cX2_howManyWorn 25 = .ok (.goto (-21), 3) := by decide +kernel
theorem dX2_howManyWorn_28 : decode cX2_howManyWorn 28 = .ok (.iload_n 1, 1) := by decide +kernel
theorem dX2_howManyWorn_29 : decode cX2_howManyWorn 29 = .ok (.ireturn, 1) := by decide +kernel
theorem dX2_takesAsWorn_0 : decode cX2_takesAsWorn 0 = .ok (.aload_n 0, 1) := by decide +kernel
theorem dX2_takesAsWorn_1 : decode cX2_takesAsWorn 1 = .ok (.getfield 22, 3) := by decide +kernel
theorem dX2_takesAsWorn_4 : decode cX2_takesAsWorn 4 = .ok (.iload_n 1, 1) := by decide +kernel
theorem dX2_takesAsWorn_5 : decode cX2_takesAsWorn 5 = .ok (.laload, 1) := by decide +kernel
theorem dX2_takesAsWorn_6 : decode cX2_takesAsWorn 6 = .ok (.iload_n 2, 1) := by decide +kernel
theorem dX2_takesAsWorn_7 : decode cX2_takesAsWorn 7 = .ok (.invokestatic 35, 3) := by decide +kernel
theorem dX2_takesAsWorn_10 : decode cX2_takesAsWorn 10 = .ok (.ireturn, 1) := by decide +kernel
theorem dX2_takeAsWorn_0 : decode cX2_takeAsWorn 0 = .ok (.aload_n 0, 1) := by decide +kernel
theorem dX2_takeAsWorn_1 : decode cX2_takeAsWorn 1 = .ok (.getfield 22, 3) := by decide +kernel
theorem dX2_takeAsWorn_4 : decode cX2_takeAsWorn 4 = .ok (.iload_n 1, 1) := by decide +kernel
theorem dX2_takeAsWorn_5 : decode cX2_takeAsWorn 5 = .ok (.dup2, 1) := by decide +kernel
theorem dX2_takeAsWorn_6 : decode cX2_takeAsWorn 6 = .ok (.laload, 1) := by decide +kernel
theorem dX2_takeAsWorn_7 : decode cX2_takeAsWorn 7 = .ok (.lconst 1, 1) := by decide +kernel
theorem dX2_takeAsWorn_8 : decode cX2_takeAsWorn 8 = .ok (.iload_n 2, 1) := by decide +kernel
theorem dX2_takeAsWorn_9 : decode cX2_takeAsWorn 9 = .ok (.lshl, 1) := by decide +kernel
theorem dX2_takeAsWorn_10 : decode cX2_takeAsWorn 10 = .ok (.lor, 1) := by decide +kernel
theorem dX2_takeAsWorn_11 : decode cX2_takeAsWorn 11 = .ok (.lastore, 1) := by decide +kernel
theorem dX2_takeAsWorn_12 : decode cX2_takeAsWorn 12 = .ok (.return_, 1) := by decide +kernel
theorem dX2_explains_0 : decode cX2_explains 0 = .ok (.iconst 0, 1) := by decide +kernel
theorem dX2_explains_1 : decode cX2_explains 1 = .ok (.istore_n 2, 1) := by decide +kernel
theorem dX2_explains_2 : decode cX2_explains 2 = .ok (.iload_n 2, 1) := by decide +kernel
theorem dX2_explains_3 : decode cX2_explains 3 = .ok (.aload_n 0, 1) := by decide +kernel
theorem dX2_explains_4 : decode cX2_explains 4 = .ok (.getfield 25, 3) := by decide +kernel
theorem dX2_explains_7 : decode cX2_explains 7 = .ok (.if_icmp .ge 86, 3) := by decide +kernel
theorem dX2_explains_10 : decode cX2_explains 10 = .ok (.lconst 0, 1) := by decide +kernel
theorem dX2_explains_11 : decode cX2_explains 11 = .ok (.lstore_n 3, 1) := by decide +kernel
theorem dX2_explains_12 : decode cX2_explains 12 = .ok (.iconst 0, 1) := by decide +kernel
theorem dX2_explains_13 : decode cX2_explains 13 = .ok (.istore 5, 2) := by decide +kernel
theorem dX2_explains_15 : decode cX2_explains 15 = .ok (.iload 5, 2) := by decide +kernel
theorem dX2_explains_17 : decode cX2_explains 17 = .ok (.bipush 12, 2) := by decide +kernel
theorem dX2_explains_19 : decode cX2_explains 19 = .ok (.if_icmp .ge 49, 3) := by decide +kernel
theorem dX2_explains_22 : decode cX2_explains 22 = .ok (.aload_n 0, 1) := by decide +kernel
theorem dX2_explains_23 : decode cX2_explains 23 = .ok (.getfield 9, 3) := by decide +kernel
theorem dX2_explains_26 : decode cX2_explains 26 = .ok (.iload_n 2, 1) := by decide +kernel
theorem dX2_explains_27 : decode cX2_explains 27 = .ok (.iaload, 1) := by decide +kernel
theorem dX2_explains_28 : decode cX2_explains 28 = .ok (.i2l, 1) := by decide +kernel
theorem dX2_explains_29 : decode cX2_explains 29 = .ok (.iload 5, 2) := by decide +kernel
theorem dX2_explains_31 : decode cX2_explains 31 = .ok (.invokestatic 35, 3) := by decide +kernel
theorem dX2_explains_34 : decode cX2_explains 34 = .ok (.ifCond .eq 28, 3) := by decide +kernel
theorem dX2_explains_37 : decode cX2_explains 37 = .ok (.lload_n 3, 1) := by decide +kernel
theorem dX2_explains_38 : decode cX2_explains 38 = .ok (.aload_n 1, 1) := by decide +kernel
theorem dX2_explains_39 : decode cX2_explains 39 = .ok (.getfield 39, 3) := by decide +kernel
theorem dX2_explains_42 : decode cX2_explains 42 = .ok (.iload 5, 2) := by decide +kernel
theorem dX2_explains_44 : decode cX2_explains 44 = .ok (.aaload, 1) := by decide +kernel
theorem dX2_explains_45 : decode cX2_explains 45 = .ok (.getfield 45, 3) := by decide +kernel
theorem dX2_explains_48 : decode cX2_explains 48 = .ok (.aload_n 0, 1) := by decide +kernel
theorem dX2_explains_49 : decode cX2_explains 49 = .ok (.getfield 22, 3) := by decide +kernel
theorem dX2_explains_52 : decode cX2_explains 52 = .ok (.iload 5, 2) := by decide +kernel
theorem dX2_explains_54 : decode cX2_explains 54 = .ok (.laload, 1) := by decide +kernel
theorem dX2_explains_55 : decode cX2_explains 55 = .ok (.ldc2_w 57, 3) := by decide +kernel
theorem dX2_explains_58 : decode cX2_explains 58 = .ok (.lxor, 1) := by decide +kernel
theorem dX2_explains_59 : decode cX2_explains 59 = .ok (.land, 1) := by decide +kernel
theorem dX2_explains_60 : decode cX2_explains 60 = .ok (.lor, 1) := by decide +kernel
theorem dX2_explains_61 : decode cX2_explains 61 = .ok (.lstore_n 3, 1) := by decide +kernel
theorem dX2_explains_62 : decode cX2_explains 62 = .ok (.iinc 5 1, 3) := by decide +kernel
theorem dX2_explains_65 : decode cX2_explains 65 = .ok (.goto (-50), 3) := by decide +kernel
theorem dX2_explains_68 : decode cX2_explains 68 = .ok (.aload_n 0, 1) := by decide +kernel
theorem dX2_explains_69 : decode cX2_explains 69 = .ok (.getfield 15, 3) := by decide +kernel
theorem dX2_explains_72 : decode cX2_explains 72 = .ok (.iload_n 2, 1) := by decide +kernel
theorem dX2_explains_73 : decode cX2_explains 73 = .ok (.laload, 1) := by decide +kernel
theorem dX2_explains_74 : decode cX2_explains 74 = .ok (.lload_n 3, 1) := by decide +kernel
theorem dX2_explains_75 : decode cX2_explains 75 = .ok (.ldc2_w 57, 3) := by decide +kernel
theorem dX2_explains_78 : decode cX2_explains 78 = .ok (.lxor, 1) := by decide +kernel
theorem dX2_explains_79 : decode cX2_explains 79 = .ok (.land, 1) := by decide +kernel
theorem dX2_explains_80 : decode cX2_explains 80 = .ok (.lconst 0, 1) := by decide +kernel
theorem dX2_explains_81 : decode cX2_explains 81 = .ok (.lcmp, 1) := by decide +kernel
theorem dX2_explains_82 : decode cX2_explains 82 = .ok (.ifCond .eq 5, 3) := by decide +kernel
theorem dX2_explains_85 : decode cX2_explains 85 = .ok (.iconst 0, 1) := by decide +kernel
theorem dX2_explains_86 : decode cX2_explains 86 = .ok (.ireturn, 1) := by decide +kernel
theorem dX2_explains_87 : decode cX2_explains 87 = .ok (.iinc 2 1, 3) := by decide +kernel
theorem dX2_explains_90 : decode cX2_explains 90 = .ok (.goto (-88), 3) := by decide +kernel
theorem dX2_explains_93 : decode cX2_explains 93 = .ok (.iconst 1, 1) := by decide +kernel
theorem dX2_explains_94 : decode cX2_explains 94 = .ok (.ireturn, 1) := by decide +kernel
theorem dX3_init_0 : decode cX3_init 0 = .ok (.aload_n 0, 1) := by decide +kernel
theorem dX3_init_1 : decode cX3_init 1 = .ok (.invokespecial 3, 3) := by decide +kernel
theorem dX3_init_4 : decode cX3_init 4 = .ok (.aload_n 0, 1) := by decide +kernel
theorem dX3_init_5 : decode cX3_init 5 = .ok (.sipush 144, 3) := by decide +kernel
theorem dX3_init_8 : decode cX3_init 8 = .ok (.newarray .int, 2) := by decide +kernel
theorem dX3_init_10 : decode cX3_init 10 = .ok (.putfield 9, 3) := by decide +kernel
theorem dX3_init_13 : decode cX3_init 13 = .ok (.aload_n 0, 1) := by decide +kernel
theorem dX3_init_14 : decode cX3_init 14 = .ok (.sipush 4096, 3) := by decide +kernel
theorem dX3_init_17 : decode cX3_init 17 = .ok (.newarray .int, 2) := by decide +kernel
theorem dX3_init_19 : decode cX3_init 19 = .ok (.putfield 15, 3) := by decide +kernel
theorem dX3_init_22 : decode cX3_init 22 = .ok (.return_, 1) := by decide +kernel
theorem dX3_countMoves_0 : decode cX3_countMoves 0 = .ok (.aload_n 0, 1) := by decide +kernel
theorem dX3_countMoves_1 : decode cX3_countMoves 1 = .ok (.getfield 9, 3) := by decide +kernel
theorem dX3_countMoves_4 : decode cX3_countMoves 4 = .ok (.iconst 0, 1) := by decide +kernel
theorem dX3_countMoves_5 : decode cX3_countMoves 5 = .ok (.invokestatic 18, 3) := by decide +kernel
theorem dX3_countMoves_8 : decode cX3_countMoves 8 = .ok (.iconst 0, 1) := by decide +kernel
theorem dX3_countMoves_9 : decode cX3_countMoves 9 = .ok (.istore_n 3, 1) := by decide +kernel
theorem dX3_countMoves_10 : decode cX3_countMoves 10 = .ok (.iload_n 3, 1) := by decide +kernel
theorem dX3_countMoves_11 : decode cX3_countMoves 11 = .ok (.aload_n 1, 1) := by decide +kernel
theorem dX3_countMoves_12 : decode cX3_countMoves 12 = .ok (.getfield 24, 3) := by decide +kernel
theorem dX3_countMoves_15 : decode cX3_countMoves 15 = .ok (.if_icmp .ge 75, 3) := by decide +kernel
theorem dX3_countMoves_18 : decode cX3_countMoves 18 = .ok (.aload_n 1, 1) := by decide +kernel
theorem dX3_countMoves_19 : decode cX3_countMoves 19 = .ok (.getfield 30, 3) := by decide +kernel
theorem dX3_countMoves_22 : decode cX3_countMoves 22 = .ok (.iload_n 3, 1) := by decide +kernel
theorem dX3_countMoves_23 : decode cX3_countMoves 23 = .ok (.aaload, 1) := by decide +kernel
theorem dX3_countMoves_24 : decode cX3_countMoves 24 = .ok (.astore 4, 2) := by decide +kernel
theorem dX3_countMoves_26 : decode cX3_countMoves 26 = .ok (.iconst 1, 1) := by decide +kernel
theorem dX3_countMoves_27 : decode cX3_countMoves 27 = .ok (.istore 5, 2) := by decide +kernel
theorem dX3_countMoves_29 : decode cX3_countMoves 29 = .ok (.iload 5, 2) := by decide +kernel
theorem dX3_countMoves_31 : decode cX3_countMoves 31 = .ok (.aload 4, 2) := by decide +kernel
theorem dX3_countMoves_33 : decode cX3_countMoves 33 = .ok (.getfield 34, 3) := by decide +kernel
theorem dX3_countMoves_36 : decode cX3_countMoves 36 = .ok (.if_icmp .ge 48, 3) := by decide +kernel
theorem dX3_countMoves_39 : decode cX3_countMoves 39 = .ok (.aload_n 0, 1) := by decide +kernel
theorem dX3_countMoves_40 : decode cX3_countMoves 40 = .ok (.aload_n 2, 1) := by decide +kernel
theorem dX3_countMoves_41 : decode cX3_countMoves 41 = .ok (.aload 4, 2) := by decide +kernel
theorem dX3_countMoves_43 : decode cX3_countMoves 43 = .ok (.aload 4, 2) := by decide +kernel
theorem dX3_countMoves_45 : decode cX3_countMoves 45 = .ok (.getfield 39, 3) := by decide +kernel
theorem dX3_countMoves_48 : decode cX3_countMoves 48 = .ok (.iload 5, 2) := by decide +kernel
theorem dX3_countMoves_50 : decode cX3_countMoves 50 = .ok (.iconst 1, 1) := by decide +kernel
theorem dX3_countMoves_51 : decode cX3_countMoves 51 = .ok (.isub, 1) := by decide +kernel
theorem dX3_countMoves_52 : decode cX3_countMoves 52 = .ok (.invokevirtual 42, 3) := by decide +kernel
theorem dX3_countMoves_55 : decode cX3_countMoves 55 = .ok (.invokevirtual 46, 3) := by decide +kernel
theorem dX3_countMoves_58 : decode cX3_countMoves 58 = .ok (.aload_n 2, 1) := by decide +kernel
theorem dX3_countMoves_59 : decode cX3_countMoves 59 = .ok (.aload 4, 2) := by decide +kernel
theorem dX3_countMoves_61 : decode cX3_countMoves 61 = .ok (.aload 4, 2) := by decide +kernel
theorem dX3_countMoves_63 : decode cX3_countMoves 63 = .ok (.getfield 39, 3) := by decide +kernel
theorem dX3_countMoves_66 : decode cX3_countMoves 66 = .ok (.iload 5, 2) := by decide +kernel
theorem dX3_countMoves_68 : decode cX3_countMoves 68 = .ok (.invokevirtual 42, 3) := by decide +kernel
theorem dX3_countMoves_71 : decode cX3_countMoves 71 = .ok (.invokevirtual 46, 3) := by decide +kernel
theorem dX3_countMoves_74 : decode cX3_countMoves 74 = .ok (.aload_n 2, 1) := by decide +kernel
theorem dX3_countMoves_75 : decode cX3_countMoves 75 = .ok (.invokevirtual 52, 3) := by decide +kernel
theorem dX3_countMoves_78 : decode cX3_countMoves 78 = .ok (.iinc 5 1, 3) := by decide +kernel
theorem dX3_countMoves_81 : decode cX3_countMoves 81 = .ok (.goto (-52), 3) := by decide +kernel
theorem dX3_countMoves_84 : decode cX3_countMoves 84 = .ok (.iinc 3 1, 3) := by decide +kernel
theorem dX3_countMoves_87 : decode cX3_countMoves 87 = .ok (.goto (-77), 3) := by decide +kernel
theorem dX3_countMoves_90 : decode cX3_countMoves 90 = .ok (.return_, 1) := by decide +kernel
theorem dX3_countMove_0 : decode cX3_countMove 0 = .ok (.iload_n 1, 1) := by decide +kernel
theorem dX3_countMove_1 : decode cX3_countMove 1 = .ok (.ifCond .eq 84, 3) := by decide +kernel
theorem dX3_countMove_4 : decode cX3_countMove 4 = .ok (.iload_n 2, 1) := by decide +kernel
theorem dX3_countMove_5 : decode cX3_countMove 5 = .ok (.ifCond .eq 80, 3) := by decide +kernel
theorem dX3_countMove_8 : decode cX3_countMove 8 = .ok (.aload_n 3, 1) := by decide +kernel
theorem dX3_countMove_9 : decode cX3_countMove 9 = .ok (.getfield 56, 3) := by decide +kernel
theorem dX3_countMove_12 : decode cX3_countMove 12 = .ok (.iload_n 1, 1) := by decide +kernel
theorem dX3_countMove_13 : decode cX3_countMove 13 = .ok (.iaload, 1) := by decide +kernel
theorem dX3_countMove_14 : decode cX3_countMove 14 = .ok (.invokestatic 59, 3) := by decide +kernel
theorem dX3_countMove_17 : decode cX3_countMove 17 = .ok (.istore 4, 2) := by decide +kernel
theorem dX3_countMove_19 : decode cX3_countMove 19 = .ok (.aload_n 3, 1) := by decide +kernel
theorem dX3_countMove_20 : decode cX3_countMove 20 = .ok (.getfield 56, 3) := by decide +kernel
theorem dX3_countMove_23 : decode cX3_countMove 23 = .ok (.iload_n 2, 1) := by decide +kernel
theorem dX3_countMove_24 : decode cX3_countMove 24 = .ok (.iaload, 1) := by decide +kernel
theorem dX3_countMove_25 : decode cX3_countMove 25 = .ok (.invokestatic 59, 3) := by decide +kernel
theorem dX3_countMove_28 : decode cX3_countMove 28 = .ok (.istore 5, 2) := by decide +kernel
theorem dX3_countMove_30 : decode cX3_countMove 30 = .ok (.iload 4, 2) := by decide +kernel
theorem dX3_countMove_32 : decode cX3_countMove 32 = .ok (.bipush 12, 2) := by decide +kernel
theorem dX3_countMove_34 : decode cX3_countMove 34 = .ok (.if_icmp .ge 51, 3) := by decide +kernel
theorem dX3_countMove_37 : decode cX3_countMove 37 = .ok (.iload 5, 2) := by decide +kernel
theorem dX3_countMove_39 : decode cX3_countMove 39 = .ok (.bipush 12, 2) := by decide +kernel
theorem dX3_countMove_41 : decode cX3_countMove 41 = .ok (.if_icmp .ge 44, 3) := by decide +kernel
theorem dX3_countMove_44 : decode cX3_countMove 44 = .ok (.iload 4, 2) := by decide +kernel
theorem dX3_countMove_46 : decode cX3_countMove 46 = .ok (.iload 5, 2) := by decide +kernel
theorem dX3_countMove_48 : decode cX3_countMove 48 = .ok (.if_icmp .eq 37, 3) := by decide +kernel
theorem dX3_countMove_51 : decode cX3_countMove 51 = .ok (.aload_n 0, 1) := by decide +kernel
theorem dX3_countMove_52 : decode cX3_countMove 52 = .ok (.getfield 9, 3) := by decide +kernel
theorem dX3_countMove_55 : decode cX3_countMove 55 = .ok (.iload 4, 2) := by decide +kernel
theorem dX3_countMove_57 : decode cX3_countMove 57 = .ok (.bipush 12, 2) := by decide +kernel
theorem dX3_countMove_59 : decode cX3_countMove 59 = .ok (.imul, 1) := by decide +kernel
theorem dX3_countMove_60 : decode cX3_countMove 60 = .ok (.iload 5, 2) := by decide +kernel
theorem dX3_countMove_62 : decode cX3_countMove 62 = .ok (.iadd, 1) := by decide +kernel
theorem dX3_countMove_63 : decode cX3_countMove 63 = .ok (.dup2, 1) := by decide +kernel
theorem dX3_countMove_64 : decode cX3_countMove 64 = .ok (.iaload, 1) := by decide +kernel
theorem dX3_countMove_65 : decode cX3_countMove 65 = .ok (.iconst 1, 1) := by decide +kernel
theorem dX3_countMove_66 : decode cX3_countMove 66 = .ok (.iadd, 1) := by decide +kernel
theorem dX3_countMove_67 : decode cX3_countMove 67 = .ok (.iastore, 1) := by decide +kernel
theorem dX3_countMove_68 : decode cX3_countMove 68 = .ok (.aload_n 0, 1) := by decide +kernel
theorem dX3_countMove_69 : decode cX3_countMove 69 = .ok (.getfield 9, 3) := by decide +kernel
theorem dX3_countMove_72 : decode cX3_countMove 72 = .ok (.iload 5, 2) := by decide +kernel
theorem dX3_countMove_74 : decode cX3_countMove 74 = .ok (.bipush 12, 2) := by decide +kernel
theorem dX3_countMove_76 : decode cX3_countMove 76 = .ok (.imul, 1) := by decide +kernel
theorem dX3_countMove_77 : decode cX3_countMove 77 = .ok (.iload 4, 2) := by decide +kernel
theorem dX3_countMove_79 : decode cX3_countMove 79 = .ok (.iadd, 1) := by decide +kernel
theorem dX3_countMove_80 : decode cX3_countMove 80 = .ok (.dup2, 1) := by decide +kernel
theorem dX3_countMove_81 : decode cX3_countMove 81 = .ok (.iaload, 1) := by decide +kernel
theorem dX3_countMove_82 : decode cX3_countMove 82 = .ok (.iconst 1, 1) := by decide +kernel
theorem dX3_countMove_83 : decode cX3_countMove 83 = .ok (.iadd, 1) := by decide +kernel
theorem dX3_countMove_84 : decode cX3_countMove 84 = .ok (.iastore, 1) := by decide +kernel
theorem dX3_countMove_85 : decode cX3_countMove 85 = .ok (.return_, 1) := by decide +kernel
theorem dX3_wayOf_0 : decode cX3_wayOf 0 = .ok (.iconst 0, 1) := by decide +kernel
theorem dX3_wayOf_1 : decode cX3_wayOf 1 = .ok (.istore_n 2, 1) := by decide +kernel
theorem dX3_wayOf_2 : decode cX3_wayOf 2 = .ok (.iconst 0, 1) := by decide +kernel
theorem dX3_wayOf_3 : decode cX3_wayOf 3 = .ok (.istore_n 3, 1) := by decide +kernel
theorem dX3_wayOf_4 : decode cX3_wayOf 4 = .ok (.iload_n 3, 1) := by decide +kernel
theorem dX3_wayOf_5 : decode cX3_wayOf 5 = .ok (.aload_n 1, 1) := by decide +kernel
theorem dX3_wayOf_6 : decode cX3_wayOf 6 = .ok (.getfield 64, 3) := by decide +kernel
theorem dX3_wayOf_9 : decode cX3_wayOf 9 = .ok (.if_icmp .ge 72, 3) := by decide +kernel
theorem dX3_wayOf_12 : decode cX3_wayOf 12 = .ok (.iload_n 3, 1) := by decide +kernel
theorem dX3_wayOf_13 : decode cX3_wayOf 13 = .ok (.iconst 1, 1) := by decide +kernel
theorem dX3_wayOf_14 : decode cX3_wayOf 14 = .ok (.iadd, 1) := by decide +kernel
theorem dX3_wayOf_15 : decode cX3_wayOf 15 = .ok (.istore 4, 2) := by decide +kernel
theorem dX3_wayOf_17 : decode cX3_wayOf 17 = .ok (.iload 4, 2) := by decide +kernel
theorem dX3_wayOf_19 : decode cX3_wayOf 19 = .ok (.aload_n 1, 1) := by decide +kernel
theorem dX3_wayOf_20 : decode cX3_wayOf 20 = .ok (.getfield 64, 3) := by decide +kernel
theorem dX3_wayOf_23 : decode cX3_wayOf 23 = .ok (.if_icmp .ge 52, 3) := by decide +kernel
theorem dX3_wayOf_26 : decode cX3_wayOf 26 = .ok (.aload_n 1, 1) := by decide +kernel
theorem dX3_wayOf_27 : decode cX3_wayOf 27 = .ok (.getfield 67, 3) := by decide +kernel
theorem dX3_wayOf_30 : decode cX3_wayOf 30 = .ok (.iload_n 3, 1) := by decide +kernel
theorem dX3_wayOf_31 : decode cX3_wayOf 31 = .ok (.aaload, 1) := by decide +kernel
theorem dX3_wayOf_32 : decode cX3_wayOf 32 = .ok (.getfield 71, 3) := by decide +kernel
theorem dX3_wayOf_35 : decode cX3_wayOf 35 = .ok (.aload_n 1, 1) := by decide +kernel
theorem dX3_wayOf_36 : decode cX3_wayOf 36 = .ok (.getfield 67, 3) := by decide +kernel
theorem dX3_wayOf_39 : decode cX3_wayOf 39 = .ok (.iload 4, 2) := by decide +kernel
theorem dX3_wayOf_41 : decode cX3_wayOf 41 = .ok (.aaload, 1) := by decide +kernel
theorem dX3_wayOf_42 : decode cX3_wayOf 42 = .ok (.getfield 71, 3) := by decide +kernel
theorem dX3_wayOf_45 : decode cX3_wayOf 45 = .ok (.isub, 1) := by decide +kernel
theorem dX3_wayOf_46 : decode cX3_wayOf 46 = .ok (.invokestatic 76, 3) := by decide +kernel
theorem dX3_wayOf_49 : decode cX3_wayOf 49 = .ok (.istore 5, 2) := by decide +kernel
theorem dX3_wayOf_51 : decode cX3_wayOf 51 = .ok (.iload_n 2, 1) := by decide +kernel
theorem dX3_wayOf_52 : decode cX3_wayOf 52 = .ok (.aload_n 0, 1) := by decide +kernel
theorem dX3_wayOf_53 : decode cX3_wayOf 53 = .ok (.getfield 9, 3) := by decide +kernel
theorem dX3_wayOf_56 : decode cX3_wayOf 56 = .ok (.iload_n 3, 1) := by decide +kernel
theorem dX3_wayOf_57 : decode cX3_wayOf 57 = .ok (.bipush 12, 2) := by decide +kernel
theorem dX3_wayOf_59 : decode cX3_wayOf 59 = .ok (.imul, 1) := by decide +kernel
theorem dX3_wayOf_60 : decode cX3_wayOf 60 = .ok (.iload 4, 2) := by decide +kernel
theorem dX3_wayOf_62 : decode cX3_wayOf 62 = .ok (.iadd, 1) := by decide +kernel
theorem dX3_wayOf_63 : decode cX3_wayOf 63 = .ok (.iaload, 1) := by decide +kernel
theorem dX3_wayOf_64 : decode cX3_wayOf 64 = .ok (.iload 5, 2) := by decide +kernel
theorem dX3_wayOf_66 : decode cX3_wayOf 66 = .ok (.imul, 1) := by decide +kernel
theorem dX3_wayOf_67 : decode cX3_wayOf 67 = .ok (.iadd, 1) := by decide +kernel
theorem dX3_wayOf_68 : decode cX3_wayOf 68 = .ok (.istore_n 2, 1) := by decide +kernel
theorem dX3_wayOf_69 : decode cX3_wayOf 69 = .ok (.iinc 4 1, 3) := by decide +kernel
theorem dX3_wayOf_72 : decode cX3_wayOf 72 = .ok (.goto (-55), 3) := by decide +kernel
theorem dX3_wayOf_75 : decode cX3_wayOf 75 = .ok (.iinc 3 1, 3) := by decide +kernel
theorem dX3_wayOf_78 : decode cX3_wayOf 78 = .ok (.goto (-74), 3) := by decide +kernel
theorem dX3_wayOf_81 : decode cX3_wayOf 81 = .ok (.iload_n 2, 1) := by decide +kernel
theorem dX3_wayOf_82 : decode cX3_wayOf 82 = .ok (.ireturn, 1) := by decide +kernel
theorem dX3_leastWay_0 : decode cX3_leastWay 0 = .ok (.iconst 1, 1) := by decide +kernel
theorem dX3_leastWay_1 : decode cX3_leastWay 1 = .ok (.iload_n 1, 1) := by decide +kernel
theorem dX3_leastWay_2 : decode cX3_leastWay 2 = .ok (.ishl, 1) := by decide +kernel
theorem dX3_leastWay_3 : decode cX3_leastWay 3 = .ok (.iconst 1, 1) := by decide +kernel
theorem dX3_leastWay_4 : decode cX3_leastWay 4 = .ok (.isub, 1) := by decide +kernel
theorem dX3_leastWay_5 : decode cX3_leastWay 5 = .ok (.istore_n 2, 1) := by decide +kernel
theorem dX3_leastWay_6 : decode cX3_leastWay 6 = .ok (.aload_n 0, 1) := by decide +kernel
theorem dX3_leastWay_7 : decode cX3_leastWay 7 = .ok (.getfield 15, 3) := by decide +kernel
theorem dX3_leastWay_10 : decode cX3_leastWay 10 = .ok (.iconst 0, 1) := by decide +kernel
theorem dX3_leastWay_11 : decode cX3_leastWay 11 = .ok (.iconst 0, 1) := by decide +kernel
theorem dX3_leastWay_12 : decode cX3_leastWay 12 = .ok (.iastore, 1) := by decide +kernel
theorem dX3_leastWay_13 : decode cX3_leastWay 13 = .ok (.iconst 1, 1) := by decide +kernel
theorem dX3_leastWay_14 : decode cX3_leastWay 14 = .ok (.istore_n 3, 1) := by decide +kernel
theorem dX3_leastWay_15 : decode cX3_leastWay 15 = .ok (.iload_n 3, 1) := by decide +kernel
theorem dX3_leastWay_16 : decode cX3_leastWay 16 = .ok (.iload_n 2, 1) := by decide +kernel
theorem dX3_leastWay_17 : decode cX3_leastWay 17 = .ok (.if_icmp .gt 40, 3) := by decide +kernel
theorem dX3_leastWay_20 : decode cX3_leastWay 20 = .ok (.iload_n 3, 1) := by decide +kernel
theorem dX3_leastWay_21 : decode cX3_leastWay 21 = .ok (.invokestatic 59, 3) := by decide +kernel
theorem dX3_leastWay_24 : decode cX3_leastWay 24 = .ok (.istore 4, 2) := by decide +kernel
theorem dX3_leastWay_26 : decode cX3_leastWay 26 = .ok (.aload_n 0, 1) := by decide +kernel
theorem dX3_leastWay_27 : decode cX3_leastWay 27 = .ok (.getfield 15, 3) := by decide +kernel
theorem dX3_leastWay_30 : decode cX3_leastWay 30 = .ok (.iload_n 3, 1) := by decide +kernel
theorem dX3_leastWay_31 : decode cX3_leastWay 31 = .ok (.aload_n 0, 1) := by decide +kernel
theorem dX3_leastWay_32 : decode cX3_leastWay 32 = .ok (.getfield 15, 3) := by decide +kernel
theorem dX3_leastWay_35 : decode cX3_leastWay 35 = .ok (.iload_n 3, 1) := by decide +kernel
theorem dX3_leastWay_36 : decode cX3_leastWay 36 = .ok (.iload_n 3, 1) := by decide +kernel
theorem dX3_leastWay_37 : decode cX3_leastWay 37 = .ok (.iconst 1, 1) := by decide +kernel
theorem dX3_leastWay_38 : decode cX3_leastWay 38 = .ok (.isub, 1) := by decide +kernel
theorem dX3_leastWay_39 : decode cX3_leastWay 39 = .ok (.iand, 1) := by decide +kernel
theorem dX3_leastWay_40 : decode cX3_leastWay 40 = .ok (.iaload, 1) := by decide +kernel
theorem dX3_leastWay_41 : decode cX3_leastWay 41 = .ok (.aload_n 0, 1) := by decide +kernel
theorem dX3_leastWay_42 : decode cX3_leastWay 42 = .ok (.iload 4, 2) := by decide +kernel
theorem dX3_leastWay_44 : decode cX3_leastWay 44 = .ok (.iload_n 3, 1) := by decide +kernel
theorem dX3_leastWay_45 : decode cX3_leastWay 45 = .ok (.iload_n 1, 1) := by decide +kernel
theorem dX3_leastWay_46 : decode cX3_leastWay 46 = .ok (.invokevirtual 81, 3) := by decide +kernel
theorem dX3_leastWay_49 : decode cX3_leastWay 49 = .ok (.iadd, 1) := by decide +kernel
theorem dX3_leastWay_50 : decode cX3_leastWay 50 = .ok (.iastore, 1) := by decide +kernel
theorem dX3_leastWay_51 : decode cX3_leastWay 51 = .ok (.iinc 3 1, 3) := by decide +kernel
theorem dX3_leastWay_54 : decode cX3_leastWay 54 = .ok (.goto (-39), 3) := by decide +kernel
theorem dX3_leastWay_57 : decode cX3_leastWay 57 = .ok (.iload_n 2, 1) := by decide +kernel
theorem dX3_leastWay_58 : decode cX3_leastWay 58 = .ok (.iconst 1, 1) := by decide +kernel
theorem dX3_leastWay_59 : decode cX3_leastWay 59 = .ok (.isub, 1) := by decide +kernel
theorem dX3_leastWay_60 : decode cX3_leastWay 60 = .ok (.istore_n 3, 1) := by decide +kernel
theorem dX3_leastWay_61 : decode cX3_leastWay 61 = .ok (.iload_n 3, 1) := by decide +kernel
theorem dX3_leastWay_62 : decode cX3_leastWay 62 = .ok (.ifCond .lt 33, 3) := by decide +kernel
theorem dX3_leastWay_65 : decode cX3_leastWay 65 = .ok (.aload_n 0, 1) := by decide +kernel
theorem dX3_leastWay_66 : decode cX3_leastWay 66 = .ok (.getfield 15, 3) := by decide +kernel
theorem dX3_leastWay_69 : decode cX3_leastWay 69 = .ok (.iload_n 3, 1) := by decide +kernel
theorem dX3_leastWay_70 : decode cX3_leastWay 70 = .ok (.dup2, 1) := by decide +kernel
theorem dX3_leastWay_71 : decode cX3_leastWay 71 = .ok (.iaload, 1) := by decide +kernel
theorem dX3_leastWay_72 : decode cX3_leastWay 72 = .ok (.aload_n 0, 1) := by decide +kernel
theorem dX3_leastWay_73 : decode cX3_leastWay 73 = .ok (.getfield 15, 3) := by decide +kernel
theorem dX3_leastWay_76 : decode cX3_leastWay 76 = .ok (.iload_n 3, 1) := by decide +kernel
theorem dX3_leastWay_77 : decode cX3_leastWay 77 = .ok (.iconst 1, 1) := by decide +kernel
theorem dX3_leastWay_78 : decode cX3_leastWay 78 = .ok (.aload_n 0, 1) := by decide +kernel
theorem dX3_leastWay_79 : decode cX3_leastWay 79 = .ok (.iload_n 3, 1) := by decide +kernel
theorem dX3_leastWay_80 : decode cX3_leastWay 80 = .ok (.iload_n 1, 1) := by decide +kernel
theorem dX3_leastWay_81 : decode cX3_leastWay 81 = .ok (.invokevirtual 85, 3) := by decide +kernel
theorem dX3_leastWay_84 : decode cX3_leastWay 84 = .ok (.ishl, 1) := by decide +kernel
theorem dX3_leastWay_85 : decode cX3_leastWay 85 = .ok (.ior, 1) := by decide +kernel
theorem dX3_leastWay_86 : decode cX3_leastWay 86 = .ok (.iaload, 1) := by decide +kernel
theorem dX3_leastWay_87 : decode cX3_leastWay 87 = .ok (.iadd, 1) := by decide +kernel
theorem dX3_leastWay_88 : decode cX3_leastWay 88 = .ok (.iastore, 1) := by decide +kernel
theorem dX3_leastWay_89 : decode cX3_leastWay 89 = .ok (.iinc 3 (-1), 3) := by decide +kernel
theorem dX3_leastWay_92 : decode cX3_leastWay 92 = .ok (.goto (-31), 3) := by decide +kernel
theorem dX3_leastWay_95 : decode cX3_leastWay 95 = .ok (.aload_n 0, 1) := by decide +kernel
theorem dX3_leastWay_96 : decode cX3_leastWay 96 = .ok (.getfield 15, 3) := by decide +kernel
theorem dX3_leastWay_99 : decode cX3_leastWay 99 = .ok (.iconst 0, 1) := by decide +kernel
theorem dX3_leastWay_100 : decode cX3_leastWay 100 = .ok (.iaload, 1) := by decide +kernel
theorem dX3_leastWay_101 : decode cX3_leastWay 101 = .ok (.ireturn, 1) := by decide +kernel
theorem dX3_crossingsBy_0 : decode cX3_crossingsBy 0 = .ok (.iconst 0, 1) := by decide +kernel
theorem dX3_crossingsBy_1 : decode cX3_crossingsBy 1 = .ok (.istore 4, 2) := by decide +kernel
theorem dX3_crossingsBy_3 : decode cX3_crossingsBy 3 = .ok (.iconst 0, 1) := by decide +kernel
theorem dX3_crossingsBy_4 : decode cX3_crossingsBy 4 = .ok (.istore 5, 2) := by decide +kernel
theorem dX3_crossingsBy_6 : decode cX3_crossingsBy 6 = .ok (.iload 5, 2) := by decide +kernel
theorem dX3_crossingsBy_8 : decode cX3_crossingsBy 8 = .ok (.iload_n 3, 1) := by decide +kernel
theorem dX3_crossingsBy_9 : decode cX3_crossingsBy 9 = .ok (.if_icmp .ge 46, 3) := by decide +kernel
theorem dX3_crossingsBy_12 : decode cX3_crossingsBy 12 = .ok (.aload_n 0, 1) := by decide +kernel
theorem dX3_crossingsBy_13 : decode cX3_crossingsBy 13 = .ok (.getfield 9, 3) := by decide +kernel
theorem dX3_crossingsBy_16 : decode cX3_crossingsBy 16 = .ok (.iload_n 1, 1) := by decide +kernel
theorem dX3_crossingsBy_17 : decode cX3_crossingsBy 17 = .ok (.bipush 12, 2) := by decide +kernel
theorem dX3_crossingsBy_19 : decode cX3_crossingsBy 19 = .ok (.imul, 1) := by decide +kernel
theorem dX3_crossingsBy_20 : decode cX3_crossingsBy 20 = .ok (.iload 5, 2) := by decide +kernel
theorem dX3_crossingsBy_22 : decode cX3_crossingsBy 22 = .ok (.iadd, 1) := by decide +kernel
theorem dX3_crossingsBy_23 : decode cX3_crossingsBy 23 = .ok (.iaload, 1) := by decide +kernel
theorem dX3_crossingsBy_24 : decode cX3_crossingsBy 24 = .ok (.istore 6, 2) := by decide +kernel
theorem dX3_crossingsBy_26 : decode cX3_crossingsBy 26 = .ok (.iload 4, 2) := by decide +kernel
theorem dX3_crossingsBy_28 : decode cX3_crossingsBy 28 = .ok (.iload_n 2, 1) := by decide +kernel
theorem dX3_crossingsBy_29 : decode cX3_crossingsBy 29 = .ok (.i2l, 1) := by decide +kernel
theorem dX3_crossingsBy_30 : decode cX3_crossingsBy 30 = .ok (.iload 5, 2) := by decide +kernel
theorem dX3_crossingsBy_32 : decode cX3_crossingsBy 32 = .ok (.invokestatic 88, 3) := by decide +kernel
theorem dX3_crossingsBy_35 : decode cX3_crossingsBy 35 = .ok (.ifCond .eq 9, 3) := by decide +kernel
theorem dX3_crossingsBy_38 : decode cX3_crossingsBy 38 = .ok (.iload 6, 2) := by decide +kernel
theorem dX3_crossingsBy_40 : decode cX3_crossingsBy 40 = .ok (.ineg, 1) := by decide +kernel
theorem dX3_crossingsBy_41 : decode cX3_crossingsBy 41 = .ok (.goto 5, 3) := by decide +kernel
theorem dX3_crossingsBy_44 : decode cX3_crossingsBy 44 = .ok (.iload 6, 2) := by decide +kernel
theorem dX3_crossingsBy_46 : decode cX3_crossingsBy 46 = .ok (.iadd, 1) := by decide +kernel
theorem dX3_crossingsBy_47 : decode cX3_crossingsBy 47 = .ok (.istore 4, 2) := by decide +kernel
theorem dX3_crossingsBy_49 : decode cX3_crossingsBy 49 = .ok (.iinc 5 1, 3) := by decide +kernel
theorem dX3_crossingsBy_52 : decode cX3_crossingsBy 52 = .ok (.goto (-46), 3) := by decide +kernel
theorem dX3_crossingsBy_55 : decode cX3_crossingsBy 55 = .ok (.iload 4, 2) := by decide +kernel
theorem dX3_crossingsBy_57 : decode cX3_crossingsBy 57 = .ok (.ireturn, 1) := by decide +kernel
theorem dX3_nextBar_0 : decode cX3_nextBar 0 = .ok (.bipush (-9), 2) := by decide +kernel
theorem dX3_nextBar_2 : decode cX3_nextBar 2 = .ok (.istore_n 3, 1) := by decide +kernel
theorem dX3_nextBar_3 : decode cX3_nextBar 3 = .ok (.iconst 0, 1) := by decide +kernel
theorem dX3_nextBar_4 : decode cX3_nextBar 4 = .ok (.istore 4, 2) := by decide +kernel
theorem dX3_nextBar_6 : decode cX3_nextBar 6 = .ok (.iload 4, 2) := by decide +kernel
theorem dX3_nextBar_8 : decode cX3_nextBar 8 = .ok (.iload_n 2, 1) := by decide +kernel
theorem dX3_nextBar_9 : decode cX3_nextBar 9 = .ok (.if_icmp .ge 50, 3) := by decide +kernel
theorem dX3_nextBar_12 : decode cX3_nextBar 12 = .ok (.iload_n 1, 1) := by decide +kernel
theorem dX3_nextBar_13 : decode cX3_nextBar 13 = .ok (.i2l, 1) := by decide +kernel
theorem dX3_nextBar_14 : decode cX3_nextBar 14 = .ok (.iload 4, 2) := by decide +kernel
theorem dX3_nextBar_16 : decode cX3_nextBar 16 = .ok (.invokestatic 88, 3) := by decide +kernel
theorem dX3_nextBar_19 : decode cX3_nextBar 19 = .ok (.ifCond .ne 34, 3) := by decide +kernel
theorem dX3_nextBar_22 : decode cX3_nextBar 22 = .ok (.iload_n 3, 1) := by decide +kernel
theorem dX3_nextBar_23 : decode cX3_nextBar 23 = .ok (.ifCond .lt 27, 3) := by decide +kernel
theorem dX3_nextBar_26 : decode cX3_nextBar 26 = .ok (.aload_n 0, 1) := by decide +kernel
theorem dX3_nextBar_27 : decode cX3_nextBar 27 = .ok (.getfield 15, 3) := by decide +kernel
theorem dX3_nextBar_30 : decode cX3_nextBar 30 = .ok (.iload_n 1, 1) := by decide +kernel
theorem dX3_nextBar_31 : decode cX3_nextBar 31 = .ok (.iconst 1, 1) := by decide +kernel
theorem dX3_nextBar_32 : decode cX3_nextBar 32 = .ok (.iload 4, 2) := by decide +kernel
theorem dX3_nextBar_34 : decode cX3_nextBar 34 = .ok (.ishl, 1) := by decide +kernel
theorem dX3_nextBar_35 : decode cX3_nextBar 35 = .ok (.ior, 1) := by decide +kernel
theorem dX3_nextBar_36 : decode cX3_nextBar 36 = .ok (.iaload, 1) := by decide +kernel
theorem dX3_nextBar_37 : decode cX3_nextBar 37 = .ok (.aload_n 0, 1) := by decide +kernel
theorem dX3_nextBar_38 : decode cX3_nextBar 38 = .ok (.getfield 15, 3) := by decide +kernel
theorem dX3_nextBar_41 : decode cX3_nextBar 41 = .ok (.iload_n 1, 1) := by decide +kernel
theorem dX3_nextBar_42 : decode cX3_nextBar 42 = .ok (.iconst 1, 1) := by decide +kernel
theorem dX3_nextBar_43 : decode cX3_nextBar 43 = .ok (.iload_n 3, 1) := by decide +kernel
theorem dX3_nextBar_44 : decode cX3_nextBar 44 = .ok (.ishl, 1) := by decide +kernel
theorem dX3_nextBar_45 : decode cX3_nextBar 45 = .ok (.ior, 1) := by decide +kernel
theorem dX3_nextBar_46 : decode cX3_nextBar 46 = .ok (.iaload, 1) := by decide +kernel
theorem dX3_nextBar_47 : decode cX3_nextBar 47 = .ok (.if_icmp .ge 6, 3) := by decide +kernel
theorem dX3_nextBar_50 : decode cX3_nextBar 50 = .ok (.iload 4, 2) := by decide +kernel
theorem dX3_nextBar_52 : decode cX3_nextBar 52 = .ok (.istore_n 3, 1) := by decide +kernel
theorem dX3_nextBar_53 : decode cX3_nextBar 53 = .ok (.iinc 4 1, 3) := by decide +kernel
theorem dX3_nextBar_56 : decode cX3_nextBar 56 = .ok (.goto (-50), 3) := by decide +kernel
theorem dX3_nextBar_59 : decode cX3_nextBar 59 = .ok (.iload_n 3, 1) := by decide +kernel
theorem dX3_nextBar_60 : decode cX3_nextBar 60 = .ok (.iconst 0, 1) := by decide +kernel
theorem dX3_nextBar_61 : decode cX3_nextBar 61 = .ok (.invokestatic 92, 3) := by decide +kernel
theorem dX3_nextBar_64 : decode cX3_nextBar 64 = .ok (.ireturn, 1) := by decide +kernel
theorem dX3_putInOrder_0 : decode cX3_putInOrder 0 = .ok (.iconst 0, 1) := by decide +kernel
theorem dX3_putInOrder_1 : decode cX3_putInOrder 1 = .ok (.istore_n 2, 1) := by decide +kernel
theorem dX3_putInOrder_2 : decode cX3_putInOrder 2 = .ok (.iconst 0, 1) := by decide +kernel
theorem dX3_putInOrder_3 : decode cX3_putInOrder 3 = .ok (.istore_n 3, 1) := by decide +kernel
theorem dX3_putInOrder_4 : decode cX3_putInOrder 4 = .ok (.iconst 0, 1) := by decide +kernel
theorem dX3_putInOrder_5 : decode cX3_putInOrder 5 = .ok (.istore 4, 2) := by decide +kernel
theorem dX3_putInOrder_7 : decode cX3_putInOrder 7 = .ok (.iload 4, 2) := by decide +kernel
theorem dX3_putInOrder_9 : decode cX3_putInOrder 9 = .ok (.aload_n 1, 1) := by decide +kernel
theorem dX3_putInOrder_10 : decode cX3_putInOrder 10 = .ok (.getfield 64, 3) := by decide +kernel
theorem dX3_putInOrder_13 : decode cX3_putInOrder 13 = .ok (.if_icmp .ge 57, 3) := by decide +kernel
theorem dX3_putInOrder_16 : decode cX3_putInOrder 16 = .ok (.aload_n 0, 1) := by decide +kernel
theorem dX3_putInOrder_17 : decode cX3_putInOrder 17 = .ok (.iload_n 3, 1) := by decide +kernel
theorem dX3_putInOrder_18 : decode cX3_putInOrder 18 = .ok (.aload_n 1, 1) := by decide +kernel
theorem dX3_putInOrder_19 : decode cX3_putInOrder 19 = .ok (.getfield 64, 3) := by decide +kernel
theorem dX3_putInOrder_22 : decode cX3_putInOrder 22 = .ok (.invokevirtual 85, 3) := by decide +kernel
theorem dX3_putInOrder_25 : decode cX3_putInOrder 25 = .ok (.istore 5, 2) := by decide +kernel
theorem dX3_putInOrder_27 : decode cX3_putInOrder 27 = .ok (.aload_n 1, 1) := by decide +kernel
theorem dX3_putInOrder_28 : decode cX3_putInOrder 28 = .ok (.getfield 67, 3) := by decide +kernel
theorem dX3_putInOrder_31 : decode cX3_putInOrder 31 = .ok (.iload 5, 2) := by decide +kernel
theorem dX3_putInOrder_33 : decode cX3_putInOrder 33 = .ok (.aaload, 1) := by decide +kernel
theorem dX3_putInOrder_34 : decode cX3_putInOrder 34 = .ok (.getfield 71, 3) := by decide +kernel
theorem dX3_putInOrder_37 : decode cX3_putInOrder 37 = .ok (.iload 4, 2) := by decide +kernel
theorem dX3_putInOrder_39 : decode cX3_putInOrder 39 = .ok (.if_icmp .eq 18, 3) := by decide +kernel
theorem dX3_putInOrder_42 : decode cX3_putInOrder 42 = .ok (.aload_n 1, 1) := by decide +kernel
theorem dX3_putInOrder_43 : decode cX3_putInOrder 43 = .ok (.getfield 67, 3) := by decide +kernel
theorem dX3_putInOrder_46 : decode cX3_putInOrder 46 = .ok (.iload 5, 2) := by decide +kernel
theorem dX3_putInOrder_48 : decode cX3_putInOrder 48 = .ok (.aaload, 1) := by decide +kernel
theorem dX3_putInOrder_49 : decode cX3_putInOrder 49 = .ok (.iload 4, 2) := by decide +kernel
theorem dX3_putInOrder_51 : decode cX3_putInOrder 51 = .ok (.putfield 71, 3) := by decide +kernel
theorem dX3_putInOrder_54 : decode cX3_putInOrder 54 = .ok (.iinc 2 1, 3) := by decide +kernel
theorem dX3_putInOrder_57 : decode cX3_putInOrder 57 = .ok (.iload_n 3, 1) := by decide +kernel
theorem dX3_putInOrder_58 : decode cX3_putInOrder 58 = .ok (.iconst 1, 1) := by decide +kernel
theorem dX3_putInOrder_59 : decode cX3_putInOrder 59 = .ok (.iload 5, 2) := by decide +kernel
theorem dX3_putInOrder_61 : decode cX3_putInOrder 61 = .ok (.ishl, 1) := by decide +kernel
theorem dX3_putInOrder_62 : decode cX3_putInOrder 62 = .ok (.ior, 1) := by decide +kernel
theorem dX3_putInOrder_63 : decode cX3_putInOrder 63 = .ok (.istore_n 3, 1) := by decide +kernel
theorem dX3_putInOrder_64 : decode cX3_putInOrder 64 = .ok (.iinc 4 1, 3) := by decide +kernel
theorem dX3_putInOrder_67 : decode cX3_putInOrder 67 = .ok (.goto (-60), 3) := by decide +kernel
theorem dX3_putInOrder_70 : decode cX3_putInOrder 70 = .ok (.iload_n 2, 1) := by decide +kernel
theorem dX3_putInOrder_71 : decode cX3_putInOrder 71 = .ok (.ireturn, 1) := by decide +kernel
theorem dX4_init_0 : decode cX4_init 0 = .ok (.aload_n 0, 1) := by decide +kernel
theorem dX4_init_1 : decode cX4_init 1 = .ok (.invokespecial 3, 3) := by decide +kernel
theorem dX4_init_4 : decode cX4_init 4 = .ok (.aload_n 0, 1) := by decide +kernel
theorem dX4_init_5 : decode cX4_init 5 = .ok (.bipush 79, 2) := by decide +kernel
theorem dX4_init_7 : decode cX4_init 7 = .ok (.newarray .int, 2) := by decide +kernel
theorem dX4_init_9 : decode cX4_init 9 = .ok (.putfield 9, 3) := by decide +kernel
theorem dX4_init_12 : decode cX4_init 12 = .ok (.aload_n 0, 1) := by decide +kernel
theorem dX4_init_13 : decode cX4_init 13 = .ok (.bipush 79, 2) := by decide +kernel
theorem dX4_init_15 : decode cX4_init 15 = .ok (.newarray .long, 2) := by decide +kernel
theorem dX4_init_17 : decode cX4_init 17 = .ok (.putfield 15, 3) := by decide +kernel
theorem dX4_init_20 : decode cX4_init 20 = .ok (.aload_n 0, 1) := by decide +kernel
theorem dX4_init_21 : decode cX4_init 21 = .ok (.bipush 79, 2) := by decide +kernel
theorem dX4_init_23 : decode cX4_init 23 = .ok (.newarray .int, 2) := by decide +kernel
theorem dX4_init_25 : decode cX4_init 25 = .ok (.putfield 19, 3) := by decide +kernel
theorem dX4_init_28 : decode cX4_init 28 = .ok (.aload_n 0, 1) := by decide +kernel
theorem dX4_init_29 : decode cX4_init 29 = .ok (.bipush 96, 2) := by decide +kernel
theorem dX4_init_31 : decode cX4_init 31 = .ok (.newarray .int, 2) := by decide +kernel
theorem dX4_init_33 : decode cX4_init 33 = .ok (.putfield 22, 3) := by decide +kernel
theorem dX4_init_36 : decode cX4_init 36 = .ok (.aload_n 0, 1) := by decide +kernel
theorem dX4_init_37 : decode cX4_init 37 = .ok (.bipush 61, 2) := by decide +kernel
theorem dX4_init_39 : decode cX4_init 39 = .ok (.newarray .long, 2) := by decide +kernel
theorem dX4_init_41 : decode cX4_init 41 = .ok (.putfield 25, 3) := by decide +kernel
theorem dX4_init_44 : decode cX4_init 44 = .ok (.aload_n 0, 1) := by decide +kernel
theorem dX4_init_45 : decode cX4_init 45 = .ok (.iconst 0, 1) := by decide +kernel
theorem dX4_init_46 : decode cX4_init 46 = .ok (.putfield 28, 3) := by decide +kernel
theorem dX4_init_49 : decode cX4_init 49 = .ok (.return_, 1) := by decide +kernel
theorem dX4_look_0 : decode cX4_look 0 = .ok (.aload_n 1, 1) := by decide +kernel
theorem dX4_look_1 : decode cX4_look 1 = .ok (.getfield 32, 3) := by decide +kernel
theorem dX4_look_4 : decode cX4_look 4 = .ok (.iconst 0, 1) := by decide +kernel
theorem dX4_look_5 : decode cX4_look 5 = .ok (.aload_n 0, 1) := by decide +kernel
theorem dX4_look_6 : decode cX4_look 6 = .ok (.getfield 25, 3) := by decide +kernel
theorem dX4_look_9 : decode cX4_look 9 = .ok (.iconst 0, 1) := by decide +kernel
theorem dX4_look_10 : decode cX4_look 10 = .ok (.bipush 61, 2) := by decide +kernel
theorem dX4_look_12 : decode cX4_look 12 = .ok (.invokestatic 35, 3) := by decide +kernel
theorem dX4_look_15 : decode cX4_look 15 = .ok (.aload_n 0, 1) := by decide +kernel
theorem dX4_look_16 : decode cX4_look 16 = .ok (.getfield 22, 3) := by decide +kernel
theorem dX4_look_19 : decode cX4_look 19 = .ok (.iconst (-1), 1) := by decide +kernel
theorem dX4_look_20 : decode cX4_look 20 = .ok (.invokestatic 41, 3) := by decide +kernel
theorem dX4_look_23 : decode cX4_look 23 = .ok (.aload_n 0, 1) := by decide +kernel
theorem dX4_look_24 : decode cX4_look 24 = .ok (.iconst 0, 1) := by decide +kernel
theorem dX4_look_25 : decode cX4_look 25 = .ok (.putfield 28, 3) := by decide +kernel
theorem dX4_look_28 : decode cX4_look 28 = .ok (.aload_n 0, 1) := by decide +kernel
theorem dX4_look_29 : decode cX4_look 29 = .ok (.iconst 0, 1) := by decide +kernel
theorem dX4_look_30 : decode cX4_look 30 = .ok (.lconst 0, 1) := by decide +kernel
theorem dX4_look_31 : decode cX4_look 31 = .ok (.aload_n 1, 1) := by decide +kernel
theorem dX4_look_32 : decode cX4_look 32 = .ok (.invokevirtual 47, 3) := by decide +kernel
theorem dX4_look_35 : decode cX4_look 35 = .ok (.iconst 0, 1) := by decide +kernel
theorem dX4_look_36 : decode cX4_look 36 = .ok (.istore_n 3, 1) := by decide +kernel
theorem dX4_look_37 : decode cX4_look 37 = .ok (.iload_n 3, 1) := by decide +kernel
theorem dX4_look_38 : decode cX4_look 38 = .ok (.aload_n 2, 1) := by decide +kernel
theorem dX4_look_39 : decode cX4_look 39 = .ok (.getfield 51, 3) := by decide +kernel
theorem dX4_look_42 : decode cX4_look 42 = .ok (.if_icmp .ge 26, 3) := by decide +kernel
theorem dX4_look_45 : decode cX4_look 45 = .ok (.aload_n 0, 1) := by decide +kernel
theorem dX4_look_46 : decode cX4_look 46 = .ok (.iconst 1, 1) := by decide +kernel
theorem dX4_look_47 : decode cX4_look 47 = .ok (.iload_n 3, 1) := by decide +kernel
theorem dX4_look_48 : decode cX4_look 48 = .ok (.ishl, 1) := by decide +kernel
theorem dX4_look_49 : decode cX4_look 49 = .ok (.aload_n 2, 1) := by decide +kernel
theorem dX4_look_50 : decode cX4_look 50 = .ok (.getfield 54, 3) := by decide +kernel
theorem dX4_look_53 : decode cX4_look 53 = .ok (.iload_n 3, 1) := by decide +kernel
theorem dX4_look_54 : decode cX4_look 54 = .ok (.aaload, 1) := by decide +kernel
theorem dX4_look_55 : decode cX4_look 55 = .ok (.invokevirtual 58, 3) := by decide +kernel
theorem dX4_look_58 : decode cX4_look 58 = .ok (.aload_n 1, 1) := by decide +kernel
theorem dX4_look_59 : decode cX4_look 59 = .ok (.invokevirtual 47, 3) := by decide +kernel
theorem dX4_look_62 : decode cX4_look 62 = .ok (.iinc 3 1, 3) := by decide +kernel
theorem dX4_look_65 : decode cX4_look 65 = .ok (.goto (-28), 3) := by decide +kernel
theorem dX4_look_68 : decode cX4_look 68 = .ok (.iconst 0, 1) := by decide +kernel
theorem dX4_look_69 : decode cX4_look 69 = .ok (.istore_n 3, 1) := by decide +kernel
theorem dX4_look_70 : decode cX4_look 70 = .ok (.iload_n 3, 1) := by decide +kernel
theorem dX4_look_71 : decode cX4_look 71 = .ok (.aload_n 2, 1) := by decide +kernel
theorem dX4_look_72 : decode cX4_look 72 = .ok (.getfield 51, 3) := by decide +kernel
theorem dX4_look_75 : decode cX4_look 75 = .ok (.if_icmp .ge 66, 3) := by decide +kernel
theorem dX4_look_78 : decode cX4_look 78 = .ok (.iload_n 3, 1) := by decide +kernel
theorem dX4_look_79 : decode cX4_look 79 = .ok (.iconst 1, 1) := by decide +kernel
theorem dX4_look_80 : decode cX4_look 80 = .ok (.iadd, 1) := by decide +kernel
theorem dX4_look_81 : decode cX4_look 81 = .ok (.istore 4, 2) := by decide +kernel
theorem dX4_look_83 : decode cX4_look 83 = .ok (.iload 4, 2) := by decide +kernel
theorem dX4_look_85 : decode cX4_look 85 = .ok (.aload_n 2, 1) := by decide +kernel
theorem dX4_look_86 : decode cX4_look 86 = .ok (.getfield 51, 3) := by decide +kernel
theorem dX4_look_89 : decode cX4_look 89 = .ok (.if_icmp .ge 46, 3) := by decide +kernel
theorem dX4_look_92 : decode cX4_look 92 = .ok (.aload_n 2, 1) := by decide +kernel
theorem dX4_look_93 : decode cX4_look 93 = .ok (.getfield 54, 3) := by decide +kernel
theorem dX4_look_96 : decode cX4_look 96 = .ok (.iload_n 3, 1) := by decide +kernel
theorem dX4_look_97 : decode cX4_look 97 = .ok (.aaload, 1) := by decide +kernel
theorem dX4_look_98 : decode cX4_look 98 = .ok (.invokevirtual 58, 3) := by decide +kernel
theorem dX4_look_101 : decode cX4_look 101 = .ok (.aload_n 2, 1) := by decide +kernel
theorem dX4_look_102 : decode cX4_look 102 = .ok (.getfield 54, 3) := by decide +kernel
theorem dX4_look_105 : decode cX4_look 105 = .ok (.iload 4, 2) := by decide +kernel
theorem dX4_look_107 : decode cX4_look 107 = .ok (.aaload, 1) := by decide +kernel
theorem dX4_look_108 : decode cX4_look 108 = .ok (.invokevirtual 58, 3) := by decide +kernel
theorem dX4_look_111 : decode cX4_look 111 = .ok (.lor, 1) := by decide +kernel
theorem dX4_look_112 : decode cX4_look 112 = .ok (.lstore 5, 2) := by decide +kernel
theorem dX4_look_114 : decode cX4_look 114 = .ok (.aload_n 0, 1) := by decide +kernel
theorem dX4_look_115 : decode cX4_look 115 = .ok (.iconst 1, 1) := by decide +kernel
theorem dX4_look_116 : decode cX4_look 116 = .ok (.iload_n 3, 1) := by decide +kernel
theorem dX4_look_117 : decode cX4_look 117 = .ok (.ishl, 1) := by decide +kernel
theorem dX4_look_118 : decode cX4_look 118 = .ok (.iconst 1, 1) := by decide +kernel
theorem dX4_look_119 : decode cX4_look 119 = .ok (.iload 4, 2) := by decide +kernel
theorem dX4_look_121 : decode cX4_look 121 = .ok (.ishl, 1) := by decide +kernel
theorem dX4_look_122 : decode cX4_look 122 = .ok (.ior, 1) := by decide +kernel
theorem dX4_look_123 : decode cX4_look 123 = .ok (.lload 5, 2) := by decide +kernel
theorem dX4_look_125 : decode cX4_look 125 = .ok (.aload_n 1, 1) := by decide +kernel
theorem dX4_look_126 : decode cX4_look 126 = .ok (.invokevirtual 47, 3) := by decide +kernel
theorem dX4_look_129 : decode cX4_look 129 = .ok (.iinc 4 1, 3) := by decide +kernel
theorem dX4_look_132 : decode cX4_look 132 = .ok (.goto (-49), 3) := by decide +kernel
theorem dX4_look_135 : decode cX4_look 135 = .ok (.iinc 3 1, 3) := by decide +kernel
theorem dX4_look_138 : decode cX4_look 138 = .ok (.goto (-68), 3) := by decide +kernel
theorem dX4_look_141 : decode cX4_look 141 = .ok (.return_, 1) := by decide +kernel
theorem dX4_add_0 : decode cX4_add 0 = .ok (.aload_n 0, 1) := by decide +kernel
theorem dX4_add_1 : decode cX4_add 1 = .ok (.getfield 28, 3) := by decide +kernel
theorem dX4_add_4 : decode cX4_add 4 = .ok (.bipush 79, 2) := by decide +kernel
theorem dX4_add_6 : decode cX4_add 6 = .ok (.if_icmp .ge 56, 3) := by decide +kernel
theorem dX4_add_9 : decode cX4_add 9 = .ok (.aload_n 0, 1) := by decide +kernel
theorem dX4_add_10 : decode cX4_add 10 = .ok (.getfield 9, 3) := by decide +kernel
theorem dX4_add_13 : decode cX4_add 13 = .ok (.aload_n 0, 1) := by decide +kernel
theorem dX4_add_14 : decode cX4_add 14 = .ok (.getfield 28, 3) := by decide +kernel
theorem dX4_add_17 : decode cX4_add 17 = .ok (.iload_n 1, 1) := by decide +kernel
theorem dX4_add_18 : decode cX4_add 18 = .ok (.iastore, 1) := by decide +kernel
theorem dX4_add_19 : decode cX4_add 19 = .ok (.aload_n 0, 1) := by decide +kernel
theorem dX4_add_20 : decode cX4_add 20 = .ok (.getfield 15, 3) := by decide +kernel
theorem dX4_add_23 : decode cX4_add 23 = .ok (.aload_n 0, 1) := by decide +kernel
theorem dX4_add_24 : decode cX4_add 24 = .ok (.getfield 28, 3) := by decide +kernel
theorem dX4_add_27 : decode cX4_add 27 = .ok (.lload_n 2, 1) := by decide +kernel
theorem dX4_add_28 : decode cX4_add 28 = .ok (.ldc2_w 64, 3) := by decide +kernel
theorem dX4_add_31 : decode cX4_add 31 = .ok (.lxor, 1) := by decide +kernel
theorem dX4_add_32 : decode cX4_add 32 = .ok (.lastore, 1) := by decide +kernel
theorem dX4_add_33 : decode cX4_add 33 = .ok (.aload_n 0, 1) := by decide +kernel
theorem dX4_add_34 : decode cX4_add 34 = .ok (.getfield 19, 3) := by decide +kernel
theorem dX4_add_37 : decode cX4_add 37 = .ok (.aload_n 0, 1) := by decide +kernel
theorem dX4_add_38 : decode cX4_add 38 = .ok (.getfield 28, 3) := by decide +kernel
theorem dX4_add_41 : decode cX4_add 41 = .ok (.aload 4, 2) := by decide +kernel
theorem dX4_add_43 : decode cX4_add 43 = .ok (.lload_n 2, 1) := by decide +kernel
theorem dX4_add_44 : decode cX4_add 44 = .ok (.ldc2_w 64, 3) := by decide +kernel
theorem dX4_add_47 : decode cX4_add 47 = .ok (.lxor, 1) := by decide +kernel
theorem dX4_add_48 : decode cX4_add 48 = .ok (.invokevirtual 66, 3) := by decide +kernel
theorem dX4_add_51 : decode cX4_add 51 = .ok (.iastore, 1) := by decide +kernel
theorem dX4_add_52 : decode cX4_add 52 = .ok (.aload_n 0, 1) := by decide +kernel
theorem dX4_add_53 : decode cX4_add 53 = .ok (.dup, 1) := by decide +kernel
theorem dX4_add_54 : decode cX4_add 54 = .ok (.getfield 28, 3) := by decide +kernel
theorem dX4_add_57 : decode cX4_add 57 = .ok (.iconst 1, 1) := by decide +kernel
theorem dX4_add_58 : decode cX4_add 58 = .ok (.iadd, 1) := by decide +kernel
theorem dX4_add_59 : decode cX4_add 59 = .ok (.putfield 28, 3) := by decide +kernel
theorem dX4_add_62 : decode cX4_add 62 = .ok (.return_, 1) := by decide +kernel
theorem dX4_gripOf_0 : decode cX4_gripOf 0 = .ok (.iload_n 0, 1) := by decide +kernel
theorem dX4_gripOf_1 : decode cX4_gripOf 1 = .ok (.ifCond .ne 7, 3) := by decide +kernel
theorem dX4_gripOf_4 : decode cX4_gripOf 4 = .ok (.iconst 0, 1) := by decide +kernel
theorem dX4_gripOf_5 : decode cX4_gripOf 5 = .ok (.goto 9, 3) := by decide +kernel
theorem dX4_gripOf_8 : decode cX4_gripOf 8 = .ok (.iconst 1, 1) := by decide +kernel
theorem dX4_gripOf_9 : decode cX4_gripOf 9 = .ok (.iload_n 0, 1) := by decide +kernel
theorem dX4_gripOf_10 : decode cX4_gripOf 10 = .ok (.invokestatic 70, 3) := by decide +kernel
theorem dX4_gripOf_13 : decode cX4_gripOf 13 = .ok (.iadd, 1) := by decide +kernel
theorem dX4_gripOf_14 : decode cX4_gripOf 14 = .ok (.ireturn, 1) := by decide +kernel
theorem dX4_holdOf_0 : decode cX4_holdOf 0 = .ok (.aload_n 0, 1) := by decide +kernel
theorem dX4_holdOf_1 : decode cX4_holdOf 1 = .ok (.getfield 22, 3) := by decide +kernel
theorem dX4_holdOf_4 : decode cX4_holdOf 4 = .ok (.iload_n 1, 1) := by decide +kernel
theorem dX4_holdOf_5 : decode cX4_holdOf 5 = .ok (.iaload, 1) := by decide +kernel
theorem dX4_holdOf_6 : decode cX4_holdOf 6 = .ok (.iconst (-1), 1) := by decide +kernel
theorem dX4_holdOf_7 : decode cX4_holdOf 7 = .ok (.if_icmp .ne 17, 3) := by decide +kernel
theorem dX4_holdOf_10 : decode cX4_holdOf 10 = .ok (.aload_n 0, 1) := by decide +kernel
theorem dX4_holdOf_11 : decode cX4_holdOf 11 = .ok (.getfield 22, 3) := by decide +kernel
theorem dX4_holdOf_14 : decode cX4_holdOf 14 = .ok (.iload_n 1, 1) := by decide +kernel
theorem dX4_holdOf_15 : decode cX4_holdOf 15 = .ok (.aload_n 0, 1) := by decide +kernel
theorem dX4_holdOf_16 : decode cX4_holdOf 16 = .ok (.iload_n 1, 1) := by decide +kernel
theorem dX4_holdOf_17 : decode cX4_holdOf 17 = .ok (.invokestatic 76, 3) := by decide +kernel
theorem dX4_holdOf_20 : decode cX4_holdOf 20 = .ok (.invokevirtual 79, 3) := by decide +kernel
theorem dX4_holdOf_23 : decode cX4_holdOf 23 = .ok (.iastore, 1) := by decide +kernel
theorem dX4_holdOf_24 : decode cX4_holdOf 24 = .ok (.aload_n 0, 1) := by decide +kernel
theorem dX4_holdOf_25 : decode cX4_holdOf 25 = .ok (.getfield 22, 3) := by decide +kernel
theorem dX4_holdOf_28 : decode cX4_holdOf 28 = .ok (.iload_n 1, 1) := by decide +kernel
theorem dX4_holdOf_29 : decode cX4_holdOf 29 = .ok (.iaload, 1) := by decide +kernel
theorem dX4_holdOf_30 : decode cX4_holdOf 30 = .ok (.ireturn, 1) := by decide +kernel
theorem dX4_seekHold_0 : decode cX4_seekHold 0 = .ok (.iconst 1, 1) := by decide +kernel
theorem dX4_seekHold_1 : decode cX4_seekHold 1 = .ok (.istore_n 2, 1) := by decide +kernel
theorem dX4_seekHold_2 : decode cX4_seekHold 2 = .ok (.iload_n 2, 1) := by decide +kernel
theorem dX4_seekHold_3 : decode cX4_seekHold 3 = .ok (.aload_n 0, 1) := by decide +kernel
theorem dX4_seekHold_4 : decode cX4_seekHold 4 = .ok (.getfield 28, 3) := by decide +kernel
theorem dX4_seekHold_7 : decode cX4_seekHold 7 = .ok (.if_icmp .ge 21, 3) := by decide +kernel
theorem dX4_seekHold_10 : decode cX4_seekHold 10 = .ok (.aload_n 0, 1) := by decide +kernel
theorem dX4_seekHold_11 : decode cX4_seekHold 11 = .ok (.getfield 19, 3) := by decide +kernel
theorem dX4_seekHold_14 : decode cX4_seekHold 14 = .ok (.iload_n 2, 1) := by decide +kernel
theorem dX4_seekHold_15 : decode cX4_seekHold 15 = .ok (.iaload, 1) := by decide +kernel
theorem dX4_seekHold_16 : decode cX4_seekHold 16 = .ok (.iload_n 1, 1) := by decide +kernel
theorem dX4_seekHold_17 : decode cX4_seekHold 17 = .ok (.if_icmp .ne 5, 3) := by decide +kernel
theorem dX4_seekHold_20 : decode cX4_seekHold 20 = .ok (.iload_n 2, 1) := by decide +kernel
theorem dX4_seekHold_21 : decode cX4_seekHold 21 = .ok (.ireturn, 1) := by decide +kernel
theorem dX4_seekHold_22 : decode cX4_seekHold 22 = .ok (.iinc 2 1, 3) := by decide +kernel
theorem dX4_seekHold_25 : decode cX4_seekHold 25 = .ok (.goto (-23), 3) := by decide +kernel
theorem dX4_seekHold_28 : decode cX4_seekHold 28 = .ok (.iconst 0, 1) := by decide +kernel
theorem dX4_seekHold_29 : decode cX4_seekHold 29 = .ok (.ireturn, 1) := by decide +kernel
theorem dX4_missesChord_0 : decode cX4_missesChord 0 = .ok (.aload_n 0, 1) := by decide +kernel
theorem dX4_missesChord_1 : decode cX4_missesChord 1 = .ok (.aload_n 1, 1) := by decide +kernel
theorem dX4_missesChord_2 : decode cX4_missesChord 2 = .ok (.iload_n 2, 1) := by decide +kernel
theorem dX4_missesChord_3 : decode cX4_missesChord 3 = .ok (.iload_n 3, 1) := by decide +kernel
theorem dX4_missesChord_4 : decode cX4_missesChord 4 = .ok (.invokevirtual 82, 3) := by decide +kernel
theorem dX4_missesChord_7 : decode cX4_missesChord 7 = .ok (.invokevirtual 88, 3) := by decide +kernel
theorem dX4_missesChord_10 : decode cX4_missesChord 10 = .ok (.ifCond .ne 7, 3) := by decide +kernel
theorem dX4_missesChord_13 : decode cX4_missesChord 13 = .ok (.iconst 1, 1) := by decide +kernel
theorem dX4_missesChord_14 : decode cX4_missesChord 14 = .ok (.goto 4, 3) := by decide +kernel
theorem dX4_missesChord_17 : decode cX4_missesChord 17 = .ok (.iconst 0, 1) := by decide +kernel
theorem dX4_missesChord_18 : decode cX4_missesChord 18 = .ok (.ireturn, 1) := by decide +kernel
theorem dX4_missesNote_0 : decode cX4_missesNote 0 = .ok (.aload_n 0, 1) := by decide +kernel
theorem dX4_missesNote_1 : decode cX4_missesNote 1 = .ok (.aload_n 1, 1) := by decide +kernel
theorem dX4_missesNote_2 : decode cX4_missesNote 2 = .ok (.iload_n 2, 1) := by decide +kernel
theorem dX4_missesNote_3 : decode cX4_missesNote 3 = .ok (.iload_n 3, 1) := by decide +kernel
theorem dX4_missesNote_4 : decode cX4_missesNote 4 = .ok (.aload_n 0, 1) := by decide +kernel
theorem dX4_missesNote_5 : decode cX4_missesNote 5 = .ok (.aload_n 1, 1) := by decide +kernel
theorem dX4_missesNote_6 : decode cX4_missesNote 6 = .ok (.iload_n 2, 1) := by decide +kernel
theorem dX4_missesNote_7 : decode cX4_missesNote 7 = .ok (.iload_n 3, 1) := by decide +kernel
theorem dX4_missesNote_8 : decode cX4_missesNote 8 = .ok (.invokevirtual 82, 3) := by decide +kernel
theorem dX4_missesNote_11 : decode cX4_missesNote 11 = .ok (.invokevirtual 88, 3) := by decide +kernel
theorem dX4_missesNote_14 : decode cX4_missesNote 14 = .ok (.invokevirtual 91, 3) := by decide +kernel
theorem dX4_missesNote_17 : decode cX4_missesNote 17 = .ok (.ireturn, 1) := by decide +kernel
theorem dX4_lacksNote_0 : decode cX4_lacksNote 0 = .ok (.aload_n 1, 1) := by decide +kernel
theorem dX4_lacksNote_1 : decode cX4_lacksNote 1 = .ok (.iload_n 2, 1) := by decide +kernel
theorem dX4_lacksNote_2 : decode cX4_lacksNote 2 = .ok (.iload_n 3, 1) := by decide +kernel
theorem dX4_lacksNote_3 : decode cX4_lacksNote 3 = .ok (.invokevirtual 95, 3) := by decide +kernel
theorem dX4_lacksNote_6 : decode cX4_lacksNote 6 = .ok (.istore 5, 2) := by decide +kernel
theorem dX4_lacksNote_8 : decode cX4_lacksNote 8 = .ok (.aload_n 1, 1) := by decide +kernel
theorem dX4_lacksNote_9 : decode cX4_lacksNote 9 = .ok (.iload_n 3, 1) := by decide +kernel
theorem dX4_lacksNote_10 : decode cX4_lacksNote 10 = .ok (.invokevirtual 98, 3) := by decide +kernel
theorem dX4_lacksNote_13 : decode cX4_lacksNote 13 = .ok (.ifCond .eq 35, 3) := by decide +kernel
theorem dX4_lacksNote_16 : decode cX4_lacksNote 16 = .ok (.iload 5, 2) := by decide +kernel
theorem dX4_lacksNote_18 : decode cX4_lacksNote 18 = .ok (.invokestatic 102, 3) := by decide +kernel
theorem dX4_lacksNote_21 : decode cX4_lacksNote 21 = .ok (.ifCond .eq 23, 3) := by decide +kernel
theorem dX4_lacksNote_24 : decode cX4_lacksNote 24 = .ok (.aload_n 0, 1) := by decide +kernel
theorem dX4_lacksNote_25 : decode cX4_lacksNote 25 = .ok (.getfield 25, 3) := by decide +kernel
theorem dX4_lacksNote_28 : decode cX4_lacksNote 28 = .ok (.iload 5, 2) := by decide +kernel
theorem dX4_lacksNote_30 : decode cX4_lacksNote 30 = .ok (.laload, 1) := by decide +kernel
theorem dX4_lacksNote_31 : decode cX4_lacksNote 31 = .ok (.aload_n 0, 1) := by decide +kernel
theorem dX4_lacksNote_32 : decode cX4_lacksNote 32 = .ok (.getfield 15, 3) := by decide +kernel
theorem dX4_lacksNote_35 : decode cX4_lacksNote 35 = .ok (.iload 4, 2) := by decide +kernel
theorem dX4_lacksNote_37 : decode cX4_lacksNote 37 = .ok (.laload, 1) := by decide +kernel
theorem dX4_lacksNote_38 : decode cX4_lacksNote 38 = .ok (.land, 1) := by decide +kernel
theorem dX4_lacksNote_39 : decode cX4_lacksNote 39 = .ok (.lconst 0, 1) := by decide +kernel
theorem dX4_lacksNote_40 : decode cX4_lacksNote 40 = .ok (.lcmp, 1) := by decide +kernel
theorem dX4_lacksNote_41 : decode cX4_lacksNote 41 = .ok (.ifCond .ne 7, 3) := by decide +kernel
theorem dX4_lacksNote_44 : decode cX4_lacksNote 44 = .ok (.iconst 1, 1) := by decide +kernel
theorem dX4_lacksNote_45 : decode cX4_lacksNote 45 = .ok (.goto 4, 3) := by decide +kernel
theorem dX4_lacksNote_48 : decode cX4_lacksNote 48 = .ok (.iconst 0, 1) := by decide +kernel
theorem dX4_lacksNote_49 : decode cX4_lacksNote 49 = .ok (.ireturn, 1) := by decide +kernel
theorem dX4_missedChords_0 : decode cX4_missedChords 0 = .ok (.iconst 0, 1) := by decide +kernel
theorem dX4_missedChords_1 : decode cX4_missedChords 1 = .ok (.istore_n 3, 1) := by decide +kernel
theorem dX4_missedChords_2 : decode cX4_missedChords 2 = .ok (.iconst 0, 1) := by decide +kernel
theorem dX4_missedChords_3 : decode cX4_missedChords 3 = .ok (.istore 4, 2) := by decide +kernel
theorem dX4_missedChords_5 : decode cX4_missedChords 5 = .ok (.iload 4, 2) := by decide +kernel
theorem dX4_missedChords_7 : decode cX4_missedChords 7 = .ok (.aload_n 1, 1) := by decide +kernel
theorem dX4_missedChords_8 : decode cX4_missedChords 8 = .ok (.getfield 105, 3) := by decide +kernel
theorem dX4_missedChords_11 : decode cX4_missedChords 11 = .ok (.if_icmp .ge 23, 3) := by decide +kernel
theorem dX4_missedChords_14 : decode cX4_missedChords 14 = .ok (.aload_n 0, 1) := by decide +kernel
theorem dX4_missedChords_15 : decode cX4_missedChords 15 = .ok (.aload_n 1, 1) := by decide +kernel
theorem dX4_missedChords_16 : decode cX4_missedChords 16 = .ok (.iload_n 2, 1) := by decide +kernel
theorem dX4_missedChords_17 : decode cX4_missedChords 17 = .ok (.iload 4, 2) := by decide +kernel
theorem dX4_missedChords_19 : decode cX4_missedChords 19 = .ok (.invokevirtual 108, 3) := by decide +kernel
theorem dX4_missedChords_22 : decode cX4_missedChords 22 = .ok (.ifCond .eq 6, 3) := by decide +kernel
theorem dX4_missedChords_25 : decode cX4_missedChords 25 = .ok (.iinc 3 1, 3) := by decide +kernel
theorem dX4_missedChords_28 : decode cX4_missedChords 28 = .ok (.iinc 4 1, 3) := by decide +kernel
theorem dX4_missedChords_31 : decode cX4_missedChords 31 = .ok (.goto (-26), 3) := by decide +kernel
theorem dX4_missedChords_34 : decode cX4_missedChords 34 = .ok (.iload_n 3, 1) := by decide +kernel
theorem dX4_missedChords_35 : decode cX4_missedChords 35 = .ok (.ireturn, 1) := by decide +kernel
theorem dX4_missedNotes_0 : decode cX4_missedNotes 0 = .ok (.iconst 0, 1) := by decide +kernel
theorem dX4_missedNotes_1 : decode cX4_missedNotes 1 = .ok (.istore_n 3, 1) := by decide +kernel
theorem dX4_missedNotes_2 : decode cX4_missedNotes 2 = .ok (.iconst 0, 1) := by decide +kernel
theorem dX4_missedNotes_3 : decode cX4_missedNotes 3 = .ok (.istore 4, 2) := by decide +kernel
theorem dX4_missedNotes_5 : decode cX4_missedNotes 5 = .ok (.iload 4, 2) := by decide +kernel
theorem dX4_missedNotes_7 : decode cX4_missedNotes 7 = .ok (.aload_n 1, 1) := by decide +kernel
theorem dX4_missedNotes_8 : decode cX4_missedNotes 8 = .ok (.getfield 105, 3) := by decide +kernel
theorem dX4_missedNotes_11 : decode cX4_missedNotes 11 = .ok (.if_icmp .ge 23, 3) := by decide +kernel
theorem dX4_missedNotes_14 : decode cX4_missedNotes 14 = .ok (.aload_n 0, 1) := by decide +kernel
theorem dX4_missedNotes_15 : decode cX4_missedNotes 15 = .ok (.aload_n 1, 1) := by decide +kernel
theorem dX4_missedNotes_16 : decode cX4_missedNotes 16 = .ok (.iload_n 2, 1) := by decide +kernel
theorem dX4_missedNotes_17 : decode cX4_missedNotes 17 = .ok (.iload 4, 2) := by decide +kernel
theorem dX4_missedNotes_19 : decode cX4_missedNotes 19 = .ok (.invokevirtual 112, 3) := by decide +kernel
theorem dX4_missedNotes_22 : decode cX4_missedNotes 22 = .ok (.ifCond .eq 6, 3) := by decide +kernel
theorem dX4_missedNotes_25 : decode cX4_missedNotes 25 = .ok (.iinc 3 1, 3) := by decide +kernel
theorem dX4_missedNotes_28 : decode cX4_missedNotes 28 = .ok (.iinc 4 1, 3) := by decide +kernel
theorem dX4_missedNotes_31 : decode cX4_missedNotes 31 = .ok (.goto (-26), 3) := by decide +kernel
theorem dX4_missedNotes_34 : decode cX4_missedNotes 34 = .ok (.iload_n 3, 1) := by decide +kernel
theorem dX4_missedNotes_35 : decode cX4_missedNotes 35 = .ok (.ireturn, 1) := by decide +kernel
theorem dX4_missed_0 : decode cX4_missed 0 = .ok (.aload_n 0, 1) := by decide +kernel
theorem dX4_missed_1 : decode cX4_missed 1 = .ok (.aload_n 1, 1) := by decide +kernel
theorem dX4_missed_2 : decode cX4_missed 2 = .ok (.iload_n 2, 1) := by decide +kernel
theorem dX4_missed_3 : decode cX4_missed 3 = .ok (.invokevirtual 115, 3) := by decide +kernel
theorem dX4_missed_6 : decode cX4_missed 6 = .ok (.aload_n 0, 1) := by decide +kernel
theorem dX4_missed_7 : decode cX4_missed 7 = .ok (.aload_n 1, 1) := by decide +kernel
theorem dX4_missed_8 : decode cX4_missed 8 = .ok (.iload_n 2, 1) := by decide +kernel
theorem dX4_missed_9 : decode cX4_missed 9 = .ok (.invokevirtual 119, 3) := by decide +kernel
theorem dX4_missed_12 : decode cX4_missed 12 = .ok (.iadd, 1) := by decide +kernel
theorem dX4_missed_13 : decode cX4_missed 13 = .ok (.ireturn, 1) := by decide +kernel
theorem dX4_canPlay_0 : decode cX4_canPlay 0 = .ok (.iconst 0, 1) := by decide +kernel
theorem dX4_canPlay_1 : decode cX4_canPlay 1 = .ok (.istore_n 2, 1) := by decide +kernel
theorem dX4_canPlay_2 : decode cX4_canPlay 2 = .ok (.iload_n 2, 1) := by decide +kernel
theorem dX4_canPlay_3 : decode cX4_canPlay 3 = .ok (.aload_n 1, 1) := by decide +kernel
theorem dX4_canPlay_4 : decode cX4_canPlay 4 = .ok (.getfield 105, 3) := by decide +kernel
theorem dX4_canPlay_7 : decode cX4_canPlay 7 = .ok (.if_icmp .ge 43, 3) := by decide +kernel
theorem dX4_canPlay_10 : decode cX4_canPlay 10 = .ok (.aload_n 0, 1) := by decide +kernel
theorem dX4_canPlay_11 : decode cX4_canPlay 11 = .ok (.aload_n 1, 1) := by decide +kernel
theorem dX4_canPlay_12 : decode cX4_canPlay 12 = .ok (.aload_n 1, 1) := by decide +kernel
theorem dX4_canPlay_13 : decode cX4_canPlay 13 = .ok (.getfield 122, 3) := by decide +kernel
theorem dX4_canPlay_16 : decode cX4_canPlay 16 = .ok (.iload_n 2, 1) := by decide +kernel
theorem dX4_canPlay_17 : decode cX4_canPlay 17 = .ok (.invokevirtual 82, 3) := by decide +kernel
theorem dX4_canPlay_20 : decode cX4_canPlay 20 = .ok (.invokevirtual 88, 3) := by decide +kernel
theorem dX4_canPlay_23 : decode cX4_canPlay 23 = .ok (.istore_n 3, 1) := by decide +kernel
theorem dX4_canPlay_24 : decode cX4_canPlay 24 = .ok (.iload_n 3, 1) := by decide +kernel
theorem dX4_canPlay_25 : decode cX4_canPlay 25 = .ok (.ifCond .eq 17, 3) := by decide +kernel
theorem dX4_canPlay_28 : decode cX4_canPlay 28 = .ok (.aload_n 0, 1) := by decide +kernel
theorem dX4_canPlay_29 : decode cX4_canPlay 29 = .ok (.aload_n 1, 1) := by decide +kernel
theorem dX4_canPlay_30 : decode cX4_canPlay 30 = .ok (.aload_n 1, 1) := by decide +kernel
theorem dX4_canPlay_31 : decode cX4_canPlay 31 = .ok (.getfield 122, 3) := by decide +kernel
theorem dX4_canPlay_34 : decode cX4_canPlay 34 = .ok (.iload_n 2, 1) := by decide +kernel
theorem dX4_canPlay_35 : decode cX4_canPlay 35 = .ok (.iload_n 3, 1) := by decide +kernel
theorem dX4_canPlay_36 : decode cX4_canPlay 36 = .ok (.invokevirtual 91, 3) := by decide +kernel
theorem dX4_canPlay_39 : decode cX4_canPlay 39 = .ok (.ifCond .eq 5, 3) := by decide +kernel
theorem dX4_canPlay_42 : decode cX4_canPlay 42 = .ok (.iconst 0, 1) := by decide +kernel
theorem dX4_canPlay_43 : decode cX4_canPlay 43 = .ok (.ireturn, 1) := by decide +kernel
theorem dX4_canPlay_44 : decode cX4_canPlay 44 = .ok (.iinc 2 1, 3) := by decide +kernel
theorem dX4_canPlay_47 : decode cX4_canPlay 47 = .ok (.goto (-45), 3) := by decide +kernel
theorem dX4_canPlay_50 : decode cX4_canPlay 50 = .ok (.iconst 1, 1) := by decide +kernel
theorem dX4_canPlay_51 : decode cX4_canPlay 51 = .ok (.ireturn, 1) := by decide +kernel
theorem dX4_bestKeyOf_0 : decode cX4_bestKeyOf 0 = .ok (.iconst 0, 1) := by decide +kernel
theorem dX4_bestKeyOf_1 : decode cX4_bestKeyOf 1 = .ok (.istore_n 2, 1) := by decide +kernel
theorem dX4_bestKeyOf_2 : decode cX4_bestKeyOf 2 = .ok (.iconst 1, 1) := by decide +kernel
theorem dX4_bestKeyOf_3 : decode cX4_bestKeyOf 3 = .ok (.istore_n 3, 1) := by decide +kernel
theorem dX4_bestKeyOf_4 : decode cX4_bestKeyOf 4 = .ok (.iload_n 3, 1) := by decide +kernel
theorem dX4_bestKeyOf_5 : decode cX4_bestKeyOf 5 = .ok (.bipush 6, 2) := by decide +kernel
theorem dX4_bestKeyOf_7 : decode cX4_bestKeyOf 7 = .ok (.if_icmp .gt 50, 3) := by decide +kernel
theorem dX4_bestKeyOf_10 : decode cX4_bestKeyOf 10 = .ok (.iload_n 3, 1) := by decide +kernel
theorem dX4_bestKeyOf_11 : decode cX4_bestKeyOf 11 = .ok (.iconst 5, 1) := by decide +kernel
theorem dX4_bestKeyOf_12 : decode cX4_bestKeyOf 12 = .ok (.if_icmp .gt 20, 3) := by decide +kernel
theorem dX4_bestKeyOf_15 : decode cX4_bestKeyOf 15 = .ok (.aload_n 0, 1) := by decide +kernel
theorem dX4_bestKeyOf_16 : decode cX4_bestKeyOf 16 = .ok (.aload_n 1, 1) := by decide +kernel
theorem dX4_bestKeyOf_17 : decode cX4_bestKeyOf 17 = .ok (.iload_n 3, 1) := by decide +kernel
theorem dX4_bestKeyOf_18 : decode cX4_bestKeyOf 18 = .ok (.invokevirtual 125, 3) := by decide +kernel
theorem dX4_bestKeyOf_21 : decode cX4_bestKeyOf 21 = .ok (.aload_n 0, 1) := by decide +kernel
theorem dX4_bestKeyOf_22 : decode cX4_bestKeyOf 22 = .ok (.aload_n 1, 1) := by decide +kernel
theorem dX4_bestKeyOf_23 : decode cX4_bestKeyOf 23 = .ok (.iload_n 2, 1) := by decide +kernel
theorem dX4_bestKeyOf_24 : decode cX4_bestKeyOf 24 = .ok (.invokevirtual 125, 3) := by decide +kernel
theorem dX4_bestKeyOf_27 : decode cX4_bestKeyOf 27 = .ok (.if_icmp .ge 5, 3) := by decide +kernel
theorem dX4_bestKeyOf_30 : decode cX4_bestKeyOf 30 = .ok (.iload_n 3, 1) := by decide +kernel
theorem dX4_bestKeyOf_31 : decode cX4_bestKeyOf 31 = .ok (.istore_n 2, 1) := by decide +kernel
theorem dX4_bestKeyOf_32 : decode cX4_bestKeyOf 32 = .ok (.aload_n 0, 1) := by decide +kernel
theorem dX4_bestKeyOf_33 : decode cX4_bestKeyOf 33 = .ok (.aload_n 1, 1) := by decide +kernel
theorem dX4_bestKeyOf_34 : decode cX4_bestKeyOf 34 = .ok (.iload_n 3, 1) := by decide +kernel
theorem dX4_bestKeyOf_35 : decode cX4_bestKeyOf 35 = .ok (.ineg, 1) := by decide +kernel
theorem dX4_bestKeyOf_36 : decode cX4_bestKeyOf 36 = .ok (.invokevirtual 125, 3) := by decide +kernel
theorem dX4_bestKeyOf_39 : decode cX4_bestKeyOf 39 = .ok (.aload_n 0, 1) := by decide +kernel
theorem dX4_bestKeyOf_40 : decode cX4_bestKeyOf 40 = .ok (.aload_n 1, 1) := by decide +kernel
theorem dX4_bestKeyOf_41 : decode cX4_bestKeyOf 41 = .ok (.iload_n 2, 1) := by decide +kernel
theorem dX4_bestKeyOf_42 : decode cX4_bestKeyOf 42 = .ok (.invokevirtual 125, 3) := by decide +kernel
theorem dX4_bestKeyOf_45 : decode cX4_bestKeyOf 45 = .ok (.if_icmp .ge 6, 3) := by decide +kernel
theorem dX4_bestKeyOf_48 : decode cX4_bestKeyOf 48 = .ok (.iload_n 3, 1) := by decide +kernel
theorem dX4_bestKeyOf_49 : decode cX4_bestKeyOf 49 = .ok (.ineg, 1) := by decide +kernel
theorem dX4_bestKeyOf_50 : decode cX4_bestKeyOf 50 = .ok (.istore_n 2, 1) := by decide +kernel
theorem dX4_bestKeyOf_51 : decode cX4_bestKeyOf 51 = .ok (.iinc 3 1, 3) := by decide +kernel
theorem dX4_bestKeyOf_54 : decode cX4_bestKeyOf 54 = .ok (.goto (-50), 3) := by decide +kernel
theorem dX4_bestKeyOf_57 : decode cX4_bestKeyOf 57 = .ok (.iload_n 2, 1) := by decide +kernel
theorem dX4_bestKeyOf_58 : decode cX4_bestKeyOf 58 = .ok (.ireturn, 1) := by decide +kernel
theorem dX5_init_0 : decode cX5_init 0 = .ok (.aload_n 0, 1) := by decide +kernel
theorem dX5_init_1 : decode cX5_init 1 = .ok (.invokespecial 3, 3) := by decide +kernel
theorem dX5_init_4 : decode cX5_init 4 = .ok (.aload_n 0, 1) := by decide +kernel
theorem dX5_init_5 : decode cX5_init 5 = .ok (.bipush 12, 2) := by decide +kernel
theorem dX5_init_7 : decode cX5_init 7 = .ok (.newarray .int, 2) := by decide +kernel
theorem dX5_init_9 : decode cX5_init 9 = .ok (.putfield 9, 3) := by decide +kernel
theorem dX5_init_12 : decode cX5_init 12 = .ok (.aload_n 0, 1) := by decide +kernel
theorem dX5_init_13 : decode cX5_init 13 = .ok (.sipush 144, 3) := by decide +kernel
theorem dX5_init_16 : decode cX5_init 16 = .ok (.newarray .long, 2) := by decide +kernel
theorem dX5_init_18 : decode cX5_init 18 = .ok (.putfield 15, 3) := by decide +kernel
theorem dX5_init_21 : decode cX5_init 21 = .ok (.aload_n 0, 1) := by decide +kernel
theorem dX5_init_22 : decode cX5_init 22 = .ok (.sipush 144, 3) := by decide +kernel
theorem dX5_init_25 : decode cX5_init 25 = .ok (.newarray .long, 2) := by decide +kernel
theorem dX5_init_27 : decode cX5_init 27 = .ok (.putfield 19, 3) := by decide +kernel
theorem dX5_init_30 : decode cX5_init 30 = .ok (.aload_n 0, 1) := by decide +kernel
theorem dX5_init_31 : decode cX5_init 31 = .ok (.bipush 8, 2) := by decide +kernel
theorem dX5_init_33 : decode cX5_init 33 = .ok (.newarray .long, 2) := by decide +kernel
theorem dX5_init_35 : decode cX5_init 35 = .ok (.putfield 22, 3) := by decide +kernel
theorem dX5_init_38 : decode cX5_init 38 = .ok (.aload_n 0, 1) := by decide +kernel
theorem dX5_init_39 : decode cX5_init 39 = .ok (.bipush 8, 2) := by decide +kernel
theorem dX5_init_41 : decode cX5_init 41 = .ok (.newarray .long, 2) := by decide +kernel
theorem dX5_init_43 : decode cX5_init 43 = .ok (.putfield 25, 3) := by decide +kernel
theorem dX5_init_46 : decode cX5_init 46 = .ok (.aload_n 0, 1) := by decide +kernel
theorem dX5_init_47 : decode cX5_init 47 = .ok (.iconst 0, 1) := by decide +kernel
theorem dX5_init_48 : decode cX5_init 48 = .ok (.putfield 28, 3) := by decide +kernel
theorem dX5_init_51 : decode cX5_init 51 = .ok (.aload_n 0, 1) := by decide +kernel
theorem dX5_init_52 : decode cX5_init 52 = .ok (.iconst 0, 1) := by decide +kernel
theorem dX5_init_53 : decode cX5_init 53 = .ok (.putfield 32, 3) := by decide +kernel
theorem dX5_init_56 : decode cX5_init 56 = .ok (.return_, 1) := by decide +kernel
theorem dX5_isFull_0 : decode cX5_isFull 0 = .ok (.aload_n 0, 1) := by decide +kernel
theorem dX5_isFull_1 : decode cX5_isFull 1 = .ok (.getfield 32, 3) := by decide +kernel
theorem dX5_isFull_4 : decode cX5_isFull 4 = .ok (.bipush 12, 2) := by decide +kernel
theorem dX5_isFull_6 : decode cX5_isFull 6 = .ok (.if_icmp .lt 7, 3) := by decide +kernel
theorem dX5_isFull_9 : decode cX5_isFull 9 = .ok (.iconst 1, 1) := by decide +kernel
theorem dX5_isFull_10 : decode cX5_isFull 10 = .ok (.goto 4, 3) := by decide +kernel
theorem dX5_isFull_13 : decode cX5_isFull 13 = .ok (.iconst 0, 1) := by decide +kernel
theorem dX5_isFull_14 : decode cX5_isFull 14 = .ok (.ireturn, 1) := by decide +kernel
theorem dX5_isSet_0 : decode cX5_isSet 0 = .ok (.iload_n 1, 1) := by decide +kernel
theorem dX5_isSet_1 : decode cX5_isSet 1 = .ok (.aload_n 0, 1) := by decide +kernel
theorem dX5_isSet_2 : decode cX5_isSet 2 = .ok (.getfield 32, 3) := by decide +kernel
theorem dX5_isSet_5 : decode cX5_isSet 5 = .ok (.iushr, 1) := by decide +kernel
theorem dX5_isSet_6 : decode cX5_isSet 6 = .ok (.ifCond .ne 7, 3) := by decide +kernel
theorem dX5_isSet_9 : decode cX5_isSet 9 = .ok (.iconst 1, 1) := by decide +kernel
theorem dX5_isSet_10 : decode cX5_isSet 10 = .ok (.goto 4, 3) := by decide +kernel
theorem dX5_isSet_13 : decode cX5_isSet 13 = .ok (.iconst 0, 1) := by decide +kernel
theorem dX5_isSet_14 : decode cX5_isSet 14 = .ok (.ireturn, 1) := by decide +kernel
theorem dX5_hasChord_0 : decode cX5_hasChord 0 = .ok (.iconst 0, 1) := by decide +kernel
theorem dX5_hasChord_1 : decode cX5_hasChord 1 = .ok (.istore_n 2, 1) := by decide +kernel
theorem dX5_hasChord_2 : decode cX5_hasChord 2 = .ok (.iload_n 2, 1) := by decide +kernel
theorem dX5_hasChord_3 : decode cX5_hasChord 3 = .ok (.aload_n 0, 1) := by decide +kernel
theorem dX5_hasChord_4 : decode cX5_hasChord 4 = .ok (.getfield 32, 3) := by decide +kernel
theorem dX5_hasChord_7 : decode cX5_hasChord 7 = .ok (.if_icmp .ge 21, 3) := by decide +kernel
theorem dX5_hasChord_10 : decode cX5_hasChord 10 = .ok (.aload_n 0, 1) := by decide +kernel
theorem dX5_hasChord_11 : decode cX5_hasChord 11 = .ok (.getfield 9, 3) := by decide +kernel
theorem dX5_hasChord_14 : decode cX5_hasChord 14 = .ok (.iload_n 2, 1) := by decide +kernel
theorem dX5_hasChord_15 : decode cX5_hasChord 15 = .ok (.iaload, 1) := by decide +kernel
theorem dX5_hasChord_16 : decode cX5_hasChord 16 = .ok (.iload_n 1, 1) := by decide +kernel
theorem dX5_hasChord_17 : decode cX5_hasChord 17 = .ok (.if_icmp .ne 5, 3) := by decide +kernel
theorem dX5_hasChord_20 : decode cX5_hasChord 20 = .ok (.iconst 1, 1) := by decide +kernel
theorem dX5_hasChord_21 : decode cX5_hasChord 21 = .ok (.ireturn, 1) := by decide +kernel
theorem dX5_hasChord_22 : decode cX5_hasChord 22 = .ok (.iinc 2 1, 3) := by decide +kernel
theorem dX5_hasChord_25 : decode cX5_hasChord 25 = .ok (.goto (-23), 3) := by decide +kernel
theorem dX5_hasChord_28 : decode cX5_hasChord 28 = .ok (.iconst 0, 1) := by decide +kernel
theorem dX5_hasChord_29 : decode cX5_hasChord 29 = .ok (.ireturn, 1) := by decide +kernel
theorem dX5_add_0 : decode cX5_add 0 = .ok (.aload_n 0, 1) := by decide +kernel
theorem dX5_add_1 : decode cX5_add 1 = .ok (.getfield 32, 3) := by decide +kernel
theorem dX5_add_4 : decode cX5_add 4 = .ok (.istore_n 2, 1) := by decide +kernel
theorem dX5_add_5 : decode cX5_add 5 = .ok (.aload_n 0, 1) := by decide +kernel
theorem dX5_add_6 : decode cX5_add 6 = .ok (.dup, 1) := by decide +kernel
theorem dX5_add_7 : decode cX5_add 7 = .ok (.getfield 32, 3) := by decide +kernel
theorem dX5_add_10 : decode cX5_add 10 = .ok (.iconst 1, 1) := by decide +kernel
theorem dX5_add_11 : decode cX5_add 11 = .ok (.iadd, 1) := by decide +kernel
theorem dX5_add_12 : decode cX5_add 12 = .ok (.putfield 32, 3) := by decide +kernel
theorem dX5_add_15 : decode cX5_add 15 = .ok (.aload_n 0, 1) := by decide +kernel
theorem dX5_add_16 : decode cX5_add 16 = .ok (.getfield 9, 3) := by decide +kernel
theorem dX5_add_19 : decode cX5_add 19 = .ok (.iload_n 2, 1) := by decide +kernel
theorem dX5_add_20 : decode cX5_add 20 = .ok (.iload_n 1, 1) := by decide +kernel
theorem dX5_add_21 : decode cX5_add 21 = .ok (.iastore, 1) := by decide +kernel
theorem dX5_add_22 : decode cX5_add 22 = .ok (.iload_n 2, 1) := by decide +kernel
theorem dX5_add_23 : decode cX5_add 23 = .ok (.ireturn, 1) := by decide +kernel
theorem dX5_lookAtSongs_0 : decode cX5_lookAtSongs 0 = .ok (.aload_n 0, 1) := by decide +kernel
theorem dX5_lookAtSongs_1 : decode cX5_lookAtSongs 1 = .ok (.aload_n 1, 1) := by decide +kernel
theorem dX5_lookAtSongs_2 : decode cX5_lookAtSongs 2 = .ok (.getfield 35, 3) := by decide +kernel
theorem dX5_lookAtSongs_5 : decode cX5_lookAtSongs 5 = .ok (.putfield 28, 3) := by decide +kernel
theorem dX5_lookAtSongs_8 : decode cX5_lookAtSongs 8 = .ok (.iconst 0, 1) := by decide +kernel
theorem dX5_lookAtSongs_9 : decode cX5_lookAtSongs 9 = .ok (.istore_n 2, 1) := by decide +kernel
theorem dX5_lookAtSongs_10 : decode cX5_lookAtSongs 10 = .ok (.iload_n 2, 1) := by decide +kernel
theorem dX5_lookAtSongs_11 : decode cX5_lookAtSongs 11 = .ok (.aload_n 0, 1) := by decide +kernel
theorem dX5_lookAtSongs_12 : decode cX5_lookAtSongs 12 = .ok (.getfield 28, 3) := by decide +kernel
theorem dX5_lookAtSongs_15 : decode cX5_lookAtSongs 15 = .ok (.if_icmp .ge 88, 3) := by decide +kernel
theorem dX5_lookAtSongs_18 : decode cX5_lookAtSongs 18 = .ok (.aload_n 1, 1) := by decide +kernel
theorem dX5_lookAtSongs_19 : decode cX5_lookAtSongs 19 = .ok (.getfield 38, 3) := by decide +kernel
theorem dX5_lookAtSongs_22 : decode cX5_lookAtSongs 22 = .ok (.iload_n 2, 1) := by decide +kernel
theorem dX5_lookAtSongs_23 : decode cX5_lookAtSongs 23 = .ok (.aaload, 1) := by decide +kernel
theorem dX5_lookAtSongs_24 : decode cX5_lookAtSongs 24 = .ok (.astore_n 3, 1) := by decide +kernel
theorem dX5_lookAtSongs_25 : decode cX5_lookAtSongs 25 = .ok (.aload_n 0, 1) := by decide +kernel
theorem dX5_lookAtSongs_26 : decode cX5_lookAtSongs 26 = .ok (.getfield 22, 3) := by decide +kernel
theorem dX5_lookAtSongs_29 : decode cX5_lookAtSongs 29 = .ok (.iload_n 2, 1) := by decide +kernel
theorem dX5_lookAtSongs_30 : decode cX5_lookAtSongs 30 = .ok (.lconst 0, 1) := by decide +kernel
theorem dX5_lookAtSongs_31 : decode cX5_lookAtSongs 31 = .ok (.lastore, 1) := by decide +kernel
theorem dX5_lookAtSongs_32 : decode cX5_lookAtSongs 32 = .ok (.aload_n 0, 1) := by decide +kernel
theorem dX5_lookAtSongs_33 : decode cX5_lookAtSongs 33 = .ok (.getfield 25, 3) := by decide +kernel
theorem dX5_lookAtSongs_36 : decode cX5_lookAtSongs 36 = .ok (.iload_n 2, 1) := by decide +kernel
theorem dX5_lookAtSongs_37 : decode cX5_lookAtSongs 37 = .ok (.lconst 0, 1) := by decide +kernel
theorem dX5_lookAtSongs_38 : decode cX5_lookAtSongs 38 = .ok (.lastore, 1) := by decide +kernel
theorem dX5_lookAtSongs_39 : decode cX5_lookAtSongs 39 = .ok (.iconst 0, 1) := by decide +kernel
theorem dX5_lookAtSongs_40 : decode cX5_lookAtSongs 40 = .ok (.istore 4, 2) := by decide +kernel
theorem dX5_lookAtSongs_42 : decode cX5_lookAtSongs 42 = .ok (.iload 4, 2) := by decide +kernel
theorem dX5_lookAtSongs_44 : decode cX5_lookAtSongs 44 = .ok (.aload_n 3, 1) := by decide +kernel
theorem dX5_lookAtSongs_45 : decode cX5_lookAtSongs 45 = .ok (.getfield 41, 3) := by decide +kernel
theorem dX5_lookAtSongs_48 : decode cX5_lookAtSongs 48 = .ok (.if_icmp .ge 49, 3) := by decide +kernel
theorem dX5_lookAtSongs_51 : decode cX5_lookAtSongs 51 = .ok (.aload_n 3, 1) := by decide +kernel
theorem dX5_lookAtSongs_52 : decode cX5_lookAtSongs 52 = .ok (.aload_n 3, 1) := by decide +kernel
theorem dX5_lookAtSongs_53 : decode cX5_lookAtSongs 53 = .ok (.getfield 46, 3) := by decide +kernel
theorem dX5_lookAtSongs_56 : decode cX5_lookAtSongs 56 = .ok (.iload 4, 2) := by decide +kernel
theorem dX5_lookAtSongs_58 : decode cX5_lookAtSongs 58 = .ok (.invokevirtual 49, 3) := by decide +kernel
theorem dX5_lookAtSongs_61 : decode cX5_lookAtSongs 61 = .ok (.istore 5, 2) := by decide +kernel
theorem dX5_lookAtSongs_63 : decode cX5_lookAtSongs 63 = .ok (.aload_n 0, 1) := by decide +kernel
theorem dX5_lookAtSongs_64 : decode cX5_lookAtSongs 64 = .ok (.getfield 22, 3) := by decide +kernel
theorem dX5_lookAtSongs_67 : decode cX5_lookAtSongs 67 = .ok (.iload_n 2, 1) := by decide +kernel
theorem dX5_lookAtSongs_68 : decode cX5_lookAtSongs 68 = .ok (.dup2, 1) := by decide +kernel
theorem dX5_lookAtSongs_69 : decode cX5_lookAtSongs 69 = .ok (.laload, 1) := by decide +kernel
theorem dX5_lookAtSongs_70 : decode cX5_lookAtSongs 70 = .ok (.iload 5, 2) := by decide +kernel
theorem dX5_lookAtSongs_72 : decode cX5_lookAtSongs 72 = .ok (.invokestatic 53, 3) := by decide +kernel
theorem dX5_lookAtSongs_75 : decode cX5_lookAtSongs 75 = .ok (.lor, 1) := by decide +kernel
theorem dX5_lookAtSongs_76 : decode cX5_lookAtSongs 76 = .ok (.lastore, 1) := by decide +kernel
theorem dX5_lookAtSongs_77 : decode cX5_lookAtSongs 77 = .ok (.aload_n 0, 1) := by decide +kernel
theorem dX5_lookAtSongs_78 : decode cX5_lookAtSongs 78 = .ok (.getfield 25, 3) := by decide +kernel
theorem dX5_lookAtSongs_81 : decode cX5_lookAtSongs 81 = .ok (.iload_n 2, 1) := by decide +kernel
theorem dX5_lookAtSongs_82 : decode cX5_lookAtSongs 82 = .ok (.dup2, 1) := by decide +kernel
theorem dX5_lookAtSongs_83 : decode cX5_lookAtSongs 83 = .ok (.laload, 1) := by decide +kernel
theorem dX5_lookAtSongs_84 : decode cX5_lookAtSongs 84 = .ok (.iload 5, 2) := by decide +kernel
theorem dX5_lookAtSongs_86 : decode cX5_lookAtSongs 86 = .ok (.invokestatic 57, 3) := by decide +kernel
theorem dX5_lookAtSongs_89 : decode cX5_lookAtSongs 89 = .ok (.lor, 1) := by decide +kernel
theorem dX5_lookAtSongs_90 : decode cX5_lookAtSongs 90 = .ok (.lastore, 1) := by decide +kernel
theorem dX5_lookAtSongs_91 : decode cX5_lookAtSongs 91 = .ok (.iinc 4 1, 3) := by decide +kernel
theorem dX5_lookAtSongs_94 : decode cX5_lookAtSongs 94 = .ok (.goto (-52), 3) := by decide +kernel
theorem dX5_lookAtSongs_97 : decode cX5_lookAtSongs 97 = .ok (.iinc 2 1, 3) := by decide +kernel
theorem dX5_lookAtSongs_100 : decode cX5_lookAtSongs 100 = .ok (.goto (-90), 3) := by decide +kernel
theorem dX5_lookAtSongs_103 : decode cX5_lookAtSongs 103 = .ok (.return_, 1) := by decide +kernel
theorem dX5_lookAtClasses_0 : decode cX5_lookAtClasses 0 = .ok (.iconst 0, 1) := by decide +kernel
theorem dX5_lookAtClasses_1 : decode cX5_lookAtClasses 1 = .ok (.istore_n 2, 1) := by decide +kernel
theorem dX5_lookAtClasses_2 : decode cX5_lookAtClasses 2 = .ok (.iload_n 2, 1) := by decide +kernel
theorem dX5_lookAtClasses_3 : decode cX5_lookAtClasses 3 = .ok (.aload_n 0, 1) := by decide +kernel
theorem dX5_lookAtClasses_4 : decode cX5_lookAtClasses 4 = .ok (.getfield 32, 3) := by decide +kernel
theorem dX5_lookAtClasses_7 : decode cX5_lookAtClasses 7 = .ok (.if_icmp .ge 60, 3) := by decide +kernel
theorem dX5_lookAtClasses_10 : decode cX5_lookAtClasses 10 = .ok (.iload_n 2, 1) := by decide +kernel
theorem dX5_lookAtClasses_11 : decode cX5_lookAtClasses 11 = .ok (.istore_n 3, 1) := by decide +kernel
theorem dX5_lookAtClasses_12 : decode cX5_lookAtClasses 12 = .ok (.iload_n 3, 1) := by decide +kernel
theorem dX5_lookAtClasses_13 : decode cX5_lookAtClasses 13 = .ok (.aload_n 0, 1) := by decide +kernel
theorem dX5_lookAtClasses_14 : decode cX5_lookAtClasses 14 = .ok (.getfield 32, 3) := by decide +kernel
theorem dX5_lookAtClasses_17 : decode cX5_lookAtClasses 17 = .ok (.if_icmp .ge 44, 3) := by decide +kernel
theorem dX5_lookAtClasses_20 : decode cX5_lookAtClasses 20 = .ok (.aload_n 0, 1) := by decide +kernel
theorem dX5_lookAtClasses_21 : decode cX5_lookAtClasses 21 = .ok (.getfield 9, 3) := by decide +kernel
theorem dX5_lookAtClasses_24 : decode cX5_lookAtClasses 24 = .ok (.iload_n 2, 1) := by decide +kernel
theorem dX5_lookAtClasses_25 : decode cX5_lookAtClasses 25 = .ok (.iaload, 1) := by decide +kernel
theorem dX5_lookAtClasses_26 : decode cX5_lookAtClasses 26 = .ok (.invokestatic 60, 3) := by decide +kernel
theorem dX5_lookAtClasses_29 : decode cX5_lookAtClasses 29 = .ok (.aload_n 0, 1) := by decide +kernel
theorem dX5_lookAtClasses_30 : decode cX5_lookAtClasses 30 = .ok (.getfield 9, 3) := by decide +kernel
theorem dX5_lookAtClasses_33 : decode cX5_lookAtClasses 33 = .ok (.iload_n 3, 1) := by decide +kernel
theorem dX5_lookAtClasses_34 : decode cX5_lookAtClasses 34 = .ok (.iaload, 1) := by decide +kernel
theorem dX5_lookAtClasses_35 : decode cX5_lookAtClasses 35 = .ok (.invokestatic 60, 3) := by decide +kernel
theorem dX5_lookAtClasses_38 : decode cX5_lookAtClasses 38 = .ok (.iand, 1) := by decide +kernel
theorem dX5_lookAtClasses_39 : decode cX5_lookAtClasses 39 = .ok (.istore 4, 2) := by decide +kernel
theorem dX5_lookAtClasses_41 : decode cX5_lookAtClasses 41 = .ok (.aload_n 0, 1) := by decide +kernel
theorem dX5_lookAtClasses_42 : decode cX5_lookAtClasses 42 = .ok (.iload_n 2, 1) := by decide +kernel
theorem dX5_lookAtClasses_43 : decode cX5_lookAtClasses 43 = .ok (.bipush 12, 2) := by decide +kernel
theorem dX5_lookAtClasses_45 : decode cX5_lookAtClasses 45 = .ok (.imul, 1) := by decide +kernel
theorem dX5_lookAtClasses_46 : decode cX5_lookAtClasses 46 = .ok (.iload_n 3, 1) := by decide +kernel
theorem dX5_lookAtClasses_47 : decode cX5_lookAtClasses 47 = .ok (.iadd, 1) := by decide +kernel
theorem dX5_lookAtClasses_48 : decode cX5_lookAtClasses 48 = .ok (.iload_n 1, 1) := by decide +kernel
theorem dX5_lookAtClasses_49 : decode cX5_lookAtClasses 49 = .ok (.iload 4, 2) := by decide +kernel
theorem dX5_lookAtClasses_51 : decode cX5_lookAtClasses 51 = .ok (.iand, 1) := by decide +kernel
theorem dX5_lookAtClasses_52 : decode cX5_lookAtClasses 52 = .ok (.invokevirtual 64, 3) := by decide +kernel
theorem dX5_lookAtClasses_55 : decode cX5_lookAtClasses 55 = .ok (.iinc 3 1, 3) := by decide +kernel
theorem dX5_lookAtClasses_58 : decode cX5_lookAtClasses 58 = .ok (.goto (-46), 3) := by decide +kernel
theorem dX5_lookAtClasses_61 : decode cX5_lookAtClasses 61 = .ok (.iinc 2 1, 3) := by decide +kernel
theorem dX5_lookAtClasses_64 : decode cX5_lookAtClasses 64 = .ok (.goto (-62), 3) := by decide +kernel
theorem dX5_lookAtClasses_67 : decode cX5_lookAtClasses 67 = .ok (.return_, 1) := by decide +kernel
theorem dX5_lookAtTwo_0 : decode cX5_lookAtTwo 0 = .ok (.aload_n 0, 1) := by decide +kernel
theorem dX5_lookAtTwo_1 : decode cX5_lookAtTwo 1 = .ok (.getfield 15, 3) := by decide +kernel
theorem dX5_lookAtTwo_4 : decode cX5_lookAtTwo 4 = .ok (.iload_n 1, 1) := by decide +kernel
theorem dX5_lookAtTwo_5 : decode cX5_lookAtTwo 5 = .ok (.lconst 0, 1) := by decide +kernel
theorem dX5_lookAtTwo_6 : decode cX5_lookAtTwo 6 = .ok (.lastore, 1) := by decide +kernel
theorem dX5_lookAtTwo_7 : decode cX5_lookAtTwo 7 = .ok (.aload_n 0, 1) := by decide +kernel
theorem dX5_lookAtTwo_8 : decode cX5_lookAtTwo 8 = .ok (.getfield 19, 3) := by decide +kernel
theorem dX5_lookAtTwo_11 : decode cX5_lookAtTwo 11 = .ok (.iload_n 1, 1) := by decide +kernel
theorem dX5_lookAtTwo_12 : decode cX5_lookAtTwo 12 = .ok (.lconst 0, 1) := by decide +kernel
theorem dX5_lookAtTwo_13 : decode cX5_lookAtTwo 13 = .ok (.lastore, 1) := by decide +kernel
theorem dX5_lookAtTwo_14 : decode cX5_lookAtTwo 14 = .ok (.iconst 0, 1) := by decide +kernel
theorem dX5_lookAtTwo_15 : decode cX5_lookAtTwo 15 = .ok (.istore_n 3, 1) := by decide +kernel
theorem dX5_lookAtTwo_16 : decode cX5_lookAtTwo 16 = .ok (.iload_n 3, 1) := by decide +kernel
theorem dX5_lookAtTwo_17 : decode cX5_lookAtTwo 17 = .ok (.bipush 96, 2) := by decide +kernel
theorem dX5_lookAtTwo_19 : decode cX5_lookAtTwo 19 = .ok (.if_icmp .ge 43, 3) := by decide +kernel
theorem dX5_lookAtTwo_22 : decode cX5_lookAtTwo 22 = .ok (.iload_n 3, 1) := by decide +kernel
theorem dX5_lookAtTwo_23 : decode cX5_lookAtTwo 23 = .ok (.invokestatic 60, 3) := by decide +kernel
theorem dX5_lookAtTwo_26 : decode cX5_lookAtTwo 26 = .ok (.iload_n 2, 1) := by decide +kernel
theorem dX5_lookAtTwo_27 : decode cX5_lookAtTwo 27 = .ok (.if_icmp .ne 29, 3) := by decide +kernel
theorem dX5_lookAtTwo_30 : decode cX5_lookAtTwo 30 = .ok (.aload_n 0, 1) := by decide +kernel
theorem dX5_lookAtTwo_31 : decode cX5_lookAtTwo 31 = .ok (.getfield 15, 3) := by decide +kernel
theorem dX5_lookAtTwo_34 : decode cX5_lookAtTwo 34 = .ok (.iload_n 1, 1) := by decide +kernel
theorem dX5_lookAtTwo_35 : decode cX5_lookAtTwo 35 = .ok (.dup2, 1) := by decide +kernel
theorem dX5_lookAtTwo_36 : decode cX5_lookAtTwo 36 = .ok (.laload, 1) := by decide +kernel
theorem dX5_lookAtTwo_37 : decode cX5_lookAtTwo 37 = .ok (.iload_n 3, 1) := by decide +kernel
theorem dX5_lookAtTwo_38 : decode cX5_lookAtTwo 38 = .ok (.invokestatic 53, 3) := by decide +kernel
theorem dX5_lookAtTwo_41 : decode cX5_lookAtTwo 41 = .ok (.lor, 1) := by decide +kernel
theorem dX5_lookAtTwo_42 : decode cX5_lookAtTwo 42 = .ok (.lastore, 1) := by decide +kernel
theorem dX5_lookAtTwo_43 : decode cX5_lookAtTwo 43 = .ok (.aload_n 0, 1) := by decide +kernel
theorem dX5_lookAtTwo_44 : decode cX5_lookAtTwo 44 = .ok (.getfield 19, 3) := by decide +kernel
theorem dX5_lookAtTwo_47 : decode cX5_lookAtTwo 47 = .ok (.iload_n 1, 1) := by decide +kernel
theorem dX5_lookAtTwo_48 : decode cX5_lookAtTwo 48 = .ok (.dup2, 1) := by decide +kernel
theorem dX5_lookAtTwo_49 : decode cX5_lookAtTwo 49 = .ok (.laload, 1) := by decide +kernel
theorem dX5_lookAtTwo_50 : decode cX5_lookAtTwo 50 = .ok (.iload_n 3, 1) := by decide +kernel
theorem dX5_lookAtTwo_51 : decode cX5_lookAtTwo 51 = .ok (.invokestatic 57, 3) := by decide +kernel
theorem dX5_lookAtTwo_54 : decode cX5_lookAtTwo 54 = .ok (.lor, 1) := by decide +kernel
theorem dX5_lookAtTwo_55 : decode cX5_lookAtTwo 55 = .ok (.lastore, 1) := by decide +kernel
theorem dX5_lookAtTwo_56 : decode cX5_lookAtTwo 56 = .ok (.iinc 3 1, 3) := by decide +kernel
theorem dX5_lookAtTwo_59 : decode cX5_lookAtTwo 59 = .ok (.goto (-43), 3) := by decide +kernel
theorem dX5_lookAtTwo_62 : decode cX5_lookAtTwo 62 = .ok (.return_, 1) := by decide +kernel
theorem dX5_lowBit_0 : decode cX5_lowBit 0 = .ok (.iload_n 0, 1) := by decide +kernel
theorem dX5_lowBit_1 : decode cX5_lowBit 1 = .ok (.bipush 64, 2) := by decide +kernel
theorem dX5_lowBit_3 : decode cX5_lowBit 3 = .ok (.if_icmp .ge 9, 3) := by decide +kernel
theorem dX5_lowBit_6 : decode cX5_lowBit 6 = .ok (.lconst 1, 1) := by decide +kernel
theorem dX5_lowBit_7 : decode cX5_lowBit 7 = .ok (.iload_n 0, 1) := by decide +kernel
theorem dX5_lowBit_8 : decode cX5_lowBit 8 = .ok (.lshl, 1) := by decide +kernel
theorem dX5_lowBit_9 : decode cX5_lowBit 9 = .ok (.goto 4, 3) := by decide +kernel
theorem dX5_lowBit_12 : decode cX5_lowBit 12 = .ok (.lconst 0, 1) := by decide +kernel
theorem dX5_lowBit_13 : decode cX5_lowBit 13 = .ok (.lreturn, 1) := by decide +kernel
theorem dX5_highBit_0 : decode cX5_highBit 0 = .ok (.iload_n 0, 1) := by decide +kernel
theorem dX5_highBit_1 : decode cX5_highBit 1 = .ok (.bipush 64, 2) := by decide +kernel
theorem dX5_highBit_3 : decode cX5_highBit 3 = .ok (.if_icmp .ge 7, 3) := by decide +kernel
theorem dX5_highBit_6 : decode cX5_highBit 6 = .ok (.lconst 0, 1) := by decide +kernel
theorem dX5_highBit_7 : decode cX5_highBit 7 = .ok (.goto 9, 3) := by decide +kernel
theorem dX5_highBit_10 : decode cX5_highBit 10 = .ok (.lconst 1, 1) := by decide +kernel
theorem dX5_highBit_11 : decode cX5_highBit 11 = .ok (.iload_n 0, 1) := by decide +kernel
theorem dX5_highBit_12 : decode cX5_highBit 12 = .ok (.bipush 64, 2) := by decide +kernel
theorem dX5_highBit_14 : decode cX5_highBit 14 = .ok (.isub, 1) := by decide +kernel
theorem dX5_highBit_15 : decode cX5_highBit 15 = .ok (.lshl, 1) := by decide +kernel
theorem dX5_highBit_16 : decode cX5_highBit 16 = .ok (.lreturn, 1) := by decide +kernel
theorem dX5_servedBy_0 : decode cX5_servedBy 0 = .ok (.lconst 0, 1) := by decide +kernel
theorem dX5_servedBy_1 : decode cX5_servedBy 1 = .ok (.lstore_n 2, 1) := by decide +kernel
theorem dX5_servedBy_2 : decode cX5_servedBy 2 = .ok (.lconst 0, 1) := by decide +kernel
theorem dX5_servedBy_3 : decode cX5_servedBy 3 = .ok (.lstore 4, 2) := by decide +kernel
theorem dX5_servedBy_5 : decode cX5_servedBy 5 = .ok (.iconst 0, 1) := by decide +kernel
theorem dX5_servedBy_6 : decode cX5_servedBy 6 = .ok (.istore 6, 2) := by decide +kernel
theorem dX5_servedBy_8 : decode cX5_servedBy 8 = .ok (.iload 6, 2) := by decide +kernel
theorem dX5_servedBy_10 : decode cX5_servedBy 10 = .ok (.aload_n 0, 1) := by decide +kernel
theorem dX5_servedBy_11 : decode cX5_servedBy 11 = .ok (.getfield 32, 3) := by decide +kernel
theorem dX5_servedBy_14 : decode cX5_servedBy 14 = .ok (.if_icmp .ge 85, 3) := by decide +kernel
theorem dX5_servedBy_17 : decode cX5_servedBy 17 = .ok (.iload_n 1, 1) := by decide +kernel
theorem dX5_servedBy_18 : decode cX5_servedBy 18 = .ok (.i2l, 1) := by decide +kernel
theorem dX5_servedBy_19 : decode cX5_servedBy 19 = .ok (.iload 6, 2) := by decide +kernel
theorem dX5_servedBy_21 : decode cX5_servedBy 21 = .ok (.invokestatic 68, 3) := by decide +kernel
theorem dX5_servedBy_24 : decode cX5_servedBy 24 = .ok (.ifCond .ne 6, 3) := by decide +kernel
theorem dX5_servedBy_27 : decode cX5_servedBy 27 = .ok (.goto 66, 3) := by decide +kernel
theorem dX5_servedBy_30 : decode cX5_servedBy 30 = .ok (.iload 6, 2) := by decide +kernel
theorem dX5_servedBy_32 : decode cX5_servedBy 32 = .ok (.istore 7, 2) := by decide +kernel
theorem dX5_servedBy_34 : decode cX5_servedBy 34 = .ok (.iload 7, 2) := by decide +kernel
theorem dX5_servedBy_36 : decode cX5_servedBy 36 = .ok (.aload_n 0, 1) := by decide +kernel
theorem dX5_servedBy_37 : decode cX5_servedBy 37 = .ok (.getfield 32, 3) := by decide +kernel
theorem dX5_servedBy_40 : decode cX5_servedBy 40 = .ok (.if_icmp .ge 53, 3) := by decide +kernel
theorem dX5_servedBy_43 : decode cX5_servedBy 43 = .ok (.iload_n 1, 1) := by decide +kernel
theorem dX5_servedBy_44 : decode cX5_servedBy 44 = .ok (.i2l, 1) := by decide +kernel
theorem dX5_servedBy_45 : decode cX5_servedBy 45 = .ok (.iload 7, 2) := by decide +kernel
theorem dX5_servedBy_47 : decode cX5_servedBy 47 = .ok (.invokestatic 68, 3) := by decide +kernel
theorem dX5_servedBy_50 : decode cX5_servedBy 50 = .ok (.ifCond .eq 37, 3) := by decide +kernel
theorem dX5_servedBy_53 : decode cX5_servedBy 53 = .ok (.lload_n 2, 1) := by decide +kernel
theorem dX5_servedBy_54 : decode cX5_servedBy 54 = .ok (.aload_n 0, 1) := by decide +kernel
theorem dX5_servedBy_55 : decode cX5_servedBy 55 = .ok (.getfield 15, 3) := by decide +kernel
theorem dX5_servedBy_58 : decode cX5_servedBy 58 = .ok (.iload 6, 2) := by decide +kernel
theorem dX5_servedBy_60 : decode cX5_servedBy 60 = .ok (.bipush 12, 2) := by decide +kernel
theorem dX5_servedBy_62 : decode cX5_servedBy 62 = .ok (.imul, 1) := by decide +kernel
theorem dX5_servedBy_63 : decode cX5_servedBy 63 = .ok (.iload 7, 2) := by decide +kernel
theorem dX5_servedBy_65 : decode cX5_servedBy 65 = .ok (.iadd, 1) := by decide +kernel
theorem dX5_servedBy_66 : decode cX5_servedBy 66 = .ok (.laload, 1) := by decide +kernel
theorem dX5_servedBy_67 : decode cX5_servedBy 67 = .ok (.lor, 1) := by decide +kernel
theorem dX5_servedBy_68 : decode cX5_servedBy 68 = .ok (.lstore_n 2, 1) := by decide +kernel
theorem dX5_servedBy_69 : decode cX5_servedBy 69 = .ok (.lload 4, 2) := by decide +kernel
theorem dX5_servedBy_71 : decode cX5_servedBy 71 = .ok (.aload_n 0, 1) := by decide +kernel
theorem dX5_servedBy_72 : decode cX5_servedBy 72 = .ok (.getfield 19, 3) := by decide +kernel
theorem dX5_servedBy_75 : decode cX5_servedBy 75 = .ok (.iload 6, 2) := by decide +kernel
theorem dX5_servedBy_77 : decode cX5_servedBy 77 = .ok (.bipush 12, 2) := by decide +kernel
theorem dX5_servedBy_79 : decode cX5_servedBy 79 = .ok (.imul, 1) := by decide +kernel
theorem dX5_servedBy_80 : decode cX5_servedBy 80 = .ok (.iload 7, 2) := by decide +kernel
theorem dX5_servedBy_82 : decode cX5_servedBy 82 = .ok (.iadd, 1) := by decide +kernel
theorem dX5_servedBy_83 : decode cX5_servedBy 83 = .ok (.laload, 1) := by decide +kernel
theorem dX5_servedBy_84 : decode cX5_servedBy 84 = .ok (.lor, 1) := by decide +kernel
theorem dX5_servedBy_85 : decode cX5_servedBy 85 = .ok (.lstore 4, 2) := by decide +kernel
theorem dX5_servedBy_87 : decode cX5_servedBy 87 = .ok (.iinc 7 1, 3) := by decide +kernel
theorem dX5_servedBy_90 : decode cX5_servedBy 90 = .ok (.goto (-56), 3) := by decide +kernel
theorem dX5_servedBy_93 : decode cX5_servedBy 93 = .ok (.iinc 6 1, 3) := by decide +kernel
theorem dX5_servedBy_96 : decode cX5_servedBy 96 = .ok (.goto (-88), 3) := by decide +kernel
theorem dX5_servedBy_99 : decode cX5_servedBy 99 = .ok (.aload_n 0, 1) := by decide +kernel
theorem dX5_servedBy_100 : decode cX5_servedBy 100 = .ok (.lload_n 2, 1) := by decide +kernel
theorem dX5_servedBy_101 : decode cX5_servedBy 101 = .ok (.lload 4, 2) := by decide +kernel
theorem dX5_servedBy_103 : decode cX5_servedBy 103 = .ok (.invokevirtual 72, 3) := by decide +kernel
theorem dX5_servedBy_106 : decode cX5_servedBy 106 = .ok (.ireturn, 1) := by decide +kernel
theorem dX5_songsWithin_0 : decode cX5_songsWithin 0 = .ok (.iconst 0, 1) := by decide +kernel
theorem dX5_songsWithin_1 : decode cX5_songsWithin 1 = .ok (.istore 5, 2) := by decide +kernel
theorem dX5_songsWithin_3 : decode cX5_songsWithin 3 = .ok (.iconst 0, 1) := by decide +kernel
theorem dX5_songsWithin_4 : decode cX5_songsWithin 4 = .ok (.istore 6, 2) := by decide +kernel
theorem dX5_songsWithin_6 : decode cX5_songsWithin 6 = .ok (.iload 6, 2) := by decide +kernel
theorem dX5_songsWithin_8 : decode cX5_songsWithin 8 = .ok (.aload_n 0, 1) := by decide +kernel
theorem dX5_songsWithin_9 : decode cX5_songsWithin 9 = .ok (.getfield 28, 3) := by decide +kernel
theorem dX5_songsWithin_12 : decode cX5_songsWithin 12 = .ok (.if_icmp .ge 54, 3) := by decide +kernel
theorem dX5_songsWithin_15 : decode cX5_songsWithin 15 = .ok (.aload_n 0, 1) := by decide +kernel
theorem dX5_songsWithin_16 : decode cX5_songsWithin 16 = .ok (.getfield 22, 3) := by decide +kernel
theorem dX5_songsWithin_19 : decode cX5_songsWithin 19 = .ok (.iload 6, 2) := by decide +kernel
theorem dX5_songsWithin_21 : decode cX5_songsWithin 21 = .ok (.laload, 1) := by decide +kernel
theorem dX5_songsWithin_22 : decode cX5_songsWithin 22 = .ok (.lload_n 1, 1) := by decide +kernel
theorem dX5_songsWithin_23 : decode cX5_songsWithin 23 = .ok (.ldc2_w 76, 3) := by decide +kernel
theorem dX5_songsWithin_26 : decode cX5_songsWithin 26 = .ok (.lxor, 1) := by decide +kernel
theorem dX5_songsWithin_27 : decode cX5_songsWithin 27 = .ok (.land, 1) := by decide +kernel
theorem dX5_songsWithin_28 : decode cX5_songsWithin 28 = .ok (.lconst 0, 1) := by decide +kernel
theorem dX5_songsWithin_29 : decode cX5_songsWithin 29 = .ok (.lcmp, 1) := by decide +kernel
theorem dX5_songsWithin_30 : decode cX5_songsWithin 30 = .ok (.ifCond .ne 30, 3) := by decide +kernel
theorem dX5_songsWithin_33 : decode cX5_songsWithin 33 = .ok (.aload_n 0, 1) := by decide +kernel
theorem dX5_songsWithin_34 : decode cX5_songsWithin 34 = .ok (.getfield 25, 3) := by decide +kernel
theorem dX5_songsWithin_37 : decode cX5_songsWithin 37 = .ok (.iload 6, 2) := by decide +kernel
theorem dX5_songsWithin_39 : decode cX5_songsWithin 39 = .ok (.laload, 1) := by decide +kernel
theorem dX5_songsWithin_40 : decode cX5_songsWithin 40 = .ok (.lload_n 3, 1) := by decide +kernel
theorem dX5_songsWithin_41 : decode cX5_songsWithin 41 = .ok (.ldc2_w 76, 3) := by decide +kernel
theorem dX5_songsWithin_44 : decode cX5_songsWithin 44 = .ok (.lxor, 1) := by decide +kernel
theorem dX5_songsWithin_45 : decode cX5_songsWithin 45 = .ok (.land, 1) := by decide +kernel
theorem dX5_songsWithin_46 : decode cX5_songsWithin 46 = .ok (.lconst 0, 1) := by decide +kernel
theorem dX5_songsWithin_47 : decode cX5_songsWithin 47 = .ok (.lcmp, 1) := by decide +kernel
theorem dX5_songsWithin_48 : decode cX5_songsWithin 48 = .ok (.ifCond .ne 12, 3) := by decide +kernel
theorem dX5_songsWithin_51 : decode cX5_songsWithin 51 = .ok (.iload 5, 2) := by decide +kernel
theorem dX5_songsWithin_53 : decode cX5_songsWithin 53 = .ok (.iconst 1, 1) := by decide +kernel
theorem dX5_songsWithin_54 : decode cX5_songsWithin 54 = .ok (.iload 6, 2) := by decide +kernel
theorem dX5_songsWithin_56 : decode cX5_songsWithin 56 = .ok (.ishl, 1) := by decide +kernel
theorem dX5_songsWithin_57 : decode cX5_songsWithin 57 = .ok (.ior, 1) := by decide +kernel
theorem dX5_songsWithin_58 : decode cX5_songsWithin 58 = .ok (.istore 5, 2) := by decide +kernel
theorem dX5_songsWithin_60 : decode cX5_songsWithin 60 = .ok (.iinc 6 1, 3) := by decide +kernel
theorem dX5_songsWithin_63 : decode cX5_songsWithin 63 = .ok (.goto (-57), 3) := by decide +kernel
theorem dX5_songsWithin_66 : decode cX5_songsWithin 66 = .ok (.iload 5, 2) := by decide +kernel
theorem dX5_songsWithin_68 : decode cX5_songsWithin 68 = .ok (.ireturn, 1) := by decide +kernel
theorem dX5_mostServing_0 : decode cX5_mostServing 0 = .ok (.iconst 1, 1) := by decide +kernel
theorem dX5_mostServing_1 : decode cX5_mostServing 1 = .ok (.aload_n 0, 1) := by decide +kernel
theorem dX5_mostServing_2 : decode cX5_mostServing 2 = .ok (.getfield 32, 3) := by decide +kernel
theorem dX5_mostServing_5 : decode cX5_mostServing 5 = .ok (.ishl, 1) := by decide +kernel
theorem dX5_mostServing_6 : decode cX5_mostServing 6 = .ok (.iconst 1, 1) := by decide +kernel
theorem dX5_mostServing_7 : decode cX5_mostServing 7 = .ok (.isub, 1) := by decide +kernel
theorem dX5_mostServing_8 : decode cX5_mostServing 8 = .ok (.istore_n 2, 1) := by decide +kernel
theorem dX5_mostServing_9 : decode cX5_mostServing 9 = .ok (.aload_n 0, 1) := by decide +kernel
theorem dX5_mostServing_10 : decode cX5_mostServing 10 = .ok (.iload_n 2, 1) := by decide +kernel
theorem dX5_mostServing_11 : decode cX5_mostServing 11 = .ok (.invokevirtual 78, 3) := by decide +kernel
theorem dX5_mostServing_14 : decode cX5_mostServing 14 = .ok (.invokestatic 81, 3) := by decide +kernel
theorem dX5_mostServing_17 : decode cX5_mostServing 17 = .ok (.istore_n 3, 1) := by decide +kernel
theorem dX5_mostServing_18 : decode cX5_mostServing 18 = .ok (.iconst 0, 1) := by decide +kernel
theorem dX5_mostServing_19 : decode cX5_mostServing 19 = .ok (.istore 4, 2) := by decide +kernel
theorem dX5_mostServing_21 : decode cX5_mostServing 21 = .ok (.iconst 0, 1) := by decide +kernel
theorem dX5_mostServing_22 : decode cX5_mostServing 22 = .ok (.istore 5, 2) := by decide +kernel
theorem dX5_mostServing_24 : decode cX5_mostServing 24 = .ok (.iconst 1, 1) := by decide +kernel
theorem dX5_mostServing_25 : decode cX5_mostServing 25 = .ok (.istore 6, 2) := by decide +kernel
theorem dX5_mostServing_27 : decode cX5_mostServing 27 = .ok (.iload 6, 2) := by decide +kernel
theorem dX5_mostServing_29 : decode cX5_mostServing 29 = .ok (.iload_n 1, 1) := by decide +kernel
theorem dX5_mostServing_30 : decode cX5_mostServing 30 = .ok (.if_icmp .gt 85, 3) := by decide +kernel
theorem dX5_mostServing_33 : decode cX5_mostServing 33 = .ok (.iload 6, 2) := by decide +kernel
theorem dX5_mostServing_35 : decode cX5_mostServing 35 = .ok (.aload_n 0, 1) := by decide +kernel
theorem dX5_mostServing_36 : decode cX5_mostServing 36 = .ok (.getfield 32, 3) := by decide +kernel
theorem dX5_mostServing_39 : decode cX5_mostServing 39 = .ok (.if_icmp .gt 76, 3) := by decide +kernel
theorem dX5_mostServing_42 : decode cX5_mostServing 42 = .ok (.iconst 1, 1) := by decide +kernel
theorem dX5_mostServing_43 : decode cX5_mostServing 43 = .ok (.istore 7, 2) := by decide +kernel
theorem dX5_mostServing_45 : decode cX5_mostServing 45 = .ok (.iload 7, 2) := by decide +kernel
theorem dX5_mostServing_47 : decode cX5_mostServing 47 = .ok (.iload_n 2, 1) := by decide +kernel
theorem dX5_mostServing_48 : decode cX5_mostServing 48 = .ok (.if_icmp .gt 61, 3) := by decide +kernel
theorem dX5_mostServing_51 : decode cX5_mostServing 51 = .ok (.iload 4, 2) := by decide +kernel
theorem dX5_mostServing_53 : decode cX5_mostServing 53 = .ok (.iload_n 3, 1) := by decide +kernel
theorem dX5_mostServing_54 : decode cX5_mostServing 54 = .ok (.if_icmp .ge 55, 3) := by decide +kernel
theorem dX5_mostServing_57 : decode cX5_mostServing 57 = .ok (.iload 7, 2) := by decide +kernel
theorem dX5_mostServing_59 : decode cX5_mostServing 59 = .ok (.invokestatic 81, 3) := by decide +kernel
theorem dX5_mostServing_62 : decode cX5_mostServing 62 = .ok (.iload 6, 2) := by decide +kernel
theorem dX5_mostServing_64 : decode cX5_mostServing 64 = .ok (.if_icmp .ne 39, 3) := by decide +kernel
theorem dX5_mostServing_67 : decode cX5_mostServing 67 = .ok (.aload_n 0, 1) := by decide +kernel
theorem dX5_mostServing_68 : decode cX5_mostServing 68 = .ok (.iload 7, 2) := by decide +kernel
theorem dX5_mostServing_70 : decode cX5_mostServing 70 = .ok (.invokevirtual 78, 3) := by decide +kernel
theorem dX5_mostServing_73 : decode cX5_mostServing 73 = .ok (.invokestatic 81, 3) := by decide +kernel
theorem dX5_mostServing_76 : decode cX5_mostServing 76 = .ok (.istore 8, 2) := by decide +kernel
theorem dX5_mostServing_78 : decode cX5_mostServing 78 = .ok (.iload 8, 2) := by decide +kernel
theorem dX5_mostServing_80 : decode cX5_mostServing 80 = .ok (.iload 4, 2) := by decide +kernel
theorem dX5_mostServing_82 : decode cX5_mostServing 82 = .ok (.if_icmp .le 8, 3) := by decide +kernel
theorem dX5_mostServing_85 : decode cX5_mostServing 85 = .ok (.iload 7, 2) := by decide +kernel
theorem dX5_mostServing_87 : decode cX5_mostServing 87 = .ok (.goto 5, 3) := by decide +kernel
theorem dX5_mostServing_90 : decode cX5_mostServing 90 = .ok (.iload 5, 2) := by decide +kernel
theorem dX5_mostServing_92 : decode cX5_mostServing 92 = .ok (.istore 5, 2) := by decide +kernel
theorem dX5_mostServing_94 : decode cX5_mostServing 94 = .ok (.iload 4, 2) := by decide +kernel
theorem dX5_mostServing_96 : decode cX5_mostServing 96 = .ok (.iload 8, 2) := by decide +kernel
theorem dX5_mostServing_98 : decode cX5_mostServing 98 = .ok (.invokestatic 86, 3) := by decide +kernel
theorem dX5_mostServing_101 : decode cX5_mostServing 101 = .ok (.istore 4, 2) := by decide +kernel
theorem dX5_mostServing_103 : decode cX5_mostServing 103 = .ok (.iinc 7 1, 3) := by decide +kernel
theorem dX5_mostServing_106 : decode cX5_mostServing 106 = .ok (.goto (-61), 3) := by decide +kernel
theorem dX5_mostServing_109 : decode cX5_mostServing 109 = .ok (.iinc 6 1, 3) := by decide +kernel
theorem dX5_mostServing_112 : decode cX5_mostServing 112 = .ok (.goto (-85), 3) := by decide +kernel
theorem dX5_mostServing_115 : decode cX5_mostServing 115 = .ok (.iload 5, 2) := by decide +kernel
theorem dX5_mostServing_117 : decode cX5_mostServing 117 = .ok (.ireturn, 1) := by decide +kernel
theorem dX6_init_0 : decode cX6_init 0 = .ok (.aload_n 0, 1) := by decide +kernel
theorem dX6_init_1 : decode cX6_init 1 = .ok (.invokespecial 3, 3) := by decide +kernel
theorem dX6_init_4 : decode cX6_init 4 = .ok (.aload_n 0, 1) := by decide +kernel
theorem dX6_init_5 : decode cX6_init 5 = .ok (.sipush 1896, 3) := by decide +kernel
theorem dX6_init_8 : decode cX6_init 8 = .ok (.newarray .int, 2) := by decide +kernel
theorem dX6_init_10 : decode cX6_init 10 = .ok (.putfield 9, 3) := by decide +kernel
theorem dX6_init_13 : decode cX6_init 13 = .ok (.aload_n 0, 1) := by decide +kernel
theorem dX6_init_14 : decode cX6_init 14 = .ok (.bipush 79, 2) := by decide +kernel
theorem dX6_init_16 : decode cX6_init 16 = .ok (.newarray .int, 2) := by decide +kernel
theorem dX6_init_18 : decode cX6_init 18 = .ok (.putfield 15, 3) := by decide +kernel
theorem dX6_init_21 : decode cX6_init 21 = .ok (.return_, 1) := by decide +kernel
theorem dX6_plan_0 : decode cX6_plan 0 = .ok (.aload_n 0, 1) := by decide +kernel
theorem dX6_plan_1 : decode cX6_plan 1 = .ok (.getfield 15, 3) := by decide +kernel
theorem dX6_plan_4 : decode cX6_plan 4 = .ok (.iconst 0, 1) := by decide +kernel
theorem dX6_plan_5 : decode cX6_plan 5 = .ok (.invokestatic 18, 3) := by decide +kernel
theorem dX6_plan_8 : decode cX6_plan 8 = .ok (.aload_n 1, 1) := by decide +kernel
theorem dX6_plan_9 : decode cX6_plan 9 = .ok (.getfield 24, 3) := by decide +kernel
theorem dX6_plan_12 : decode cX6_plan 12 = .ok (.iconst 1, 1) := by decide +kernel
theorem dX6_plan_13 : decode cX6_plan 13 = .ok (.isub, 1) := by decide +kernel
theorem dX6_plan_14 : decode cX6_plan 14 = .ok (.istore_n 3, 1) := by decide +kernel
theorem dX6_plan_15 : decode cX6_plan 15 = .ok (.iload_n 3, 1) := by decide +kernel
theorem dX6_plan_16 : decode cX6_plan 16 = .ok (.ifCond .lt 69, 3) := by decide +kernel
theorem dX6_plan_19 : decode cX6_plan 19 = .ok (.iconst 0, 1) := by decide +kernel
theorem dX6_plan_20 : decode cX6_plan 20 = .ok (.istore 4, 2) := by decide +kernel
theorem dX6_plan_22 : decode cX6_plan 22 = .ok (.iload 4, 2) := by decide +kernel
theorem dX6_plan_24 : decode cX6_plan 24 = .ok (.aload_n 2, 1) := by decide +kernel
theorem dX6_plan_25 : decode cX6_plan 25 = .ok (.getfield 30, 3) := by decide +kernel
theorem dX6_plan_28 : decode cX6_plan 28 = .ok (.if_icmp .ge 46, 3) := by decide +kernel
theorem dX6_plan_31 : decode cX6_plan 31 = .ok (.aload_n 0, 1) := by decide +kernel
theorem dX6_plan_32 : decode cX6_plan 32 = .ok (.getfield 15, 3) := by decide +kernel
theorem dX6_plan_35 : decode cX6_plan 35 = .ok (.iload 4, 2) := by decide +kernel
theorem dX6_plan_37 : decode cX6_plan 37 = .ok (.dup2, 1) := by decide +kernel
theorem dX6_plan_38 : decode cX6_plan 38 = .ok (.iaload, 1) := by decide +kernel
theorem dX6_plan_39 : decode cX6_plan 39 = .ok (.aload_n 1, 1) := by decide +kernel
theorem dX6_plan_40 : decode cX6_plan 40 = .ok (.iload_n 3, 1) := by decide +kernel
theorem dX6_plan_41 : decode cX6_plan 41 = .ok (.iload 4, 2) := by decide +kernel
theorem dX6_plan_43 : decode cX6_plan 43 = .ok (.aload_n 2, 1) := by decide +kernel
theorem dX6_plan_44 : decode cX6_plan 44 = .ok (.invokestatic 35, 3) := by decide +kernel
theorem dX6_plan_47 : decode cX6_plan 47 = .ok (.iadd, 1) := by decide +kernel
theorem dX6_plan_48 : decode cX6_plan 48 = .ok (.iastore, 1) := by decide +kernel
theorem dX6_plan_49 : decode cX6_plan 49 = .ok (.aload_n 0, 1) := by decide +kernel
theorem dX6_plan_50 : decode cX6_plan 50 = .ok (.getfield 9, 3) := by decide +kernel
theorem dX6_plan_53 : decode cX6_plan 53 = .ok (.iload_n 3, 1) := by decide +kernel
theorem dX6_plan_54 : decode cX6_plan 54 = .ok (.bipush 79, 2) := by decide +kernel
theorem dX6_plan_56 : decode cX6_plan 56 = .ok (.imul, 1) := by decide +kernel
theorem dX6_plan_57 : decode cX6_plan 57 = .ok (.iload 4, 2) := by decide +kernel
theorem dX6_plan_59 : decode cX6_plan 59 = .ok (.iadd, 1) := by decide +kernel
theorem dX6_plan_60 : decode cX6_plan 60 = .ok (.aload_n 0, 1) := by decide +kernel
theorem dX6_plan_61 : decode cX6_plan 61 = .ok (.getfield 15, 3) := by decide +kernel
theorem dX6_plan_64 : decode cX6_plan 64 = .ok (.iload 4, 2) := by decide +kernel
theorem dX6_plan_66 : decode cX6_plan 66 = .ok (.iaload, 1) := by decide +kernel
theorem dX6_plan_67 : decode cX6_plan 67 = .ok (.iastore, 1) := by decide +kernel
theorem dX6_plan_68 : decode cX6_plan 68 = .ok (.iinc 4 1, 3) := by decide +kernel
theorem dX6_plan_71 : decode cX6_plan 71 = .ok (.goto (-49), 3) := by decide +kernel
theorem dX6_plan_74 : decode cX6_plan 74 = .ok (.aload_n 0, 1) := by decide +kernel
theorem dX6_plan_75 : decode cX6_plan 75 = .ok (.aload_n 2, 1) := by decide +kernel
theorem dX6_plan_76 : decode cX6_plan 76 = .ok (.invokevirtual 39, 3) := by decide +kernel
theorem dX6_plan_79 : decode cX6_plan 79 = .ok (.iinc 3 (-1), 3) := by decide +kernel
theorem dX6_plan_82 : decode cX6_plan 82 = .ok (.goto (-67), 3) := by decide +kernel
theorem dX6_plan_85 : decode cX6_plan 85 = .ok (.return_, 1) := by decide +kernel
theorem dX6_troubleOf_0 : decode cX6_troubleOf 0 = .ok (.aload_n 3, 1) := by decide +kernel
theorem dX6_troubleOf_1 : decode cX6_troubleOf 1 = .ok (.getfield 43, 3) := by decide +kernel
theorem dX6_troubleOf_4 : decode cX6_troubleOf 4 = .ok (.iload_n 2, 1) := by decide +kernel
theorem dX6_troubleOf_5 : decode cX6_troubleOf 5 = .ok (.iaload, 1) := by decide +kernel
theorem dX6_troubleOf_6 : decode cX6_troubleOf 6 = .ok (.aload_n 0, 1) := by decide +kernel
theorem dX6_troubleOf_7 : decode cX6_troubleOf 7 = .ok (.aload_n 0, 1) := by decide +kernel
theorem dX6_troubleOf_8 : decode cX6_troubleOf 8 = .ok (.getfield 46, 3) := by decide +kernel
theorem dX6_troubleOf_11 : decode cX6_troubleOf 11 = .ok (.iload_n 1, 1) := by decide +kernel
theorem dX6_troubleOf_12 : decode cX6_troubleOf 12 = .ok (.invokevirtual 49, 3) := by decide +kernel
theorem dX6_troubleOf_15 : decode cX6_troubleOf 15 = .ok (.invokestatic 53, 3) := by decide +kernel
theorem dX6_troubleOf_18 : decode cX6_troubleOf 18 = .ok (.ixor, 1) := by decide +kernel
theorem dX6_troubleOf_19 : decode cX6_troubleOf 19 = .ok (.istore 4, 2) := by decide +kernel
theorem dX6_troubleOf_21 : decode cX6_troubleOf 21 = .ok (.aload_n 3, 1) := by decide +kernel
theorem dX6_troubleOf_22 : decode cX6_troubleOf 22 = .ok (.aload_n 0, 1) := by decide +kernel
theorem dX6_troubleOf_23 : decode cX6_troubleOf 23 = .ok (.aload_n 0, 1) := by decide +kernel
theorem dX6_troubleOf_24 : decode cX6_troubleOf 24 = .ok (.getfield 46, 3) := by decide +kernel
theorem dX6_troubleOf_27 : decode cX6_troubleOf 27 = .ok (.iload_n 1, 1) := by decide +kernel
theorem dX6_troubleOf_28 : decode cX6_troubleOf 28 = .ok (.iload_n 2, 1) := by decide +kernel
theorem dX6_troubleOf_29 : decode cX6_troubleOf 29 = .ok (.invokevirtual 57, 3) := by decide +kernel
theorem dX6_troubleOf_32 : decode cX6_troubleOf 32 = .ok (.ifCond .eq 8, 3) := by decide +kernel
theorem dX6_troubleOf_35 : decode cX6_troubleOf 35 = .ok (.bipush 30, 2) := by decide +kernel
theorem dX6_troubleOf_37 : decode cX6_troubleOf 37 = .ok (.goto 4, 3) := by decide +kernel
theorem dX6_troubleOf_40 : decode cX6_troubleOf 40 = .ok (.iconst 0, 1) := by decide +kernel
theorem dX6_troubleOf_41 : decode cX6_troubleOf 41 = .ok (.istore 5, 2) := by decide +kernel
theorem dX6_troubleOf_43 : decode cX6_troubleOf 43 = .ok (.bipush 10, 2) := by decide +kernel
theorem dX6_troubleOf_45 : decode cX6_troubleOf 45 = .ok (.iload 4, 2) := by decide +kernel
theorem dX6_troubleOf_47 : decode cX6_troubleOf 47 = .ok (.invokestatic 61, 3) := by decide +kernel
theorem dX6_troubleOf_50 : decode cX6_troubleOf 50 = .ok (.imul, 1) := by decide +kernel
theorem dX6_troubleOf_51 : decode cX6_troubleOf 51 = .ok (.iload 5, 2) := by decide +kernel
theorem dX6_troubleOf_53 : decode cX6_troubleOf 53 = .ok (.iadd, 1) := by decide +kernel
theorem dX6_troubleOf_54 : decode cX6_troubleOf 54 = .ok (.ireturn, 1) := by decide +kernel
theorem dX6_letBarsChange_0 : decode cX6_letBarsChange 0 = .ok (.aload_n 1, 1) := by decide +kernel
theorem dX6_letBarsChange_1 : decode cX6_letBarsChange 1 = .ok (.getfield 30, 3) := by decide +kernel
theorem dX6_letBarsChange_4 : decode cX6_letBarsChange 4 = .ok (.iconst 1, 1) := by decide +kernel
theorem dX6_letBarsChange_5 : decode cX6_letBarsChange 5 = .ok (.isub, 1) := by decide +kernel
theorem dX6_letBarsChange_6 : decode cX6_letBarsChange 6 = .ok (.istore_n 2, 1) := by decide +kernel
theorem dX6_letBarsChange_7 : decode cX6_letBarsChange 7 = .ok (.iload_n 2, 1) := by decide +kernel
theorem dX6_letBarsChange_8 : decode cX6_letBarsChange 8 = .ok (.ifCond .le 43, 3) := by decide +kernel
theorem dX6_letBarsChange_11 : decode cX6_letBarsChange 11 = .ok (.aload_n 1, 1) := by decide +kernel
theorem dX6_letBarsChange_12 : decode cX6_letBarsChange 12 = .ok (.getfield 66, 3) := by decide +kernel
theorem dX6_letBarsChange_15 : decode cX6_letBarsChange 15 = .ok (.iload_n 2, 1) := by decide +kernel
theorem dX6_letBarsChange_16 : decode cX6_letBarsChange 16 = .ok (.iaload, 1) := by decide +kernel
theorem dX6_letBarsChange_17 : decode cX6_letBarsChange 17 = .ok (.istore_n 3, 1) := by decide +kernel
theorem dX6_letBarsChange_18 : decode cX6_letBarsChange 18 = .ok (.aload_n 0, 1) := by decide +kernel
theorem dX6_letBarsChange_19 : decode cX6_letBarsChange 19 = .ok (.iload_n 3, 1) := by decide +kernel
theorem dX6_letBarsChange_20 : decode cX6_letBarsChange 20 = .ok (.iload_n 3, 1) := by decide +kernel
theorem dX6_letBarsChange_21 : decode cX6_letBarsChange 21 = .ok (.iconst 1, 1) := by decide +kernel
theorem dX6_letBarsChange_22 : decode cX6_letBarsChange 22 = .ok (.isub, 1) := by decide +kernel
theorem dX6_letBarsChange_23 : decode cX6_letBarsChange 23 = .ok (.iand, 1) := by decide +kernel
theorem dX6_letBarsChange_24 : decode cX6_letBarsChange 24 = .ok (.invokestatic 69, 3) := by decide +kernel
theorem dX6_letBarsChange_27 : decode cX6_letBarsChange 27 = .ok (.iload_n 2, 1) := by decide +kernel
theorem dX6_letBarsChange_28 : decode cX6_letBarsChange 28 = .ok (.invokevirtual 72, 3) := by decide +kernel
theorem dX6_letBarsChange_31 : decode cX6_letBarsChange 31 = .ok (.aload_n 0, 1) := by decide +kernel
theorem dX6_letBarsChange_32 : decode cX6_letBarsChange 32 = .ok (.iload_n 3, 1) := by decide +kernel
theorem dX6_letBarsChange_33 : decode cX6_letBarsChange 33 = .ok (.iload_n 3, 1) := by decide +kernel
theorem dX6_letBarsChange_34 : decode cX6_letBarsChange 34 = .ok (.invokestatic 76, 3) := by decide +kernel
theorem dX6_letBarsChange_37 : decode cX6_letBarsChange 37 = .ok (.ixor, 1) := by decide +kernel
theorem dX6_letBarsChange_38 : decode cX6_letBarsChange 38 = .ok (.invokestatic 69, 3) := by decide +kernel
theorem dX6_letBarsChange_41 : decode cX6_letBarsChange 41 = .ok (.iload_n 2, 1) := by decide +kernel
theorem dX6_letBarsChange_42 : decode cX6_letBarsChange 42 = .ok (.invokevirtual 72, 3) := by decide +kernel
theorem dX6_letBarsChange_45 : decode cX6_letBarsChange 45 = .ok (.iinc 2 (-1), 3) := by decide +kernel
theorem dX6_letBarsChange_48 : decode cX6_letBarsChange 48 = .ok (.goto (-41), 3) := by decide +kernel
theorem dX6_letBarsChange_51 : decode cX6_letBarsChange 51 = .ok (.iconst 1, 1) := by decide +kernel
theorem dX6_letBarsChange_52 : decode cX6_letBarsChange 52 = .ok (.istore_n 2, 1) := by decide +kernel
theorem dX6_letBarsChange_53 : decode cX6_letBarsChange 53 = .ok (.iload_n 2, 1) := by decide +kernel
theorem dX6_letBarsChange_54 : decode cX6_letBarsChange 54 = .ok (.aload_n 1, 1) := by decide +kernel
theorem dX6_letBarsChange_55 : decode cX6_letBarsChange 55 = .ok (.getfield 30, 3) := by decide +kernel
theorem dX6_letBarsChange_58 : decode cX6_letBarsChange 58 = .ok (.if_icmp .ge 43, 3) := by decide +kernel
theorem dX6_letBarsChange_61 : decode cX6_letBarsChange 61 = .ok (.aload_n 1, 1) := by decide +kernel
theorem dX6_letBarsChange_62 : decode cX6_letBarsChange 62 = .ok (.getfield 66, 3) := by decide +kernel
theorem dX6_letBarsChange_65 : decode cX6_letBarsChange 65 = .ok (.iload_n 2, 1) := by decide +kernel
theorem dX6_letBarsChange_66 : decode cX6_letBarsChange 66 = .ok (.iaload, 1) := by decide +kernel
theorem dX6_letBarsChange_67 : decode cX6_letBarsChange 67 = .ok (.istore_n 3, 1) := by decide +kernel
theorem dX6_letBarsChange_68 : decode cX6_letBarsChange 68 = .ok (.aload_n 0, 1) := by decide +kernel
theorem dX6_letBarsChange_69 : decode cX6_letBarsChange 69 = .ok (.iload_n 2, 1) := by decide +kernel
theorem dX6_letBarsChange_70 : decode cX6_letBarsChange 70 = .ok (.iload_n 3, 1) := by decide +kernel
theorem dX6_letBarsChange_71 : decode cX6_letBarsChange 71 = .ok (.iload_n 3, 1) := by decide +kernel
theorem dX6_letBarsChange_72 : decode cX6_letBarsChange 72 = .ok (.iconst 1, 1) := by decide +kernel
theorem dX6_letBarsChange_73 : decode cX6_letBarsChange 73 = .ok (.isub, 1) := by decide +kernel
theorem dX6_letBarsChange_74 : decode cX6_letBarsChange 74 = .ok (.iand, 1) := by decide +kernel
theorem dX6_letBarsChange_75 : decode cX6_letBarsChange 75 = .ok (.invokestatic 69, 3) := by decide +kernel
theorem dX6_letBarsChange_78 : decode cX6_letBarsChange 78 = .ok (.invokevirtual 72, 3) := by decide +kernel
theorem dX6_letBarsChange_81 : decode cX6_letBarsChange 81 = .ok (.aload_n 0, 1) := by decide +kernel
theorem dX6_letBarsChange_82 : decode cX6_letBarsChange 82 = .ok (.iload_n 2, 1) := by decide +kernel
theorem dX6_letBarsChange_83 : decode cX6_letBarsChange 83 = .ok (.iload_n 3, 1) := by decide +kernel
theorem dX6_letBarsChange_84 : decode cX6_letBarsChange 84 = .ok (.iload_n 3, 1) := by decide +kernel
theorem dX6_letBarsChange_85 : decode cX6_letBarsChange 85 = .ok (.invokestatic 76, 3) := by decide +kernel
theorem dX6_letBarsChange_88 : decode cX6_letBarsChange 88 = .ok (.ixor, 1) := by decide +kernel
theorem dX6_letBarsChange_89 : decode cX6_letBarsChange 89 = .ok (.invokestatic 69, 3) := by decide +kernel
theorem dX6_letBarsChange_92 : decode cX6_letBarsChange 92 = .ok (.invokevirtual 72, 3) := by decide +kernel
theorem dX6_letBarsChange_95 : decode cX6_letBarsChange 95 = .ok (.iinc 2 1, 3) := by decide +kernel
theorem dX6_letBarsChange_98 : decode cX6_letBarsChange 98 = .ok (.goto (-45), 3) := by decide +kernel
theorem dX6_letBarsChange_101 : decode cX6_letBarsChange 101 = .ok (.return_, 1) := by decide +kernel
theorem dX6_ease_0 : decode cX6_ease 0 = .ok (.aload_n 0, 1) := by decide +kernel
theorem dX6_ease_1 : decode cX6_ease 1 = .ok (.getfield 15, 3) := by decide +kernel
theorem dX6_ease_4 : decode cX6_ease 4 = .ok (.iload_n 1, 1) := by decide +kernel
theorem dX6_ease_5 : decode cX6_ease 5 = .ok (.aload_n 0, 1) := by decide +kernel
theorem dX6_ease_6 : decode cX6_ease 6 = .ok (.getfield 15, 3) := by decide +kernel
theorem dX6_ease_9 : decode cX6_ease 9 = .ok (.iload_n 1, 1) := by decide +kernel
theorem dX6_ease_10 : decode cX6_ease 10 = .ok (.iaload, 1) := by decide +kernel
theorem dX6_ease_11 : decode cX6_ease 11 = .ok (.aload_n 0, 1) := by decide +kernel
theorem dX6_ease_12 : decode cX6_ease 12 = .ok (.getfield 15, 3) := by decide +kernel
theorem dX6_ease_15 : decode cX6_ease 15 = .ok (.iload_n 2, 1) := by decide +kernel
theorem dX6_ease_16 : decode cX6_ease 16 = .ok (.iaload, 1) := by decide +kernel
theorem dX6_ease_17 : decode cX6_ease 17 = .ok (.iconst 2, 1) := by decide +kernel
theorem dX6_ease_18 : decode cX6_ease 18 = .ok (.iadd, 1) := by decide +kernel
theorem dX6_ease_19 : decode cX6_ease 19 = .ok (.invokestatic 79, 3) := by decide +kernel
theorem dX6_ease_22 : decode cX6_ease 22 = .ok (.iastore, 1) := by decide +kernel
theorem dX6_ease_23 : decode cX6_ease 23 = .ok (.return_, 1) := by decide +kernel
theorem dX6_leastTrouble_0 : decode cX6_leastTrouble 0 = .ok (.aload_n 0, 1) := by decide +kernel
theorem dX6_leastTrouble_1 : decode cX6_leastTrouble 1 = .ok (.getfield 9, 3) := by decide +kernel
theorem dX6_leastTrouble_4 : decode cX6_leastTrouble 4 = .ok (.aload_n 0, 1) := by decide +kernel
theorem dX6_leastTrouble_5 : decode cX6_leastTrouble 5 = .ok (.iconst 0, 1) := by decide +kernel
theorem dX6_leastTrouble_6 : decode cX6_leastTrouble 6 = .ok (.iconst 0, 1) := by decide +kernel
theorem dX6_leastTrouble_7 : decode cX6_leastTrouble 7 = .ok (.aload_n 1, 1) := by decide +kernel
theorem dX6_leastTrouble_8 : decode cX6_leastTrouble 8 = .ok (.invokevirtual 84, 3) := by decide +kernel
theorem dX6_leastTrouble_11 : decode cX6_leastTrouble 11 = .ok (.iaload, 1) := by decide +kernel
theorem dX6_leastTrouble_12 : decode cX6_leastTrouble 12 = .ok (.ireturn, 1) := by decide +kernel
theorem dX6_setAt_0 : decode cX6_setAt 0 = .ok (.iconst 0, 1) := by decide +kernel
theorem dX6_setAt_1 : decode cX6_setAt 1 = .ok (.istore_n 3, 1) := by decide +kernel
theorem dX6_setAt_2 : decode cX6_setAt 2 = .ok (.iconst 0, 1) := by decide +kernel
theorem dX6_setAt_3 : decode cX6_setAt 3 = .ok (.istore 4, 2) := by decide +kernel
theorem dX6_setAt_5 : decode cX6_setAt 5 = .ok (.iload 4, 2) := by decide +kernel
theorem dX6_setAt_7 : decode cX6_setAt 7 = .ok (.iload_n 1, 1) := by decide +kernel
theorem dX6_setAt_8 : decode cX6_setAt 8 = .ok (.if_icmp .gt 30, 3) := by decide +kernel
theorem dX6_setAt_11 : decode cX6_setAt 11 = .ok (.iload 4, 2) := by decide +kernel
theorem dX6_setAt_13 : decode cX6_setAt 13 = .ok (.bipush 24, 2) := by decide +kernel
theorem dX6_setAt_15 : decode cX6_setAt 15 = .ok (.if_icmp .ge 23, 3) := by decide +kernel
theorem dX6_setAt_18 : decode cX6_setAt 18 = .ok (.aload_n 2, 1) := by decide +kernel
theorem dX6_setAt_19 : decode cX6_setAt 19 = .ok (.getfield 66, 3) := by decide +kernel
theorem dX6_setAt_22 : decode cX6_setAt 22 = .ok (.aload_n 0, 1) := by decide +kernel
theorem dX6_setAt_23 : decode cX6_setAt 23 = .ok (.iload 4, 2) := by decide +kernel
theorem dX6_setAt_25 : decode cX6_setAt 25 = .ok (.iload_n 3, 1) := by decide +kernel
theorem dX6_setAt_26 : decode cX6_setAt 26 = .ok (.aload_n 2, 1) := by decide +kernel
theorem dX6_setAt_27 : decode cX6_setAt 27 = .ok (.invokevirtual 84, 3) := by decide +kernel
theorem dX6_setAt_30 : decode cX6_setAt 30 = .ok (.iaload, 1) := by decide +kernel
theorem dX6_setAt_31 : decode cX6_setAt 31 = .ok (.istore_n 3, 1) := by decide +kernel
theorem dX6_setAt_32 : decode cX6_setAt 32 = .ok (.iinc 4 1, 3) := by decide +kernel
theorem dX6_setAt_35 : decode cX6_setAt 35 = .ok (.goto (-30), 3) := by decide +kernel
theorem dX6_setAt_38 : decode cX6_setAt 38 = .ok (.iload_n 3, 1) := by decide +kernel
theorem dX6_setAt_39 : decode cX6_setAt 39 = .ok (.ireturn, 1) := by decide +kernel
theorem dX6_firstBest_0 : decode cX6_firstBest 0 = .ok (.iconst 0, 1) := by decide +kernel
theorem dX6_firstBest_1 : decode cX6_firstBest 1 = .ok (.istore 4, 2) := by decide +kernel
theorem dX6_firstBest_3 : decode cX6_firstBest 3 = .ok (.aload_n 0, 1) := by decide +kernel
theorem dX6_firstBest_4 : decode cX6_firstBest 4 = .ok (.iload_n 1, 1) := by decide +kernel
theorem dX6_firstBest_5 : decode cX6_firstBest 5 = .ok (.iload_n 2, 1) := by decide +kernel
theorem dX6_firstBest_6 : decode cX6_firstBest 6 = .ok (.iconst 0, 1) := by decide +kernel
theorem dX6_firstBest_7 : decode cX6_firstBest 7 = .ok (.aload_n 3, 1) := by decide +kernel
theorem dX6_firstBest_8 : decode cX6_firstBest 8 = .ok (.invokevirtual 88, 3) := by decide +kernel
theorem dX6_firstBest_11 : decode cX6_firstBest 11 = .ok (.istore 5, 2) := by decide +kernel
theorem dX6_firstBest_13 : decode cX6_firstBest 13 = .ok (.iconst 1, 1) := by decide +kernel
theorem dX6_firstBest_14 : decode cX6_firstBest 14 = .ok (.istore 6, 2) := by decide +kernel
theorem dX6_firstBest_16 : decode cX6_firstBest 16 = .ok (.iload 6, 2) := by decide +kernel
theorem dX6_firstBest_18 : decode cX6_firstBest 18 = .ok (.aload_n 3, 1) := by decide +kernel
theorem dX6_firstBest_19 : decode cX6_firstBest 19 = .ok (.getfield 30, 3) := by decide +kernel
theorem dX6_firstBest_22 : decode cX6_firstBest 22 = .ok (.if_icmp .ge 35, 3) := by decide +kernel
theorem dX6_firstBest_25 : decode cX6_firstBest 25 = .ok (.aload_n 0, 1) := by decide +kernel
theorem dX6_firstBest_26 : decode cX6_firstBest 26 = .ok (.iload_n 1, 1) := by decide +kernel
theorem dX6_firstBest_27 : decode cX6_firstBest 27 = .ok (.iload_n 2, 1) := by decide +kernel
theorem dX6_firstBest_28 : decode cX6_firstBest 28 = .ok (.iload 6, 2) := by decide +kernel
theorem dX6_firstBest_30 : decode cX6_firstBest 30 = .ok (.aload_n 3, 1) := by decide +kernel
theorem dX6_firstBest_31 : decode cX6_firstBest 31 = .ok (.invokevirtual 88, 3) := by decide +kernel
theorem dX6_firstBest_34 : decode cX6_firstBest 34 = .ok (.istore 7, 2) := by decide +kernel
theorem dX6_firstBest_36 : decode cX6_firstBest 36 = .ok (.iload 7, 2) := by decide +kernel
theorem dX6_firstBest_38 : decode cX6_firstBest 38 = .ok (.iload 5, 2) := by decide +kernel
theorem dX6_firstBest_40 : decode cX6_firstBest 40 = .ok (.if_icmp .ge 11, 3) := by decide +kernel
theorem dX6_firstBest_43 : decode cX6_firstBest 43 = .ok (.iload 6, 2) := by decide +kernel
theorem dX6_firstBest_45 : decode cX6_firstBest 45 = .ok (.istore 4, 2) := by decide +kernel
theorem dX6_firstBest_47 : decode cX6_firstBest 47 = .ok (.iload 7, 2) := by decide +kernel
theorem dX6_firstBest_49 : decode cX6_firstBest 49 = .ok (.istore 5, 2) := by decide +kernel
theorem dX6_firstBest_51 : decode cX6_firstBest 51 = .ok (.iinc 6 1, 3) := by decide +kernel
theorem dX6_firstBest_54 : decode cX6_firstBest 54 = .ok (.goto (-38), 3) := by decide +kernel
theorem dX6_firstBest_57 : decode cX6_firstBest 57 = .ok (.iload 4, 2) := by decide +kernel
theorem dX6_firstBest_59 : decode cX6_firstBest 59 = .ok (.ireturn, 1) := by decide +kernel
theorem dX6_troubleFrom_0 : decode cX6_troubleFrom 0 = .ok (.iload_n 1, 1) := by decide +kernel
theorem dX6_troubleFrom_1 : decode cX6_troubleFrom 1 = .ok (.ifCond .ne 7, 3) := by decide +kernel
theorem dX6_troubleFrom_4 : decode cX6_troubleFrom 4 = .ok (.iconst 0, 1) := by decide +kernel
theorem dX6_troubleFrom_5 : decode cX6_troubleFrom 5 = .ok (.goto 15, 3) := by decide +kernel
theorem dX6_troubleFrom_8 : decode cX6_troubleFrom 8 = .ok (.iload_n 2, 1) := by decide +kernel
theorem dX6_troubleFrom_9 : decode cX6_troubleFrom 9 = .ok (.aload 4, 2) := by decide +kernel
theorem dX6_troubleFrom_11 : decode cX6_troubleFrom 11 = .ok (.getfield 66, 3) := by decide +kernel
theorem dX6_troubleFrom_14 : decode cX6_troubleFrom 14 = .ok (.iload_n 3, 1) := by decide +kernel
theorem dX6_troubleFrom_15 : decode cX6_troubleFrom 15 = .ok (.iaload, 1) := by decide +kernel
theorem dX6_troubleFrom_16 : decode cX6_troubleFrom 16 = .ok (.ixor, 1) := by decide +kernel
theorem dX6_troubleFrom_17 : decode cX6_troubleFrom 17 = .ok (.invokestatic 61, 3) := by decide +kernel
theorem dX6_troubleFrom_20 : decode cX6_troubleFrom 20 = .ok (.istore 5, 2) := by decide +kernel
theorem dX6_troubleFrom_22 : decode cX6_troubleFrom 22 = .ok (.iconst 2, 1) := by decide +kernel
theorem dX6_troubleFrom_23 : decode cX6_troubleFrom 23 = .ok (.iload 5, 2) := by decide +kernel
theorem dX6_troubleFrom_25 : decode cX6_troubleFrom 25 = .ok (.imul, 1) := by decide +kernel
theorem dX6_troubleFrom_26 : decode cX6_troubleFrom 26 = .ok (.aload_n 0, 1) := by decide +kernel
theorem dX6_troubleFrom_27 : decode cX6_troubleFrom 27 = .ok (.getfield 9, 3) := by decide +kernel
theorem dX6_troubleFrom_30 : decode cX6_troubleFrom 30 = .ok (.iload_n 1, 1) := by decide +kernel
theorem dX6_troubleFrom_31 : decode cX6_troubleFrom 31 = .ok (.bipush 79, 2) := by decide +kernel
theorem dX6_troubleFrom_33 : decode cX6_troubleFrom 33 = .ok (.imul, 1) := by decide +kernel
theorem dX6_troubleFrom_34 : decode cX6_troubleFrom 34 = .ok (.iload_n 3, 1) := by decide +kernel
theorem dX6_troubleFrom_35 : decode cX6_troubleFrom 35 = .ok (.iadd, 1) := by decide +kernel
theorem dX6_troubleFrom_36 : decode cX6_troubleFrom 36 = .ok (.iaload, 1) := by decide +kernel
theorem dX6_troubleFrom_37 : decode cX6_troubleFrom 37 = .ok (.iadd, 1) := by decide +kernel
theorem dX6_troubleFrom_38 : decode cX6_troubleFrom 38 = .ok (.ireturn, 1) := by decide +kernel
theorem dX7_init_0 : decode cX7_init 0 = .ok (.aload_n 0, 1) := by decide +kernel
theorem dX7_init_1 : decode cX7_init 1 = .ok (.invokespecial 3, 3) := by decide +kernel
theorem dX7_init_4 : decode cX7_init 4 = .ok (.aload_n 0, 1) := by decide +kernel
theorem dX7_init_5 : decode cX7_init 5 = .ok (.bipush 12, 2) := by decide +kernel
theorem dX7_init_7 : decode cX7_init 7 = .ok (.anewarray 9, 3) := by decide +kernel
theorem dX7_init_10 : decode cX7_init 10 = .ok (.putfield 11, 3) := by decide +kernel
theorem dX7_init_13 : decode cX7_init 13 = .ok (.aload_n 0, 1) := by decide +kernel
theorem dX7_init_14 : decode cX7_init 14 = .ok (.iconst 0, 1) := by decide +kernel
theorem dX7_init_15 : decode cX7_init 15 = .ok (.putfield 17, 3) := by decide +kernel
theorem dX7_init_18 : decode cX7_init 18 = .ok (.iconst 0, 1) := by decide +kernel
theorem dX7_init_19 : decode cX7_init 19 = .ok (.istore_n 1, 1) := by decide +kernel
theorem dX7_init_20 : decode cX7_init 20 = .ok (.iload_n 1, 1) := by decide +kernel
theorem dX7_init_21 : decode cX7_init 21 = .ok (.bipush 12, 2) := by decide +kernel
theorem dX7_init_23 : decode cX7_init 23 = .ok (.if_icmp .ge 22, 3) := by decide +kernel
theorem dX7_init_26 : decode cX7_init 26 = .ok (.aload_n 0, 1) := by decide +kernel
theorem dX7_init_27 : decode cX7_init 27 = .ok (.getfield 11, 3) := by decide +kernel
theorem dX7_init_30 : decode cX7_init 30 = .ok (.iload_n 1, 1) := by decide +kernel
theorem dX7_init_31 : decode cX7_init 31 = .ok (.new 9, 3) := by decide +kernel
theorem dX7_init_34 : decode cX7_init 34 = .ok (.dup, 1) := by decide +kernel
theorem dX7_init_35 : decode cX7_init 35 = .ok (.invokespecial 21, 3) := by decide +kernel
theorem dX7_init_38 : decode cX7_init 38 = .ok (.aastore, 1) := by decide +kernel
theorem dX7_init_39 : decode cX7_init 39 = .ok (.iinc 1 1, 3) := by decide +kernel
theorem dX7_init_42 : decode cX7_init 42 = .ok (.goto (-22), 3) := by decide +kernel
theorem dX7_init_45 : decode cX7_init 45 = .ok (.return_, 1) := by decide +kernel
theorem dX7_knows_0 : decode cX7_knows 0 = .ok (.iload_n 1, 1) := by decide +kernel
theorem dX7_knows_1 : decode cX7_knows 1 = .ok (.ifCond .lt 15, 3) := by decide +kernel
theorem dX7_knows_4 : decode cX7_knows 4 = .ok (.iload_n 1, 1) := by decide +kernel
theorem dX7_knows_5 : decode cX7_knows 5 = .ok (.aload_n 0, 1) := by decide +kernel
theorem dX7_knows_6 : decode cX7_knows 6 = .ok (.getfield 17, 3) := by decide +kernel
theorem dX7_knows_9 : decode cX7_knows 9 = .ok (.if_icmp .ge 7, 3) := by decide +kernel
theorem dX7_knows_12 : decode cX7_knows 12 = .ok (.iconst 1, 1) := by decide +kernel
theorem dX7_knows_13 : decode cX7_knows 13 = .ok (.goto 4, 3) := by decide +kernel
theorem dX7_knows_16 : decode cX7_knows 16 = .ok (.iconst 0, 1) := by decide +kernel
theorem dX7_knows_17 : decode cX7_knows 17 = .ok (.ireturn, 1) := by decide +kernel
theorem dX7_isFull_0 : decode cX7_isFull 0 = .ok (.aload_n 0, 1) := by decide +kernel
theorem dX7_isFull_1 : decode cX7_isFull 1 = .ok (.getfield 17, 3) := by decide +kernel
theorem dX7_isFull_4 : decode cX7_isFull 4 = .ok (.bipush 12, 2) := by decide +kernel
theorem dX7_isFull_6 : decode cX7_isFull 6 = .ok (.if_icmp .lt 7, 3) := by decide +kernel
theorem dX7_isFull_9 : decode cX7_isFull 9 = .ok (.iconst 1, 1) := by decide +kernel
theorem dX7_isFull_10 : decode cX7_isFull 10 = .ok (.goto 4, 3) := by decide +kernel
theorem dX7_isFull_13 : decode cX7_isFull 13 = .ok (.iconst 0, 1) := by decide +kernel
theorem dX7_isFull_14 : decode cX7_isFull 14 = .ok (.ireturn, 1) := by decide +kernel
theorem dX7_isSet_0 : decode cX7_isSet 0 = .ok (.iload_n 1, 1) := by decide +kernel
theorem dX7_isSet_1 : decode cX7_isSet 1 = .ok (.aload_n 0, 1) := by decide +kernel
theorem dX7_isSet_2 : decode cX7_isSet 2 = .ok (.getfield 17, 3) := by decide +kernel
theorem dX7_isSet_5 : decode cX7_isSet 5 = .ok (.iushr, 1) := by decide +kernel
theorem dX7_isSet_6 : decode cX7_isSet 6 = .ok (.ifCond .ne 7, 3) := by decide +kernel
theorem dX7_isSet_9 : decode cX7_isSet 9 = .ok (.iconst 1, 1) := by decide +kernel
theorem dX7_isSet_10 : decode cX7_isSet 10 = .ok (.goto 4, 3) := by decide +kernel
theorem dX7_isSet_13 : decode cX7_isSet 13 = .ok (.iconst 0, 1) := by decide +kernel
theorem dX7_isSet_14 : decode cX7_isSet 14 = .ok (.ireturn, 1) := by decide +kernel
theorem dX7_add_0 : decode cX7_add 0 = .ok (.aload_n 0, 1) := by decide +kernel
theorem dX7_add_1 : decode cX7_add 1 = .ok (.getfield 17, 3) := by decide +kernel
theorem dX7_add_4 : decode cX7_add 4 = .ok (.istore 4, 2) := by decide +kernel
theorem dX7_add_6 : decode cX7_add 6 = .ok (.aload_n 0, 1) := by decide +kernel
theorem dX7_add_7 : decode cX7_add 7 = .ok (.dup, 1) := by decide +kernel
theorem dX7_add_8 : decode cX7_add 8 = .ok (.getfield 17, 3) := by decide +kernel
theorem dX7_add_11 : decode cX7_add 11 = .ok (.iconst 1, 1) := by decide +kernel
theorem dX7_add_12 : decode cX7_add 12 = .ok (.iadd, 1) := by decide +kernel
theorem dX7_add_13 : decode cX7_add 13 = .ok (.putfield 17, 3) := by decide +kernel
theorem dX7_add_16 : decode cX7_add 16 = .ok (.aload_n 0, 1) := by decide +kernel
theorem dX7_add_17 : decode cX7_add 17 = .ok (.getfield 11, 3) := by decide +kernel
theorem dX7_add_20 : decode cX7_add 20 = .ok (.iload 4, 2) := by decide +kernel
theorem dX7_add_22 : decode cX7_add 22 = .ok (.aaload, 1) := by decide +kernel
theorem dX7_add_23 : decode cX7_add 23 = .ok (.iload_n 1, 1) := by decide +kernel
theorem dX7_add_24 : decode cX7_add 24 = .ok (.putfield 22, 3) := by decide +kernel
theorem dX7_add_27 : decode cX7_add 27 = .ok (.aload_n 0, 1) := by decide +kernel
theorem dX7_add_28 : decode cX7_add 28 = .ok (.getfield 11, 3) := by decide +kernel
theorem dX7_add_31 : decode cX7_add 31 = .ok (.iload 4, 2) := by decide +kernel
theorem dX7_add_33 : decode cX7_add 33 = .ok (.aaload, 1) := by decide +kernel
theorem dX7_add_34 : decode cX7_add 34 = .ok (.lload_n 2, 1) := by decide +kernel
theorem dX7_add_35 : decode cX7_add 35 = .ok (.putfield 25, 3) := by decide +kernel
theorem dX7_add_38 : decode cX7_add 38 = .ok (.aload_n 0, 1) := by decide +kernel
theorem dX7_add_39 : decode cX7_add 39 = .ok (.getfield 11, 3) := by decide +kernel
theorem dX7_add_42 : decode cX7_add 42 = .ok (.iload 4, 2) := by decide +kernel
theorem dX7_add_44 : decode cX7_add 44 = .ok (.aaload, 1) := by decide +kernel
theorem dX7_add_45 : decode cX7_add 45 = .ok (.lconst 0, 1) := by decide +kernel
theorem dX7_add_46 : decode cX7_add 46 = .ok (.putfield 29, 3) := by decide +kernel
theorem dX7_add_49 : decode cX7_add 49 = .ok (.aload_n 0, 1) := by decide +kernel
theorem dX7_add_50 : decode cX7_add 50 = .ok (.getfield 11, 3) := by decide +kernel
theorem dX7_add_53 : decode cX7_add 53 = .ok (.iload 4, 2) := by decide +kernel
theorem dX7_add_55 : decode cX7_add 55 = .ok (.aaload, 1) := by decide +kernel
theorem dX7_add_56 : decode cX7_add 56 = .ok (.iload 4, 2) := by decide +kernel
theorem dX7_add_58 : decode cX7_add 58 = .ok (.putfield 32, 3) := by decide +kernel
theorem dX7_add_61 : decode cX7_add 61 = .ok (.iload 4, 2) := by decide +kernel
theorem dX7_add_63 : decode cX7_add 63 = .ok (.ireturn, 1) := by decide +kernel
theorem dX7_clear_0 : decode cX7_clear 0 = .ok (.aload_n 0, 1) := by decide +kernel
theorem dX7_clear_1 : decode cX7_clear 1 = .ok (.iconst 0, 1) := by decide +kernel
theorem dX7_clear_2 : decode cX7_clear 2 = .ok (.putfield 17, 3) := by decide +kernel
theorem dX7_clear_5 : decode cX7_clear 5 = .ok (.return_, 1) := by decide +kernel
theorem dX7_hushed_0 : decode cX7_hushed 0 = .ok (.lconst 0, 1) := by decide +kernel
theorem dX7_hushed_1 : decode cX7_hushed 1 = .ok (.lstore_n 2, 1) := by decide +kernel
theorem dX7_hushed_2 : decode cX7_hushed 2 = .ok (.iconst 0, 1) := by decide +kernel
theorem dX7_hushed_3 : decode cX7_hushed 3 = .ok (.istore 4, 2) := by decide +kernel
theorem dX7_hushed_5 : decode cX7_hushed 5 = .ok (.iload 4, 2) := by decide +kernel
theorem dX7_hushed_7 : decode cX7_hushed 7 = .ok (.aload_n 0, 1) := by decide +kernel
theorem dX7_hushed_8 : decode cX7_hushed 8 = .ok (.getfield 17, 3) := by decide +kernel
theorem dX7_hushed_11 : decode cX7_hushed 11 = .ok (.if_icmp .ge 32, 3) := by decide +kernel
theorem dX7_hushed_14 : decode cX7_hushed 14 = .ok (.iload_n 1, 1) := by decide +kernel
theorem dX7_hushed_15 : decode cX7_hushed 15 = .ok (.i2l, 1) := by decide +kernel
theorem dX7_hushed_16 : decode cX7_hushed 16 = .ok (.iload 4, 2) := by decide +kernel
theorem dX7_hushed_18 : decode cX7_hushed 18 = .ok (.invokestatic 35, 3) := by decide +kernel
theorem dX7_hushed_21 : decode cX7_hushed 21 = .ok (.ifCond .eq 16, 3) := by decide +kernel
theorem dX7_hushed_24 : decode cX7_hushed 24 = .ok (.lload_n 2, 1) := by decide +kernel
theorem dX7_hushed_25 : decode cX7_hushed 25 = .ok (.aload_n 0, 1) := by decide +kernel
theorem dX7_hushed_26 : decode cX7_hushed 26 = .ok (.getfield 11, 3) := by decide +kernel
theorem dX7_hushed_29 : decode cX7_hushed 29 = .ok (.iload 4, 2) := by decide +kernel
theorem dX7_hushed_31 : decode cX7_hushed 31 = .ok (.aaload, 1) := by decide +kernel
theorem dX7_hushed_32 : decode cX7_hushed 32 = .ok (.invokevirtual 39, 3) := by decide +kernel
theorem dX7_hushed_35 : decode cX7_hushed 35 = .ok (.lor, 1) := by decide +kernel
theorem dX7_hushed_36 : decode cX7_hushed 36 = .ok (.lstore_n 2, 1) := by decide +kernel
theorem dX7_hushed_37 : decode cX7_hushed 37 = .ok (.iinc 4 1, 3) := by decide +kernel
theorem dX7_hushed_40 : decode cX7_hushed 40 = .ok (.goto (-35), 3) := by decide +kernel
theorem dX7_hushed_43 : decode cX7_hushed 43 = .ok (.lload_n 2, 1) := by decide +kernel
theorem dX7_hushed_44 : decode cX7_hushed 44 = .ok (.lreturn, 1) := by decide +kernel
theorem dX7_wholeFeltsOn_0 : decode cX7_wholeFeltsOn 0 = .ok (.iconst 0, 1) := by decide +kernel
theorem dX7_wholeFeltsOn_1 : decode cX7_wholeFeltsOn 1 = .ok (.istore_n 2, 1) := by decide +kernel
theorem dX7_wholeFeltsOn_2 : decode cX7_wholeFeltsOn 2 = .ok (.iconst 0, 1) := by decide +kernel
theorem dX7_wholeFeltsOn_3 : decode cX7_wholeFeltsOn 3 = .ok (.istore_n 3, 1) := by decide +kernel
theorem dX7_wholeFeltsOn_4 : decode cX7_wholeFeltsOn 4 = .ok (.iload_n 3, 1) := by decide +kernel
theorem dX7_wholeFeltsOn_5 : decode cX7_wholeFeltsOn 5 = .ok (.aload_n 0, 1) := by decide +kernel
theorem dX7_wholeFeltsOn_6 : decode cX7_wholeFeltsOn 6 = .ok (.getfield 17, 3) := by decide +kernel
theorem dX7_wholeFeltsOn_9 : decode cX7_wholeFeltsOn 9 = .ok (.if_icmp .ge 28, 3) := by decide +kernel
theorem dX7_wholeFeltsOn_12 : decode cX7_wholeFeltsOn 12 = .ok (.aload_n 0, 1) := by decide +kernel
theorem dX7_wholeFeltsOn_13 : decode cX7_wholeFeltsOn 13 = .ok (.getfield 11, 3) := by decide +kernel
theorem dX7_wholeFeltsOn_16 : decode cX7_wholeFeltsOn 16 = .ok (.iload_n 3, 1) := by decide +kernel
theorem dX7_wholeFeltsOn_17 : decode cX7_wholeFeltsOn 17 = .ok (.aaload, 1) := by decide +kernel
theorem dX7_wholeFeltsOn_18 : decode cX7_wholeFeltsOn 18 = .ok (.invokevirtual 39, 3) := by decide +kernel
theorem dX7_wholeFeltsOn_21 : decode cX7_wholeFeltsOn 21 = .ok (.iload_n 1, 1) := by decide +kernel
theorem dX7_wholeFeltsOn_22 : decode cX7_wholeFeltsOn 22 = .ok (.invokestatic 35, 3) := by decide +kernel
theorem dX7_wholeFeltsOn_25 : decode cX7_wholeFeltsOn 25 = .ok (.ifCond .eq 6, 3) := by decide +kernel
theorem dX7_wholeFeltsOn_28 : decode cX7_wholeFeltsOn 28 = .ok (.iinc 2 1, 3) := by decide +kernel
theorem dX7_wholeFeltsOn_31 : decode cX7_wholeFeltsOn 31 = .ok (.iinc 3 1, 3) := by decide +kernel
theorem dX7_wholeFeltsOn_34 : decode cX7_wholeFeltsOn 34 = .ok (.goto (-30), 3) := by decide +kernel
theorem dX7_wholeFeltsOn_37 : decode cX7_wholeFeltsOn 37 = .ok (.iload_n 2, 1) := by decide +kernel
theorem dX7_wholeFeltsOn_38 : decode cX7_wholeFeltsOn 38 = .ok (.ireturn, 1) := by decide +kernel
theorem dX8_init_0 : decode cX8_init 0 = .ok (.aload_n 0, 1) := by decide +kernel
theorem dX8_init_1 : decode cX8_init 1 = .ok (.invokespecial 3, 3) := by decide +kernel
theorem dX8_init_4 : decode cX8_init 4 = .ok (.aload_n 0, 1) := by decide +kernel
theorem dX8_init_5 : decode cX8_init 5 = .ok (.bipush 64, 2) := by decide +kernel
theorem dX8_init_7 : decode cX8_init 7 = .ok (.newarray .int, 2) := by decide +kernel
theorem dX8_init_9 : decode cX8_init 9 = .ok (.putfield 9, 3) := by decide +kernel
theorem dX8_init_12 : decode cX8_init 12 = .ok (.aload_n 0, 1) := by decide +kernel
theorem dX8_init_13 : decode cX8_init 13 = .ok (.iconst (-1), 1) := by decide +kernel
theorem dX8_init_14 : decode cX8_init 14 = .ok (.putfield 15, 3) := by decide +kernel
theorem dX8_init_17 : decode cX8_init 17 = .ok (.aload_n 0, 1) := by decide +kernel
theorem dX8_init_18 : decode cX8_init 18 = .ok (.iconst 0, 1) := by decide +kernel
theorem dX8_init_19 : decode cX8_init 19 = .ok (.putfield 19, 3) := by decide +kernel
theorem dX8_init_22 : decode cX8_init 22 = .ok (.return_, 1) := by decide +kernel
theorem dX8_isNothing_0 : decode cX8_isNothing 0 = .ok (.aload_n 0, 1) := by decide +kernel
theorem dX8_isNothing_1 : decode cX8_isNothing 1 = .ok (.getfield 15, 3) := by decide +kernel
theorem dX8_isNothing_4 : decode cX8_isNothing 4 = .ok (.iconst (-1), 1) := by decide +kernel
theorem dX8_isNothing_5 : decode cX8_isNothing 5 = .ok (.if_icmp .ne 7, 3) := by decide +kernel
theorem dX8_isNothing_8 : decode cX8_isNothing 8 = .ok (.iconst 1, 1) := by decide +kernel
theorem dX8_isNothing_9 : decode cX8_isNothing 9 = .ok (.goto 4, 3) := by decide +kernel
theorem dX8_isNothing_12 : decode cX8_isNothing 12 = .ok (.iconst 0, 1) := by decide +kernel
theorem dX8_isNothing_13 : decode cX8_isNothing 13 = .ok (.ireturn, 1) := by decide +kernel
theorem dX8_begin_0 : decode cX8_begin 0 = .ok (.aload_n 0, 1) := by decide +kernel
theorem dX8_begin_1 : decode cX8_begin 1 = .ok (.iload_n 1, 1) := by decide +kernel
theorem dX8_begin_2 : decode cX8_begin 2 = .ok (.putfield 15, 3) := by decide +kernel
theorem dX8_begin_5 : decode cX8_begin 5 = .ok (.aload_n 0, 1) := by decide +kernel
theorem dX8_begin_6 : decode cX8_begin 6 = .ok (.iload_n 2, 1) := by decide +kernel
theorem dX8_begin_7 : decode cX8_begin 7 = .ok (.putfield 19, 3) := by decide +kernel
theorem dX8_begin_10 : decode cX8_begin 10 = .ok (.aload_n 0, 1) := by decide +kernel
theorem dX8_begin_11 : decode cX8_begin 11 = .ok (.getfield 9, 3) := by decide +kernel
theorem dX8_begin_14 : decode cX8_begin 14 = .ok (.iconst 0, 1) := by decide +kernel
theorem dX8_begin_15 : decode cX8_begin 15 = .ok (.invokestatic 22, 3) := by decide +kernel
theorem dX8_begin_18 : decode cX8_begin 18 = .ok (.return_, 1) := by decide +kernel
theorem dX8_drop_0 : decode cX8_drop 0 = .ok (.aload_n 0, 1) := by decide +kernel
theorem dX8_drop_1 : decode cX8_drop 1 = .ok (.invokevirtual 28, 3) := by decide +kernel
theorem dX8_drop_4 : decode cX8_drop 4 = .ok (.ifCond .ne 7, 3) := by decide +kernel
theorem dX8_drop_7 : decode cX8_drop 7 = .ok (.iconst 1, 1) := by decide +kernel
theorem dX8_drop_8 : decode cX8_drop 8 = .ok (.goto 4, 3) := by decide +kernel
theorem dX8_drop_11 : decode cX8_drop 11 = .ok (.iconst 0, 1) := by decide +kernel
theorem dX8_drop_12 : decode cX8_drop 12 = .ok (.istore_n 1, 1) := by decide +kernel
theorem dX8_drop_13 : decode cX8_drop 13 = .ok (.aload_n 0, 1) := by decide +kernel
theorem dX8_drop_14 : decode cX8_drop 14 = .ok (.iconst (-1), 1) := by decide +kernel
theorem dX8_drop_15 : decode cX8_drop 15 = .ok (.putfield 15, 3) := by decide +kernel
theorem dX8_drop_18 : decode cX8_drop 18 = .ok (.aload_n 0, 1) := by decide +kernel
theorem dX8_drop_19 : decode cX8_drop 19 = .ok (.iconst 0, 1) := by decide +kernel
theorem dX8_drop_20 : decode cX8_drop 20 = .ok (.putfield 19, 3) := by decide +kernel
theorem dX8_drop_23 : decode cX8_drop 23 = .ok (.iload_n 1, 1) := by decide +kernel
theorem dX8_drop_24 : decode cX8_drop 24 = .ok (.ireturn, 1) := by decide +kernel
theorem dX8_faultAs_0 : decode cX8_faultAs 0 = .ok (.aload_n 0, 1) := by decide +kernel
theorem dX8_faultAs_1 : decode cX8_faultAs 1 = .ok (.invokevirtual 28, 3) := by decide +kernel
theorem dX8_faultAs_4 : decode cX8_faultAs 4 = .ok (.ifCond .eq 5, 3) := by decide +kernel
theorem dX8_faultAs_7 : decode cX8_faultAs 7 = .ok (.iconst 1, 1) := by decide +kernel
theorem dX8_faultAs_8 : decode cX8_faultAs 8 = .ok (.ireturn, 1) := by decide +kernel
theorem dX8_faultAs_9 : decode cX8_faultAs 9 = .ok (.aload_n 0, 1) := by decide +kernel
theorem dX8_faultAs_10 : decode cX8_faultAs 10 = .ok (.getfield 15, 3) := by decide +kernel
theorem dX8_faultAs_13 : decode cX8_faultAs 13 = .ok (.iload_n 1, 1) := by decide +kernel
theorem dX8_faultAs_14 : decode cX8_faultAs 14 = .ok (.if_icmp .ne 7, 3) := by decide +kernel
theorem dX8_faultAs_17 : decode cX8_faultAs 17 = .ok (.iconst 0, 1) := by decide +kernel
theorem dX8_faultAs_18 : decode cX8_faultAs 18 = .ok (.goto 4, 3) := by decide +kernel
theorem dX8_faultAs_21 : decode cX8_faultAs 21 = .ok (.iconst 2, 1) := by decide +kernel
theorem dX8_faultAs_22 : decode cX8_faultAs 22 = .ok (.ireturn, 1) := by decide +kernel
theorem dX8_hasCell_0 : decode cX8_hasCell 0 = .ok (.iload_n 1, 1) := by decide +kernel
theorem dX8_hasCell_1 : decode cX8_hasCell 1 = .ok (.ifCond .lt 15, 3) := by decide +kernel
theorem dX8_hasCell_4 : decode cX8_hasCell 4 = .ok (.iload_n 1, 1) := by decide +kernel
theorem dX8_hasCell_5 : decode cX8_hasCell 5 = .ok (.aload_n 0, 1) := by decide +kernel
theorem dX8_hasCell_6 : decode cX8_hasCell 6 = .ok (.getfield 19, 3) := by decide +kernel
theorem dX8_hasCell_9 : decode cX8_hasCell 9 = .ok (.if_icmp .ge 7, 3) := by decide +kernel
theorem dX8_hasCell_12 : decode cX8_hasCell 12 = .ok (.iconst 1, 1) := by decide +kernel
theorem dX8_hasCell_13 : decode cX8_hasCell 13 = .ok (.goto 4, 3) := by decide +kernel
theorem dX8_hasCell_16 : decode cX8_hasCell 16 = .ok (.iconst 0, 1) := by decide +kernel
theorem dX8_hasCell_17 : decode cX8_hasCell 17 = .ok (.ireturn, 1) := by decide +kernel
theorem dX8_hasCells_0 : decode cX8_hasCells 0 = .ok (.iload_n 1, 1) := by decide +kernel
theorem dX8_hasCells_1 : decode cX8_hasCells 1 = .ok (.ifCond .lt 27, 3) := by decide +kernel
theorem dX8_hasCells_4 : decode cX8_hasCells 4 = .ok (.iload_n 1, 1) := by decide +kernel
theorem dX8_hasCells_5 : decode cX8_hasCells 5 = .ok (.aload_n 0, 1) := by decide +kernel
theorem dX8_hasCells_6 : decode cX8_hasCells 6 = .ok (.getfield 19, 3) := by decide +kernel
theorem dX8_hasCells_9 : decode cX8_hasCells 9 = .ok (.if_icmp .gt 19, 3) := by decide +kernel
theorem dX8_hasCells_12 : decode cX8_hasCells 12 = .ok (.lload_n 2, 1) := by decide +kernel
theorem dX8_hasCells_13 : decode cX8_hasCells 13 = .ok (.aload_n 0, 1) := by decide +kernel
theorem dX8_hasCells_14 : decode cX8_hasCells 14 = .ok (.getfield 19, 3) := by decide +kernel
theorem dX8_hasCells_17 : decode cX8_hasCells 17 = .ok (.iload_n 1, 1) := by decide +kernel
theorem dX8_hasCells_18 : decode cX8_hasCells 18 = .ok (.isub, 1) := by decide +kernel
theorem dX8_hasCells_19 : decode cX8_hasCells 19 = .ok (.i2l, 1) := by decide +kernel
theorem dX8_hasCells_20 : decode cX8_hasCells 20 = .ok (.lcmp, 1) := by decide +kernel
theorem dX8_hasCells_21 : decode cX8_hasCells 21 = .ok (.ifCond .gt 7, 3) := by decide +kernel
theorem dX8_hasCells_24 : decode cX8_hasCells 24 = .ok (.iconst 1, 1) := by decide +kernel
theorem dX8_hasCells_25 : decode cX8_hasCells 25 = .ok (.goto 4, 3) := by decide +kernel
theorem dX8_hasCells_28 : decode cX8_hasCells 28 = .ok (.iconst 0, 1) := by decide +kernel
theorem dX8_hasCells_29 : decode cX8_hasCells 29 = .ok (.ireturn, 1) := by decide +kernel
theorem dX8_write_0 : decode cX8_write 0 = .ok (.aload_n 0, 1) := by decide +kernel
theorem dX8_write_1 : decode cX8_write 1 = .ok (.getfield 15, 3) := by decide +kernel
theorem dX8_write_4 : decode cX8_write 4 = .ok (.ifCond .ne 14, 3) := by decide +kernel
theorem dX8_write_7 : decode cX8_write 7 = .ok (.aload_n 0, 1) := by decide +kernel
theorem dX8_write_8 : decode cX8_write 8 = .ok (.getfield 9, 3) := by decide +kernel
theorem dX8_write_11 : decode cX8_write 11 = .ok (.iload_n 1, 1) := by decide +kernel
theorem dX8_write_12 : decode cX8_write 12 = .ok (.iload_n 2, 1) := by decide +kernel
theorem dX8_write_13 : decode cX8_write 13 = .ok (.i2b, 1) := by decide +kernel
theorem dX8_write_14 : decode cX8_write 14 = .ok (.iastore, 1) := by decide +kernel
theorem dX8_write_15 : decode cX8_write 15 = .ok (.goto 29, 3) := by decide +kernel
theorem dX8_write_18 : decode cX8_write 18 = .ok (.aload_n 0, 1) := by decide +kernel
theorem dX8_write_19 : decode cX8_write 19 = .ok (.getfield 15, 3) := by decide +kernel
theorem dX8_write_22 : decode cX8_write 22 = .ok (.iconst 1, 1) := by decide +kernel
theorem dX8_write_23 : decode cX8_write 23 = .ok (.if_icmp .ne 14, 3) := by decide +kernel
theorem dX8_write_26 : decode cX8_write 26 = .ok (.aload_n 0, 1) := by decide +kernel
theorem dX8_write_27 : decode cX8_write 27 = .ok (.getfield 9, 3) := by decide +kernel
theorem dX8_write_30 : decode cX8_write 30 = .ok (.iload_n 1, 1) := by decide +kernel
theorem dX8_write_31 : decode cX8_write 31 = .ok (.iload_n 2, 1) := by decide +kernel
theorem dX8_write_32 : decode cX8_write 32 = .ok (.i2s, 1) := by decide +kernel
theorem dX8_write_33 : decode cX8_write 33 = .ok (.iastore, 1) := by decide +kernel
theorem dX8_write_34 : decode cX8_write 34 = .ok (.goto 10, 3) := by decide +kernel
theorem dX8_write_37 : decode cX8_write 37 = .ok (.aload_n 0, 1) := by decide +kernel
theorem dX8_write_38 : decode cX8_write 38 = .ok (.getfield 9, 3) := by decide +kernel
theorem dX8_write_41 : decode cX8_write 41 = .ok (.iload_n 1, 1) := by decide +kernel
theorem dX8_write_42 : decode cX8_write 42 = .ok (.iload_n 2, 1) := by decide +kernel
theorem dX8_write_43 : decode cX8_write 43 = .ok (.iastore, 1) := by decide +kernel
theorem dX8_write_44 : decode cX8_write 44 = .ok (.return_, 1) := by decide +kernel
theorem dX8_bitsWhere_0 : decode cX8_bitsWhere 0 = .ok (.lconst 0, 1) := by decide +kernel
theorem dX8_bitsWhere_1 : decode cX8_bitsWhere 1 = .ok (.lstore 4, 2) := by decide +kernel
theorem dX8_bitsWhere_3 : decode cX8_bitsWhere 3 = .ok (.iconst 0, 1) := by decide +kernel
theorem dX8_bitsWhere_4 : decode cX8_bitsWhere 4 = .ok (.istore 6, 2) := by decide +kernel
theorem dX8_bitsWhere_6 : decode cX8_bitsWhere 6 = .ok (.iload 6, 2) := by decide +kernel
theorem dX8_bitsWhere_8 : decode cX8_bitsWhere 8 = .ok (.iload_n 3, 1) := by decide +kernel
theorem dX8_bitsWhere_9 : decode cX8_bitsWhere 9 = .ok (.if_icmp .ge 31, 3) := by decide +kernel
theorem dX8_bitsWhere_12 : decode cX8_bitsWhere 12 = .ok (.aload_n 0, 1) := by decide +kernel
theorem dX8_bitsWhere_13 : decode cX8_bitsWhere 13 = .ok (.getfield 9, 3) := by decide +kernel
theorem dX8_bitsWhere_16 : decode cX8_bitsWhere 16 = .ok (.iload_n 2, 1) := by decide +kernel
theorem dX8_bitsWhere_17 : decode cX8_bitsWhere 17 = .ok (.iload 6, 2) := by decide +kernel
theorem dX8_bitsWhere_19 : decode cX8_bitsWhere 19 = .ok (.iadd, 1) := by decide +kernel
theorem dX8_bitsWhere_20 : decode cX8_bitsWhere 20 = .ok (.iaload, 1) := by decide +kernel
theorem dX8_bitsWhere_21 : decode cX8_bitsWhere 21 = .ok (.iload_n 1, 1) := by decide +kernel
theorem dX8_bitsWhere_22 : decode cX8_bitsWhere 22 = .ok (.if_icmp .ne 12, 3) := by decide +kernel
theorem dX8_bitsWhere_25 : decode cX8_bitsWhere 25 = .ok (.lload 4, 2) := by decide +kernel
theorem dX8_bitsWhere_27 : decode cX8_bitsWhere 27 = .ok (.lconst 1, 1) := by decide +kernel
theorem dX8_bitsWhere_28 : decode cX8_bitsWhere 28 = .ok (.iload 6, 2) := by decide +kernel
theorem dX8_bitsWhere_30 : decode cX8_bitsWhere 30 = .ok (.lshl, 1) := by decide +kernel
theorem dX8_bitsWhere_31 : decode cX8_bitsWhere 31 = .ok (.lor, 1) := by decide +kernel
theorem dX8_bitsWhere_32 : decode cX8_bitsWhere 32 = .ok (.lstore 4, 2) := by decide +kernel
theorem dX8_bitsWhere_34 : decode cX8_bitsWhere 34 = .ok (.iinc 6 1, 3) := by decide +kernel
theorem dX8_bitsWhere_37 : decode cX8_bitsWhere 37 = .ok (.goto (-31), 3) := by decide +kernel
theorem dX8_bitsWhere_40 : decode cX8_bitsWhere 40 = .ok (.lload 4, 2) := by decide +kernel
theorem dX8_bitsWhere_42 : decode cX8_bitsWhere 42 = .ok (.lreturn, 1) := by decide +kernel
theorem dX9_init_0 : decode cX9_init 0 = .ok (.aload_n 0, 1) := by decide +kernel
theorem dX9_init_1 : decode cX9_init 1 = .ok (.invokespecial 3, 3) := by decide +kernel
theorem dX9_init_4 : decode cX9_init 4 = .ok (.aload_n 0, 1) := by decide +kernel
theorem dX9_init_5 : decode cX9_init 5 = .ok (.bipush 24, 2) := by decide +kernel
theorem dX9_init_7 : decode cX9_init 7 = .ok (.newarray .int, 2) := by decide +kernel
theorem dX9_init_9 : decode cX9_init 9 = .ok (.putfield 9, 3) := by decide +kernel
theorem dX9_init_12 : decode cX9_init 12 = .ok (.aload_n 0, 1) := by decide +kernel
theorem dX9_init_13 : decode cX9_init 13 = .ok (.bipush 24, 2) := by decide +kernel
theorem dX9_init_15 : decode cX9_init 15 = .ok (.newarray .int, 2) := by decide +kernel
theorem dX9_init_17 : decode cX9_init 17 = .ok (.putfield 15, 3) := by decide +kernel
theorem dX9_init_20 : decode cX9_init 20 = .ok (.aload_n 0, 1) := by decide +kernel
theorem dX9_init_21 : decode cX9_init 21 = .ok (.iconst 0, 1) := by decide +kernel
theorem dX9_init_22 : decode cX9_init 22 = .ok (.putfield 18, 3) := by decide +kernel
theorem dX9_init_25 : decode cX9_init 25 = .ok (.aload_n 0, 1) := by decide +kernel
theorem dX9_init_26 : decode cX9_init 26 = .ok (.iconst 0, 1) := by decide +kernel
theorem dX9_init_27 : decode cX9_init 27 = .ok (.putfield 22, 3) := by decide +kernel
theorem dX9_init_30 : decode cX9_init 30 = .ok (.return_, 1) := by decide +kernel
theorem dX9_chordIn_0 : decode cX9_chordIn 0 = .ok (.aload_n 0, 1) := by decide +kernel
theorem dX9_chordIn_1 : decode cX9_chordIn 1 = .ok (.getfield 9, 3) := by decide +kernel
theorem dX9_chordIn_4 : decode cX9_chordIn 4 = .ok (.iload_n 2, 1) := by decide +kernel
theorem dX9_chordIn_5 : decode cX9_chordIn 5 = .ok (.iaload, 1) := by decide +kernel
theorem dX9_chordIn_6 : decode cX9_chordIn 6 = .ok (.bipush 12, 2) := by decide +kernel
theorem dX9_chordIn_8 : decode cX9_chordIn 8 = .ok (.irem, 1) := by decide +kernel
theorem dX9_chordIn_9 : decode cX9_chordIn 9 = .ok (.istore_n 3, 1) := by decide +kernel
theorem dX9_chordIn_10 : decode cX9_chordIn 10 = .ok (.aload_n 0, 1) := by decide +kernel
theorem dX9_chordIn_11 : decode cX9_chordIn 11 = .ok (.getfield 9, 3) := by decide +kernel
theorem dX9_chordIn_14 : decode cX9_chordIn 14 = .ok (.iload_n 2, 1) := by decide +kernel
theorem dX9_chordIn_15 : decode cX9_chordIn 15 = .ok (.iaload, 1) := by decide +kernel
theorem dX9_chordIn_16 : decode cX9_chordIn 16 = .ok (.iload_n 3, 1) := by decide +kernel
theorem dX9_chordIn_17 : decode cX9_chordIn 17 = .ok (.isub, 1) := by decide +kernel
theorem dX9_chordIn_18 : decode cX9_chordIn 18 = .ok (.iload_n 3, 1) := by decide +kernel
theorem dX9_chordIn_19 : decode cX9_chordIn 19 = .ok (.iload_n 1, 1) := by decide +kernel
theorem dX9_chordIn_20 : decode cX9_chordIn 20 = .ok (.iadd, 1) := by decide +kernel
theorem dX9_chordIn_21 : decode cX9_chordIn 21 = .ok (.bipush 12, 2) := by decide +kernel
theorem dX9_chordIn_23 : decode cX9_chordIn 23 = .ok (.invokestatic 25, 3) := by decide +kernel
theorem dX9_chordIn_26 : decode cX9_chordIn 26 = .ok (.iadd, 1) := by decide +kernel
theorem dX9_chordIn_27 : decode cX9_chordIn 27 = .ok (.ireturn, 1) := by decide +kernel
theorem dX9_hasNote_0 : decode cX9_hasNote 0 = .ok (.aload_n 0, 1) := by decide +kernel
theorem dX9_hasNote_1 : decode cX9_hasNote 1 = .ok (.getfield 15, 3) := by decide +kernel
theorem dX9_hasNote_4 : decode cX9_hasNote 4 = .ok (.iload_n 1, 1) := by decide +kernel
theorem dX9_hasNote_5 : decode cX9_hasNote 5 = .ok (.iaload, 1) := by decide +kernel
theorem dX9_hasNote_6 : decode cX9_hasNote 6 = .ok (.iconst (-1), 1) := by decide +kernel
theorem dX9_hasNote_7 : decode cX9_hasNote 7 = .ok (.if_icmp .eq 7, 3) := by decide +kernel
theorem dX9_hasNote_10 : decode cX9_hasNote 10 = .ok (.iconst 1, 1) := by decide +kernel
theorem dX9_hasNote_11 : decode cX9_hasNote 11 = .ok (.goto 4, 3) := by decide +kernel
theorem dX9_hasNote_14 : decode cX9_hasNote 14 = .ok (.iconst 0, 1) := by decide +kernel
theorem dX9_hasNote_15 : decode cX9_hasNote 15 = .ok (.ireturn, 1) := by decide +kernel
theorem dX9_noteIn_0 : decode cX9_noteIn 0 = .ok (.aload_n 0, 1) := by decide +kernel
theorem dX9_noteIn_1 : decode cX9_noteIn 1 = .ok (.getfield 15, 3) := by decide +kernel
theorem dX9_noteIn_4 : decode cX9_noteIn 4 = .ok (.iload_n 2, 1) := by decide +kernel
theorem dX9_noteIn_5 : decode cX9_noteIn 5 = .ok (.iaload, 1) := by decide +kernel
theorem dX9_noteIn_6 : decode cX9_noteIn 6 = .ok (.iload_n 1, 1) := by decide +kernel
theorem dX9_noteIn_7 : decode cX9_noteIn 7 = .ok (.iadd, 1) := by decide +kernel
theorem dX9_noteIn_8 : decode cX9_noteIn 8 = .ok (.ireturn, 1) := by decide +kernel
theorem dX10_init_0 : decode cX10_init 0 = .ok (.aload_n 0, 1) := by decide +kernel
theorem dX10_init_1 : decode cX10_init 1 = .ok (.invokespecial 3, 3) := by decide +kernel
theorem dX10_init_4 : decode cX10_init 4 = .ok (.aload_n 0, 1) := by decide +kernel
theorem dX10_init_5 : decode cX10_init 5 = .ok (.bipush 36, 2) := by decide +kernel
theorem dX10_init_7 : decode cX10_init 7 = .ok (.newarray .int, 2) := by decide +kernel
theorem dX10_init_9 : decode cX10_init 9 = .ok (.putfield 9, 3) := by decide +kernel
theorem dX10_init_12 : decode cX10_init 12 = .ok (.aload_n 0, 1) := by decide +kernel
theorem dX10_init_13 : decode cX10_init 13 = .ok (.bipush 12, 2) := by decide +kernel
theorem dX10_init_15 : decode cX10_init 15 = .ok (.newarray .long, 2) := by decide +kernel
theorem dX10_init_17 : decode cX10_init 17 = .ok (.putfield 15, 3) := by decide +kernel
theorem dX10_init_20 : decode cX10_init 20 = .ok (.aload_n 0, 1) := by decide +kernel
theorem dX10_init_21 : decode cX10_init 21 = .ok (.bipush 61, 2) := by decide +kernel
theorem dX10_init_23 : decode cX10_init 23 = .ok (.newarray .long, 2) := by decide +kernel
theorem dX10_init_25 : decode cX10_init 25 = .ok (.putfield 19, 3) := by decide +kernel
theorem dX10_init_28 : decode cX10_init 28 = .ok (.aload_n 0, 1) := by decide +kernel
theorem dX10_init_29 : decode cX10_init 29 = .ok (.lconst 0, 1) := by decide +kernel
theorem dX10_init_30 : decode cX10_init 30 = .ok (.putfield 22, 3) := by decide +kernel
theorem dX10_init_33 : decode cX10_init 33 = .ok (.aload_n 0, 1) := by decide +kernel
theorem dX10_init_34 : decode cX10_init 34 = .ok (.iconst 0, 1) := by decide +kernel
theorem dX10_init_35 : decode cX10_init 35 = .ok (.putfield 26, 3) := by decide +kernel
theorem dX10_init_38 : decode cX10_init 38 = .ok (.return_, 1) := by decide +kernel
theorem dX10_knows_0 : decode cX10_knows 0 = .ok (.iload_n 1, 1) := by decide +kernel
theorem dX10_knows_1 : decode cX10_knows 1 = .ok (.ifCond .lt 15, 3) := by decide +kernel
theorem dX10_knows_4 : decode cX10_knows 4 = .ok (.iload_n 1, 1) := by decide +kernel
theorem dX10_knows_5 : decode cX10_knows 5 = .ok (.aload_n 0, 1) := by decide +kernel
theorem dX10_knows_6 : decode cX10_knows 6 = .ok (.getfield 26, 3) := by decide +kernel
theorem dX10_knows_9 : decode cX10_knows 9 = .ok (.if_icmp .ge 7, 3) := by decide +kernel
theorem dX10_knows_12 : decode cX10_knows 12 = .ok (.iconst 1, 1) := by decide +kernel
theorem dX10_knows_13 : decode cX10_knows 13 = .ok (.goto 4, 3) := by decide +kernel
theorem dX10_knows_16 : decode cX10_knows 16 = .ok (.iconst 0, 1) := by decide +kernel
theorem dX10_knows_17 : decode cX10_knows 17 = .ok (.ireturn, 1) := by decide +kernel
theorem dX10_isFull_0 : decode cX10_isFull 0 = .ok (.aload_n 0, 1) := by decide +kernel
theorem dX10_isFull_1 : decode cX10_isFull 1 = .ok (.getfield 26, 3) := by decide +kernel
theorem dX10_isFull_4 : decode cX10_isFull 4 = .ok (.bipush 36, 2) := by decide +kernel
theorem dX10_isFull_6 : decode cX10_isFull 6 = .ok (.if_icmp .lt 7, 3) := by decide +kernel
theorem dX10_isFull_9 : decode cX10_isFull 9 = .ok (.iconst 1, 1) := by decide +kernel
theorem dX10_isFull_10 : decode cX10_isFull 10 = .ok (.goto 4, 3) := by decide +kernel
theorem dX10_isFull_13 : decode cX10_isFull 13 = .ok (.iconst 0, 1) := by decide +kernel
theorem dX10_isFull_14 : decode cX10_isFull 14 = .ok (.ireturn, 1) := by decide +kernel
theorem dX10_isFree_0 : decode cX10_isFree 0 = .ok (.aload_n 0, 1) := by decide +kernel
theorem dX10_isFree_1 : decode cX10_isFree 1 = .ok (.getfield 22, 3) := by decide +kernel
theorem dX10_isFree_4 : decode cX10_isFree 4 = .ok (.iload_n 1, 1) := by decide +kernel
theorem dX10_isFree_5 : decode cX10_isFree 5 = .ok (.invokestatic 30, 3) := by decide +kernel
theorem dX10_isFree_8 : decode cX10_isFree 8 = .ok (.ireturn, 1) := by decide +kernel
theorem dX10_all_0 : decode cX10_all 0 = .ok (.lconst 1, 1) := by decide +kernel
theorem dX10_all_1 : decode cX10_all 1 = .ok (.aload_n 0, 1) := by decide +kernel
theorem dX10_all_2 : decode cX10_all 2 = .ok (.getfield 26, 3) := by decide +kernel
theorem dX10_all_5 : decode cX10_all 5 = .ok (.lshl, 1) := by decide +kernel
theorem dX10_all_6 : decode cX10_all 6 = .ok (.lconst 1, 1) := by decide +kernel
theorem dX10_all_7 : decode cX10_all 7 = .ok (.lsub, 1) := by decide +kernel
theorem dX10_all_8 : decode cX10_all 8 = .ok (.lreturn, 1) := by decide +kernel
theorem dX10_add_0 : decode cX10_add 0 = .ok (.aload_n 0, 1) := by decide +kernel
theorem dX10_add_1 : decode cX10_add 1 = .ok (.getfield 26, 3) := by decide +kernel
theorem dX10_add_4 : decode cX10_add 4 = .ok (.istore_n 3, 1) := by decide +kernel
theorem dX10_add_5 : decode cX10_add 5 = .ok (.aload_n 0, 1) := by decide +kernel
theorem dX10_add_6 : decode cX10_add 6 = .ok (.dup, 1) := by decide +kernel
theorem dX10_add_7 : decode cX10_add 7 = .ok (.getfield 26, 3) := by decide +kernel
theorem dX10_add_10 : decode cX10_add 10 = .ok (.iconst 1, 1) := by decide +kernel
theorem dX10_add_11 : decode cX10_add 11 = .ok (.iadd, 1) := by decide +kernel
theorem dX10_add_12 : decode cX10_add 12 = .ok (.putfield 26, 3) := by decide +kernel
theorem dX10_add_15 : decode cX10_add 15 = .ok (.aload_n 0, 1) := by decide +kernel
theorem dX10_add_16 : decode cX10_add 16 = .ok (.getfield 9, 3) := by decide +kernel
theorem dX10_add_19 : decode cX10_add 19 = .ok (.iload_n 3, 1) := by decide +kernel
theorem dX10_add_20 : decode cX10_add 20 = .ok (.iload_n 1, 1) := by decide +kernel
theorem dX10_add_21 : decode cX10_add 21 = .ok (.iastore, 1) := by decide +kernel
theorem dX10_add_22 : decode cX10_add 22 = .ok (.iload_n 2, 1) := by decide +kernel
theorem dX10_add_23 : decode cX10_add 23 = .ok (.ifCond .eq 15, 3) := by decide +kernel
theorem dX10_add_26 : decode cX10_add 26 = .ok (.aload_n 0, 1) := by decide +kernel
theorem dX10_add_27 : decode cX10_add 27 = .ok (.dup, 1) := by decide +kernel
theorem dX10_add_28 : decode cX10_add 28 = .ok (.getfield 22, 3) := by decide +kernel
theorem dX10_add_31 : decode cX10_add 31 = .ok (.lconst 1, 1) := by decide +kernel
theorem dX10_add_32 : decode cX10_add 32 = .ok (.iload_n 3, 1) := by decide +kernel
theorem dX10_add_33 : decode cX10_add 33 = .ok (.lshl, 1) := by decide +kernel
theorem dX10_add_34 : decode cX10_add 34 = .ok (.lor, 1) := by decide +kernel
theorem dX10_add_35 : decode cX10_add 35 = .ok (.putfield 22, 3) := by decide +kernel
theorem dX10_add_38 : decode cX10_add 38 = .ok (.aload_n 0, 1) := by decide +kernel
theorem dX10_add_39 : decode cX10_add 39 = .ok (.iload_n 3, 1) := by decide +kernel
theorem dX10_add_40 : decode cX10_add 40 = .ok (.invokevirtual 34, 3) := by decide +kernel
theorem dX10_add_43 : decode cX10_add 43 = .ok (.iload_n 3, 1) := by decide +kernel
theorem dX10_add_44 : decode cX10_add 44 = .ok (.ireturn, 1) := by decide +kernel
theorem dX10_retune_0 : decode cX10_retune 0 = .ok (.aload_n 0, 1) := by decide +kernel
theorem dX10_retune_1 : decode cX10_retune 1 = .ok (.iload_n 1, 1) := by decide +kernel
theorem dX10_retune_2 : decode cX10_retune 2 = .ok (.invokevirtual 34, 3) := by decide +kernel
theorem dX10_retune_5 : decode cX10_retune 5 = .ok (.aload_n 0, 1) := by decide +kernel
theorem dX10_retune_6 : decode cX10_retune 6 = .ok (.getfield 9, 3) := by decide +kernel
theorem dX10_retune_9 : decode cX10_retune 9 = .ok (.iload_n 1, 1) := by decide +kernel
theorem dX10_retune_10 : decode cX10_retune 10 = .ok (.iload_n 2, 1) := by decide +kernel
theorem dX10_retune_11 : decode cX10_retune 11 = .ok (.iastore, 1) := by decide +kernel
theorem dX10_retune_12 : decode cX10_retune 12 = .ok (.aload_n 0, 1) := by decide +kernel
theorem dX10_retune_13 : decode cX10_retune 13 = .ok (.iload_n 1, 1) := by decide +kernel
theorem dX10_retune_14 : decode cX10_retune 14 = .ok (.invokevirtual 34, 3) := by decide +kernel
theorem dX10_retune_17 : decode cX10_retune 17 = .ok (.return_, 1) := by decide +kernel
theorem dX10_turnBits_0 : decode cX10_turnBits 0 = .ok (.aload_n 0, 1) := by decide +kernel
theorem dX10_turnBits_1 : decode cX10_turnBits 1 = .ok (.getfield 19, 3) := by decide +kernel
theorem dX10_turnBits_4 : decode cX10_turnBits 4 = .ok (.aload_n 0, 1) := by decide +kernel
theorem dX10_turnBits_5 : decode cX10_turnBits 5 = .ok (.getfield 9, 3) := by decide +kernel
theorem dX10_turnBits_8 : decode cX10_turnBits 8 = .ok (.iload_n 1, 1) := by decide +kernel
theorem dX10_turnBits_9 : decode cX10_turnBits 9 = .ok (.iaload, 1) := by decide +kernel
theorem dX10_turnBits_10 : decode cX10_turnBits 10 = .ok (.dup2, 1) := by decide +kernel
theorem dX10_turnBits_11 : decode cX10_turnBits 11 = .ok (.laload, 1) := by decide +kernel
theorem dX10_turnBits_12 : decode cX10_turnBits 12 = .ok (.lconst 1, 1) := by decide +kernel
theorem dX10_turnBits_13 : decode cX10_turnBits 13 = .ok (.iload_n 1, 1) := by decide +kernel
theorem dX10_turnBits_14 : decode cX10_turnBits 14 = .ok (.lshl, 1) := by decide +kernel
theorem dX10_turnBits_15 : decode cX10_turnBits 15 = .ok (.lxor, 1) := by decide +kernel
theorem dX10_turnBits_16 : decode cX10_turnBits 16 = .ok (.lastore, 1) := by decide +kernel
theorem dX10_turnBits_17 : decode cX10_turnBits 17 = .ok (.aload_n 0, 1) := by decide +kernel
theorem dX10_turnBits_18 : decode cX10_turnBits 18 = .ok (.iload_n 1, 1) := by decide +kernel
theorem dX10_turnBits_19 : decode cX10_turnBits 19 = .ok (.invokevirtual 38, 3) := by decide +kernel
theorem dX10_turnBits_22 : decode cX10_turnBits 22 = .ok (.ifCond .ne 23, 3) := by decide +kernel
theorem dX10_turnBits_25 : decode cX10_turnBits 25 = .ok (.aload_n 0, 1) := by decide +kernel
theorem dX10_turnBits_26 : decode cX10_turnBits 26 = .ok (.getfield 15, 3) := by decide +kernel
theorem dX10_turnBits_29 : decode cX10_turnBits 29 = .ok (.aload_n 0, 1) := by decide +kernel
theorem dX10_turnBits_30 : decode cX10_turnBits 30 = .ok (.getfield 9, 3) := by decide +kernel
theorem dX10_turnBits_33 : decode cX10_turnBits 33 = .ok (.iload_n 1, 1) := by decide +kernel
theorem dX10_turnBits_34 : decode cX10_turnBits 34 = .ok (.iaload, 1) := by decide +kernel
theorem dX10_turnBits_35 : decode cX10_turnBits 35 = .ok (.bipush 12, 2) := by decide +kernel
theorem dX10_turnBits_37 : decode cX10_turnBits 37 = .ok (.irem, 1) := by decide +kernel
theorem dX10_turnBits_38 : decode cX10_turnBits 38 = .ok (.dup2, 1) := by decide +kernel
theorem dX10_turnBits_39 : decode cX10_turnBits 39 = .ok (.laload, 1) := by decide +kernel
theorem dX10_turnBits_40 : decode cX10_turnBits 40 = .ok (.lconst 1, 1) := by decide +kernel
theorem dX10_turnBits_41 : decode cX10_turnBits 41 = .ok (.iload_n 1, 1) := by decide +kernel
theorem dX10_turnBits_42 : decode cX10_turnBits 42 = .ok (.lshl, 1) := by decide +kernel
theorem dX10_turnBits_43 : decode cX10_turnBits 43 = .ok (.lxor, 1) := by decide +kernel
theorem dX10_turnBits_44 : decode cX10_turnBits 44 = .ok (.lastore, 1) := by decide +kernel
theorem dX10_turnBits_45 : decode cX10_turnBits 45 = .ok (.return_, 1) := by decide +kernel
theorem dX10_classesAmong_0 : decode cX10_classesAmong 0 = .ok (.iconst 0, 1) := by decide +kernel
theorem dX10_classesAmong_1 : decode cX10_classesAmong 1 = .ok (.istore_n 3, 1) := by decide +kernel
theorem dX10_classesAmong_2 : decode cX10_classesAmong 2 = .ok (.iconst 0, 1) := by decide +kernel
theorem dX10_classesAmong_3 : decode cX10_classesAmong 3 = .ok (.istore 4, 2) := by decide +kernel
theorem dX10_classesAmong_5 : decode cX10_classesAmong 5 = .ok (.iload 4, 2) := by decide +kernel
theorem dX10_classesAmong_7 : decode cX10_classesAmong 7 = .ok (.bipush 12, 2) := by decide +kernel
theorem dX10_classesAmong_9 : decode cX10_classesAmong 9 = .ok (.if_icmp .ge 30, 3) := by decide +kernel
theorem dX10_classesAmong_12 : decode cX10_classesAmong 12 = .ok (.aload_n 0, 1) := by decide +kernel
theorem dX10_classesAmong_13 : decode cX10_classesAmong 13 = .ok (.getfield 15, 3) := by decide +kernel
theorem dX10_classesAmong_16 : decode cX10_classesAmong 16 = .ok (.iload 4, 2) := by decide +kernel
theorem dX10_classesAmong_18 : decode cX10_classesAmong 18 = .ok (.laload, 1) := by decide +kernel
theorem dX10_classesAmong_19 : decode cX10_classesAmong 19 = .ok (.lload_n 1, 1) := by decide +kernel
theorem dX10_classesAmong_20 : decode cX10_classesAmong 20 = .ok (.land, 1) := by decide +kernel
theorem dX10_classesAmong_21 : decode cX10_classesAmong 21 = .ok (.lconst 0, 1) := by decide +kernel
theorem dX10_classesAmong_22 : decode cX10_classesAmong 22 = .ok (.lcmp, 1) := by decide +kernel
theorem dX10_classesAmong_23 : decode cX10_classesAmong 23 = .ok (.ifCond .eq 10, 3) := by decide +kernel
theorem dX10_classesAmong_26 : decode cX10_classesAmong 26 = .ok (.iload_n 3, 1) := by decide +kernel
theorem dX10_classesAmong_27 : decode cX10_classesAmong 27 = .ok (.iconst 1, 1) := by decide +kernel
theorem dX10_classesAmong_28 : decode cX10_classesAmong 28 = .ok (.iload 4, 2) := by decide +kernel
theorem dX10_classesAmong_30 : decode cX10_classesAmong 30 = .ok (.ishl, 1) := by decide +kernel
theorem dX10_classesAmong_31 : decode cX10_classesAmong 31 = .ok (.ior, 1) := by decide +kernel
theorem dX10_classesAmong_32 : decode cX10_classesAmong 32 = .ok (.istore_n 3, 1) := by decide +kernel
theorem dX10_classesAmong_33 : decode cX10_classesAmong 33 = .ok (.iinc 4 1, 3) := by decide +kernel
theorem dX10_classesAmong_36 : decode cX10_classesAmong 36 = .ok (.goto (-31), 3) := by decide +kernel
theorem dX10_classesAmong_39 : decode cX10_classesAmong 39 = .ok (.iload_n 3, 1) := by decide +kernel
theorem dX10_classesAmong_40 : decode cX10_classesAmong 40 = .ok (.ireturn, 1) := by decide +kernel
theorem dX10_notOfClasses_0 : decode cX10_notOfClasses 0 = .ok (.lconst 0, 1) := by decide +kernel
theorem dX10_notOfClasses_1 : decode cX10_notOfClasses 1 = .ok (.lstore_n 2, 1) := by decide +kernel
theorem dX10_notOfClasses_2 : decode cX10_notOfClasses 2 = .ok (.iconst 0, 1) := by decide +kernel
theorem dX10_notOfClasses_3 : decode cX10_notOfClasses 3 = .ok (.istore 4, 2) := by decide +kernel
theorem dX10_notOfClasses_5 : decode cX10_notOfClasses 5 = .ok (.iload 4, 2) := by decide +kernel
theorem dX10_notOfClasses_7 : decode cX10_notOfClasses 7 = .ok (.bipush 12, 2) := by decide +kernel
theorem dX10_notOfClasses_9 : decode cX10_notOfClasses 9 = .ok (.if_icmp .ge 29, 3) := by decide +kernel
theorem dX10_notOfClasses_12 : decode cX10_notOfClasses 12 = .ok (.iload_n 1, 1) := by decide +kernel
theorem dX10_notOfClasses_13 : decode cX10_notOfClasses 13 = .ok (.i2l, 1) := by decide +kernel
theorem dX10_notOfClasses_14 : decode cX10_notOfClasses 14 = .ok (.iload 4, 2) := by decide +kernel
theorem dX10_notOfClasses_16 : decode cX10_notOfClasses 16 = .ok (.invokestatic 30, 3) := by decide +kernel
theorem dX10_notOfClasses_19 : decode cX10_notOfClasses 19 = .ok (.ifCond .ne 13, 3) := by decide +kernel
theorem dX10_notOfClasses_22 : decode cX10_notOfClasses 22 = .ok (.lload_n 2, 1) := by decide +kernel
theorem dX10_notOfClasses_23 : decode cX10_notOfClasses 23 = .ok (.aload_n 0, 1) := by decide +kernel
theorem dX10_notOfClasses_24 : decode cX10_notOfClasses 24 = .ok (.getfield 15, 3) := by decide +kernel
theorem dX10_notOfClasses_27 : decode cX10_notOfClasses 27 = .ok (.iload 4, 2) := by decide +kernel
theorem dX10_notOfClasses_29 : decode cX10_notOfClasses 29 = .ok (.laload, 1) := by decide +kernel
theorem dX10_notOfClasses_30 : decode cX10_notOfClasses 30 = .ok (.lor, 1) := by decide +kernel
theorem dX10_notOfClasses_31 : decode cX10_notOfClasses 31 = .ok (.lstore_n 2, 1) := by decide +kernel
theorem dX10_notOfClasses_32 : decode cX10_notOfClasses 32 = .ok (.iinc 4 1, 3) := by decide +kernel
theorem dX10_notOfClasses_35 : decode cX10_notOfClasses 35 = .ok (.goto (-30), 3) := by decide +kernel
theorem dX10_notOfClasses_38 : decode cX10_notOfClasses 38 = .ok (.lload_n 2, 1) := by decide +kernel
theorem dX10_notOfClasses_39 : decode cX10_notOfClasses 39 = .ok (.lreturn, 1) := by decide +kernel
theorem dX10_tonesAmong_0 : decode cX10_tonesAmong 0 = .ok (.lconst 0, 1) := by decide +kernel
theorem dX10_tonesAmong_1 : decode cX10_tonesAmong 1 = .ok (.lstore_n 3, 1) := by decide +kernel
theorem dX10_tonesAmong_2 : decode cX10_tonesAmong 2 = .ok (.iconst 0, 1) := by decide +kernel
theorem dX10_tonesAmong_3 : decode cX10_tonesAmong 3 = .ok (.istore 5, 2) := by decide +kernel
theorem dX10_tonesAmong_5 : decode cX10_tonesAmong 5 = .ok (.iload 5, 2) := by decide +kernel
theorem dX10_tonesAmong_7 : decode cX10_tonesAmong 7 = .ok (.bipush 61, 2) := by decide +kernel
theorem dX10_tonesAmong_9 : decode cX10_tonesAmong 9 = .ok (.if_icmp .ge 30, 3) := by decide +kernel
theorem dX10_tonesAmong_12 : decode cX10_tonesAmong 12 = .ok (.aload_n 0, 1) := by decide +kernel
theorem dX10_tonesAmong_13 : decode cX10_tonesAmong 13 = .ok (.getfield 19, 3) := by decide +kernel
theorem dX10_tonesAmong_16 : decode cX10_tonesAmong 16 = .ok (.iload 5, 2) := by decide +kernel
theorem dX10_tonesAmong_18 : decode cX10_tonesAmong 18 = .ok (.laload, 1) := by decide +kernel
theorem dX10_tonesAmong_19 : decode cX10_tonesAmong 19 = .ok (.lload_n 1, 1) := by decide +kernel
theorem dX10_tonesAmong_20 : decode cX10_tonesAmong 20 = .ok (.land, 1) := by decide +kernel
theorem dX10_tonesAmong_21 : decode cX10_tonesAmong 21 = .ok (.lconst 0, 1) := by decide +kernel
theorem dX10_tonesAmong_22 : decode cX10_tonesAmong 22 = .ok (.lcmp, 1) := by decide +kernel
theorem dX10_tonesAmong_23 : decode cX10_tonesAmong 23 = .ok (.ifCond .eq 10, 3) := by decide +kernel
theorem dX10_tonesAmong_26 : decode cX10_tonesAmong 26 = .ok (.lload_n 3, 1) := by decide +kernel
theorem dX10_tonesAmong_27 : decode cX10_tonesAmong 27 = .ok (.lconst 1, 1) := by decide +kernel
theorem dX10_tonesAmong_28 : decode cX10_tonesAmong 28 = .ok (.iload 5, 2) := by decide +kernel
theorem dX10_tonesAmong_30 : decode cX10_tonesAmong 30 = .ok (.lshl, 1) := by decide +kernel
theorem dX10_tonesAmong_31 : decode cX10_tonesAmong 31 = .ok (.lor, 1) := by decide +kernel
theorem dX10_tonesAmong_32 : decode cX10_tonesAmong 32 = .ok (.lstore_n 3, 1) := by decide +kernel
theorem dX10_tonesAmong_33 : decode cX10_tonesAmong 33 = .ok (.iinc 5 1, 3) := by decide +kernel
theorem dX10_tonesAmong_36 : decode cX10_tonesAmong 36 = .ok (.goto (-31), 3) := by decide +kernel
theorem dX10_tonesAmong_39 : decode cX10_tonesAmong 39 = .ok (.lload_n 3, 1) := by decide +kernel
theorem dX10_tonesAmong_40 : decode cX10_tonesAmong 40 = .ok (.lreturn, 1) := by decide +kernel
theorem dX11_init_0 : decode cX11_init 0 = .ok (.aload_n 0, 1) := by decide +kernel
theorem dX11_init_1 : decode cX11_init 1 = .ok (.invokespecial 5, 3) := by decide +kernel
theorem dX11_init_4 : decode cX11_init 4 = .ok (.aload_n 0, 1) := by decide +kernel
theorem dX11_init_5 : decode cX11_init 5 = .ok (.new 11, 3) := by decide +kernel
theorem dX11_init_8 : decode cX11_init 8 = .ok (.dup, 1) := by decide +kernel
theorem dX11_init_9 : decode cX11_init 9 = .ok (.invokespecial 13, 3) := by decide +kernel
theorem dX11_init_12 : decode cX11_init 12 = .ok (.putfield 14, 3) := by decide +kernel
theorem dX11_init_15 : decode cX11_init 15 = .ok (.aload_n 0, 1) := by decide +kernel
theorem dX11_init_16 : decode cX11_init 16 = .ok (.new 18, 3) := by decide +kernel
theorem dX11_init_19 : decode cX11_init 19 = .ok (.dup, 1) := by decide +kernel
theorem dX11_init_20 : decode cX11_init 20 = .ok (.invokespecial 20, 3) := by decide +kernel
theorem dX11_init_23 : decode cX11_init 23 = .ok (.putfield 21, 3) := by decide +kernel
theorem dX11_init_26 : decode cX11_init 26 = .ok (.aload_n 0, 1) := by decide +kernel
theorem dX11_init_27 : decode cX11_init 27 = .ok (.new 25, 3) := by decide +kernel
theorem dX11_init_30 : decode cX11_init 30 = .ok (.dup, 1) := by decide +kernel
theorem dX11_init_31 : decode cX11_init 31 = .ok (.invokespecial 27, 3) := by decide +kernel
theorem dX11_init_34 : decode cX11_init 34 = .ok (.putfield 28, 3) := by decide +kernel
theorem dX11_init_37 : decode cX11_init 37 = .ok (.aload_n 0, 1) := by decide +kernel
theorem dX11_init_38 : decode cX11_init 38 = .ok (.new 32, 3) := by decide +kernel
theorem dX11_init_41 : decode cX11_init 41 = .ok (.dup, 1) := by decide +kernel
theorem dX11_init_42 : decode cX11_init 42 = .ok (.invokespecial 34, 3) := by decide +kernel
theorem dX11_init_45 : decode cX11_init 45 = .ok (.putfield 35, 3) := by decide +kernel
theorem dX11_init_48 : decode cX11_init 48 = .ok (.aload_n 0, 1) := by decide +kernel
theorem dX11_init_49 : decode cX11_init 49 = .ok (.new 39, 3) := by decide +kernel
theorem dX11_init_52 : decode cX11_init 52 = .ok (.dup, 1) := by decide +kernel
theorem dX11_init_53 : decode cX11_init 53 = .ok (.invokespecial 41, 3) := by decide +kernel
theorem dX11_init_56 : decode cX11_init 56 = .ok (.putfield 42, 3) := by decide +kernel
theorem dX11_init_59 : decode cX11_init 59 = .ok (.aload_n 0, 1) := by decide +kernel
theorem dX11_init_60 : decode cX11_init 60 = .ok (.new 46, 3) := by decide +kernel
theorem dX11_init_63 : decode cX11_init 63 = .ok (.dup, 1) := by decide +kernel
theorem dX11_init_64 : decode cX11_init 64 = .ok (.invokespecial 48, 3) := by decide +kernel
theorem dX11_init_67 : decode cX11_init 67 = .ok (.putfield 49, 3) := by decide +kernel
theorem dX11_init_70 : decode cX11_init 70 = .ok (.aload_n 0, 1) := by decide +kernel
theorem dX11_init_71 : decode cX11_init 71 = .ok (.new 53, 3) := by decide +kernel
theorem dX11_init_74 : decode cX11_init 74 = .ok (.dup, 1) := by decide +kernel
theorem dX11_init_75 : decode cX11_init 75 = .ok (.invokespecial 55, 3) := by decide +kernel
theorem dX11_init_78 : decode cX11_init 78 = .ok (.putfield 56, 3) := by decide +kernel
theorem dX11_init_81 : decode cX11_init 81 = .ok (.aload_n 0, 1) := by decide +kernel
theorem dX11_init_82 : decode cX11_init 82 = .ok (.new 60, 3) := by decide +kernel
theorem dX11_init_85 : decode cX11_init 85 = .ok (.dup, 1) := by decide +kernel
theorem dX11_init_86 : decode cX11_init 86 = .ok (.invokespecial 62, 3) := by decide +kernel
theorem dX11_init_89 : decode cX11_init 89 = .ok (.putfield 63, 3) := by decide +kernel
theorem dX11_init_92 : decode cX11_init 92 = .ok (.aload_n 0, 1) := by decide +kernel
theorem dX11_init_93 : decode cX11_init 93 = .ok (.iconst 4, 1) := by decide +kernel
theorem dX11_init_94 : decode cX11_init 94 = .ok (.anewarray 67, 3) := by decide +kernel
theorem dX11_init_97 : decode cX11_init 97 = .ok (.putfield 69, 3) := by decide +kernel
theorem dX11_init_100 : decode cX11_init 100 = .ok (.iconst 0, 1) := by decide +kernel
theorem dX11_init_101 : decode cX11_init 101 = .ok (.istore_n 1, 1) := by decide +kernel
theorem dX11_init_102 : decode cX11_init 102 = .ok (.iload_n 1, 1) := by decide +kernel
theorem dX11_init_103 : decode cX11_init 103 = .ok (.iconst 4, 1) := by decide +kernel
theorem dX11_init_104 : decode cX11_init 104 = .ok (.if_icmp .ge 22, 3) := by decide +kernel
theorem dX11_init_107 : decode cX11_init 107 = .ok (.aload_n 0, 1) := by decide +kernel
theorem dX11_init_108 : decode cX11_init 108 = .ok (.getfield 69, 3) := by decide +kernel
theorem dX11_init_111 : decode cX11_init 111 = .ok (.iload_n 1, 1) := by decide +kernel
theorem dX11_init_112 : decode cX11_init 112 = .ok (.new 67, 3) := by decide +kernel
theorem dX11_init_115 : decode cX11_init 115 = .ok (.dup, 1) := by decide +kernel
theorem dX11_init_116 : decode cX11_init 116 = .ok (.invokespecial 73, 3) := by decide +kernel
theorem dX11_init_119 : decode cX11_init 119 = .ok (.aastore, 1) := by decide +kernel
theorem dX11_init_120 : decode cX11_init 120 = .ok (.iinc 1 1, 3) := by decide +kernel
theorem dX11_init_123 : decode cX11_init 123 = .ok (.goto (-21), 3) := by decide +kernel
theorem dX11_init_126 : decode cX11_init 126 = .ok (.aload_n 0, 1) := by decide +kernel
theorem dX11_init_127 : decode cX11_init 127 = .ok (.iconst 0, 1) := by decide +kernel
theorem dX11_init_128 : decode cX11_init 128 = .ok (.putfield 74, 3) := by decide +kernel
theorem dX11_init_131 : decode cX11_init 131 = .ok (.aload_n 0, 1) := by decide +kernel
theorem dX11_init_132 : decode cX11_init 132 = .ok (.iconst 0, 1) := by decide +kernel
theorem dX11_init_133 : decode cX11_init 133 = .ok (.putfield 78, 3) := by decide +kernel
theorem dX11_init_136 : decode cX11_init 136 = .ok (.return_, 1) := by decide +kernel
theorem dX11_string_0 : decode cX11_string 0 = .ok (.iload_n 1, 1) := by decide +kernel
theorem dX11_string_1 : decode cX11_string 1 = .ok (.invokestatic 81, 3) := by decide +kernel
theorem dX11_string_4 : decode cX11_string 4 = .ok (.ifCond .ne 6, 3) := by decide +kernel
theorem dX11_string_7 : decode cX11_string 7 = .ok (.bipush (-2), 2) := by decide +kernel
theorem dX11_string_9 : decode cX11_string 9 = .ok (.ireturn, 1) := by decide +kernel
theorem dX11_string_10 : decode cX11_string 10 = .ok (.aload_n 0, 1) := by decide +kernel
theorem dX11_string_11 : decode cX11_string 11 = .ok (.getfield 14, 3) := by decide +kernel
theorem dX11_string_14 : decode cX11_string 14 = .ok (.invokevirtual 85, 3) := by decide +kernel
theorem dX11_string_17 : decode cX11_string 17 = .ok (.ifCond .eq 6, 3) := by decide +kernel
theorem dX11_string_20 : decode cX11_string 20 = .ok (.bipush (-4), 2) := by decide +kernel
theorem dX11_string_22 : decode cX11_string 22 = .ok (.ireturn, 1) := by decide +kernel
theorem dX11_string_23 : decode cX11_string 23 = .ok (.aload_n 0, 1) := by decide +kernel
theorem dX11_string_24 : decode cX11_string 24 = .ok (.getfield 14, 3) := by decide +kernel
theorem dX11_string_27 : decode cX11_string 27 = .ok (.iload_n 1, 1) := by decide +kernel
theorem dX11_string_28 : decode cX11_string 28 = .ok (.iload_n 2, 1) := by decide +kernel
theorem dX11_string_29 : decode cX11_string 29 = .ok (.invokevirtual 89, 3) := by decide +kernel
theorem dX11_string_32 : decode cX11_string 32 = .ok (.ireturn, 1) := by decide +kernel
theorem dX11_tune_0 : decode cX11_tune 0 = .ok (.aload_n 0, 1) := by decide +kernel
theorem dX11_tune_1 : decode cX11_tune 1 = .ok (.getfield 14, 3) := by decide +kernel
theorem dX11_tune_4 : decode cX11_tune 4 = .ok (.iload_n 1, 1) := by decide +kernel
theorem dX11_tune_5 : decode cX11_tune 5 = .ok (.invokevirtual 93, 3) := by decide +kernel
theorem dX11_tune_8 : decode cX11_tune 8 = .ok (.ifCond .ne 5, 3) := by decide +kernel
theorem dX11_tune_11 : decode cX11_tune 11 = .ok (.iconst (-1), 1) := by decide +kernel
theorem dX11_tune_12 : decode cX11_tune 12 = .ok (.ireturn, 1) := by decide +kernel
theorem dX11_tune_13 : decode cX11_tune 13 = .ok (.iload_n 2, 1) := by decide +kernel
theorem dX11_tune_14 : decode cX11_tune 14 = .ok (.invokestatic 81, 3) := by decide +kernel
theorem dX11_tune_17 : decode cX11_tune 17 = .ok (.ifCond .ne 6, 3) := by decide +kernel
theorem dX11_tune_20 : decode cX11_tune 20 = .ok (.bipush (-2), 2) := by decide +kernel
theorem dX11_tune_22 : decode cX11_tune 22 = .ok (.ireturn, 1) := by decide +kernel
theorem dX11_tune_23 : decode cX11_tune 23 = .ok (.aload_n 0, 1) := by decide +kernel
theorem dX11_tune_24 : decode cX11_tune 24 = .ok (.getfield 14, 3) := by decide +kernel
theorem dX11_tune_27 : decode cX11_tune 27 = .ok (.getfield 96, 3) := by decide +kernel
theorem dX11_tune_30 : decode cX11_tune 30 = .ok (.iload_n 1, 1) := by decide +kernel
theorem dX11_tune_31 : decode cX11_tune 31 = .ok (.iaload, 1) := by decide +kernel
theorem dX11_tune_32 : decode cX11_tune 32 = .ok (.istore_n 3, 1) := by decide +kernel
theorem dX11_tune_33 : decode cX11_tune 33 = .ok (.aload_n 0, 1) := by decide +kernel
theorem dX11_tune_34 : decode cX11_tune 34 = .ok (.getfield 14, 3) := by decide +kernel
theorem dX11_tune_37 : decode cX11_tune 37 = .ok (.iload_n 1, 1) := by decide +kernel
theorem dX11_tune_38 : decode cX11_tune 38 = .ok (.iload_n 2, 1) := by decide +kernel
theorem dX11_tune_39 : decode cX11_tune 39 = .ok (.invokevirtual 100, 3) := by decide +kernel
theorem dX11_tune_42 : decode cX11_tune 42 = .ok (.iload_n 3, 1) := by decide +kernel
theorem dX11_tune_43 : decode cX11_tune 43 = .ok (.ireturn, 1) := by decide +kernel
theorem dX11_bar_0 : decode cX11_bar 0 = .ok (.iload_n 1, 1) := by decide +kernel
theorem dX11_bar_1 : decode cX11_bar 1 = .ok (.invokestatic 104, 3) := by decide +kernel
theorem dX11_bar_4 : decode cX11_bar 4 = .ok (.ifCond .ne 6, 3) := by decide +kernel
theorem dX11_bar_7 : decode cX11_bar 7 = .ok (.bipush (-2), 2) := by decide +kernel
theorem dX11_bar_9 : decode cX11_bar 9 = .ok (.ireturn, 1) := by decide +kernel
theorem dX11_bar_10 : decode cX11_bar 10 = .ok (.aload_n 0, 1) := by decide +kernel
theorem dX11_bar_11 : decode cX11_bar 11 = .ok (.getfield 21, 3) := by decide +kernel
theorem dX11_bar_14 : decode cX11_bar 14 = .ok (.invokevirtual 107, 3) := by decide +kernel
theorem dX11_bar_17 : decode cX11_bar 17 = .ok (.ifCond .eq 6, 3) := by decide +kernel
theorem dX11_bar_20 : decode cX11_bar 20 = .ok (.bipush (-4), 2) := by decide +kernel
theorem dX11_bar_22 : decode cX11_bar 22 = .ok (.ireturn, 1) := by decide +kernel
theorem dX11_bar_23 : decode cX11_bar 23 = .ok (.aload_n 0, 1) := by decide +kernel
theorem dX11_bar_24 : decode cX11_bar 24 = .ok (.getfield 21, 3) := by decide +kernel
theorem dX11_bar_27 : decode cX11_bar 27 = .ok (.iload_n 1, 1) := by decide +kernel
theorem dX11_bar_28 : decode cX11_bar 28 = .ok (.aload_n 0, 1) := by decide +kernel
theorem dX11_bar_29 : decode cX11_bar 29 = .ok (.getfield 14, 3) := by decide +kernel
theorem dX11_bar_32 : decode cX11_bar 32 = .ok (.iload_n 1, 1) := by decide +kernel
theorem dX11_bar_33 : decode cX11_bar 33 = .ok (.invokestatic 108, 3) := by decide +kernel
theorem dX11_bar_36 : decode cX11_bar 36 = .ok (.invokevirtual 112, 3) := by decide +kernel
theorem dX11_bar_39 : decode cX11_bar 39 = .ok (.invokevirtual 116, 3) := by decide +kernel
theorem dX11_bar_42 : decode cX11_bar 42 = .ok (.ireturn, 1) := by decide +kernel
theorem dX11_blank_0 : decode cX11_blank 0 = .ok (.aload_n 0, 1) := by decide +kernel
theorem dX11_blank_1 : decode cX11_blank 1 = .ok (.getfield 21, 3) := by decide +kernel
theorem dX11_blank_4 : decode cX11_blank 4 = .ok (.invokevirtual 107, 3) := by decide +kernel
theorem dX11_blank_7 : decode cX11_blank 7 = .ok (.ifCond .eq 6, 3) := by decide +kernel
theorem dX11_blank_10 : decode cX11_blank 10 = .ok (.bipush (-4), 2) := by decide +kernel
theorem dX11_blank_12 : decode cX11_blank 12 = .ok (.ireturn, 1) := by decide +kernel
theorem dX11_blank_13 : decode cX11_blank 13 = .ok (.aload_n 0, 1) := by decide +kernel
theorem dX11_blank_14 : decode cX11_blank 14 = .ok (.getfield 21, 3) := by decide +kernel
theorem dX11_blank_17 : decode cX11_blank 17 = .ok (.bipush (-9), 2) := by decide +kernel
theorem dX11_blank_19 : decode cX11_blank 19 = .ok (.lconst 0, 1) := by decide +kernel
theorem dX11_blank_20 : decode cX11_blank 20 = .ok (.invokevirtual 116, 3) := by decide +kernel
theorem dX11_blank_23 : decode cX11_blank 23 = .ok (.ireturn, 1) := by decide +kernel
theorem dX11_felt_0 : decode cX11_felt 0 = .ok (.aload_n 0, 1) := by decide +kernel
theorem dX11_felt_1 : decode cX11_felt 1 = .ok (.getfield 21, 3) := by decide +kernel
theorem dX11_felt_4 : decode cX11_felt 4 = .ok (.iload_n 1, 1) := by decide +kernel
theorem dX11_felt_5 : decode cX11_felt 5 = .ok (.invokevirtual 119, 3) := by decide +kernel
theorem dX11_felt_8 : decode cX11_felt 8 = .ok (.ifCond .eq 14, 3) := by decide +kernel
theorem dX11_felt_11 : decode cX11_felt 11 = .ok (.aload_n 0, 1) := by decide +kernel
theorem dX11_felt_12 : decode cX11_felt 12 = .ok (.getfield 14, 3) := by decide +kernel
theorem dX11_felt_15 : decode cX11_felt 15 = .ok (.iload_n 2, 1) := by decide +kernel
theorem dX11_felt_16 : decode cX11_felt 16 = .ok (.invokevirtual 93, 3) := by decide +kernel
theorem dX11_felt_19 : decode cX11_felt 19 = .ok (.ifCond .ne 5, 3) := by decide +kernel
theorem dX11_felt_22 : decode cX11_felt 22 = .ok (.iconst (-1), 1) := by decide +kernel
theorem dX11_felt_23 : decode cX11_felt 23 = .ok (.ireturn, 1) := by decide +kernel
theorem dX11_felt_24 : decode cX11_felt 24 = .ok (.aload_n 0, 1) := by decide +kernel
theorem dX11_felt_25 : decode cX11_felt 25 = .ok (.getfield 14, 3) := by decide +kernel
theorem dX11_felt_28 : decode cX11_felt 28 = .ok (.iload_n 2, 1) := by decide +kernel
theorem dX11_felt_29 : decode cX11_felt 29 = .ok (.invokevirtual 120, 3) := by decide +kernel
theorem dX11_felt_32 : decode cX11_felt 32 = .ok (.ifCond .eq 6, 3) := by decide +kernel
theorem dX11_felt_35 : decode cX11_felt 35 = .ok (.bipush (-3), 2) := by decide +kernel
theorem dX11_felt_37 : decode cX11_felt 37 = .ok (.ireturn, 1) := by decide +kernel
theorem dX11_felt_38 : decode cX11_felt 38 = .ok (.aload_n 0, 1) := by decide +kernel
theorem dX11_felt_39 : decode cX11_felt 39 = .ok (.getfield 21, 3) := by decide +kernel
theorem dX11_felt_42 : decode cX11_felt 42 = .ok (.getfield 123, 3) := by decide +kernel
theorem dX11_felt_45 : decode cX11_felt 45 = .ok (.iload_n 1, 1) := by decide +kernel
theorem dX11_felt_46 : decode cX11_felt 46 = .ok (.aaload, 1) := by decide +kernel
theorem dX11_felt_47 : decode cX11_felt 47 = .ok (.iload_n 2, 1) := by decide +kernel
theorem dX11_felt_48 : decode cX11_felt 48 = .ok (.iload_n 3, 1) := by decide +kernel
theorem dX11_felt_49 : decode cX11_felt 49 = .ok (.invokevirtual 127, 3) := by decide +kernel
theorem dX11_felt_52 : decode cX11_felt 52 = .ok (.invokestatic 133, 3) := by decide +kernel
theorem dX11_felt_55 : decode cX11_felt 55 = .ok (.ireturn, 1) := by decide +kernel
theorem dX11_wear_0 : decode cX11_wear 0 = .ok (.aload_n 0, 1) := by decide +kernel
theorem dX11_wear_1 : decode cX11_wear 1 = .ok (.iload_n 1, 1) := by decide +kernel
theorem dX11_wear_2 : decode cX11_wear 2 = .ok (.iload_n 2, 1) := by decide +kernel
theorem dX11_wear_3 : decode cX11_wear 3 = .ok (.invokevirtual 137, 3) := by decide +kernel
theorem dX11_wear_6 : decode cX11_wear 6 = .ok (.ifCond .ne 5, 3) := by decide +kernel
theorem dX11_wear_9 : decode cX11_wear 9 = .ok (.iconst (-1), 1) := by decide +kernel
theorem dX11_wear_10 : decode cX11_wear 10 = .ok (.ireturn, 1) := by decide +kernel
theorem dX11_wear_11 : decode cX11_wear 11 = .ok (.aload_n 0, 1) := by decide +kernel
theorem dX11_wear_12 : decode cX11_wear 12 = .ok (.getfield 21, 3) := by decide +kernel
theorem dX11_wear_15 : decode cX11_wear 15 = .ok (.getfield 123, 3) := by decide +kernel
theorem dX11_wear_18 : decode cX11_wear 18 = .ok (.iload_n 1, 1) := by decide +kernel
theorem dX11_wear_19 : decode cX11_wear 19 = .ok (.aaload, 1) := by decide +kernel
theorem dX11_wear_20 : decode cX11_wear 20 = .ok (.iload_n 2, 1) := by decide +kernel
theorem dX11_wear_21 : decode cX11_wear 21 = .ok (.iload_n 3, 1) := by decide +kernel
theorem dX11_wear_22 : decode cX11_wear 22 = .ok (.invokevirtual 141, 3) := by decide +kernel
theorem dX11_wear_25 : decode cX11_wear 25 = .ok (.invokestatic 133, 3) := by decide +kernel
theorem dX11_wear_28 : decode cX11_wear 28 = .ok (.ireturn, 1) := by decide +kernel
theorem dX11_ofString_0 : decode cX11_ofString 0 = .ok (.aload_n 0, 1) := by decide +kernel
theorem dX11_ofString_1 : decode cX11_ofString 1 = .ok (.getfield 14, 3) := by decide +kernel
theorem dX11_ofString_4 : decode cX11_ofString 4 = .ok (.iload_n 1, 1) := by decide +kernel
theorem dX11_ofString_5 : decode cX11_ofString 5 = .ok (.invokevirtual 93, 3) := by decide +kernel
theorem dX11_ofString_8 : decode cX11_ofString 8 = .ok (.ifCond .ne 5, 3) := by decide +kernel
theorem dX11_ofString_11 : decode cX11_ofString 11 = .ok (.iconst (-1), 1) := by decide +kernel
theorem dX11_ofString_12 : decode cX11_ofString 12 = .ok (.ireturn, 1) := by decide +kernel
theorem dX11_ofString_13 : decode cX11_ofString 13 = .ok (.iload_n 2, 1) := by decide +kernel
theorem dX11_ofString_14 : decode cX11_ofString 14 = .ok (.tableswitch 74 0 3 #[30, 40, 52, 65], 30) := by decide +kernel
theorem dX11_ofString_44 : decode cX11_ofString 44 = .ok (.aload_n 0, 1) := by decide +kernel
theorem dX11_ofString_45 : decode cX11_ofString 45 = .ok (.getfield 14, 3) := by decide +kernel
theorem dX11_ofString_48 : decode cX11_ofString 48 = .ok (.getfield 96, 3) := by decide +kernel
theorem dX11_ofString_51 : decode cX11_ofString 51 = .ok (.iload_n 1, 1) := by decide +kernel
theorem dX11_ofString_52 : decode cX11_ofString 52 = .ok (.iaload, 1) := by decide +kernel
theorem dX11_ofString_53 : decode cX11_ofString 53 = .ok (.ireturn, 1) := by decide +kernel
theorem dX11_ofString_54 : decode cX11_ofString 54 = .ok (.aload_n 0, 1) := by decide +kernel
theorem dX11_ofString_55 : decode cX11_ofString 55 = .ok (.getfield 14, 3) := by decide +kernel
theorem dX11_ofString_58 : decode cX11_ofString 58 = .ok (.iload_n 1, 1) := by decide +kernel
theorem dX11_ofString_59 : decode cX11_ofString 59 = .ok (.invokevirtual 120, 3) := by decide +kernel
theorem dX11_ofString_62 : decode cX11_ofString 62 = .ok (.invokestatic 133, 3) := by decide +kernel
theorem dX11_ofString_65 : decode cX11_ofString 65 = .ok (.ireturn, 1) := by decide +kernel
theorem dX11_ofString_66 : decode cX11_ofString 66 = .ok (.aload_n 0, 1) := by decide +kernel
theorem dX11_ofString_67 : decode cX11_ofString 67 = .ok (.getfield 14, 3) := by decide +kernel
theorem dX11_ofString_70 : decode cX11_ofString 70 = .ok (.getfield 96, 3) := by decide +kernel
theorem dX11_ofString_73 : decode cX11_ofString 73 = .ok (.iload_n 1, 1) := by decide +kernel
theorem dX11_ofString_74 : decode cX11_ofString 74 = .ok (.iaload, 1) := by decide +kernel
theorem dX11_ofString_75 : decode cX11_ofString 75 = .ok (.bipush 12, 2) := by decide +kernel
theorem dX11_ofString_77 : decode cX11_ofString 77 = .ok (.irem, 1) := by decide +kernel
theorem dX11_ofString_78 : decode cX11_ofString 78 = .ok (.ireturn, 1) := by decide +kernel
theorem dX11_ofString_79 : decode cX11_ofString 79 = .ok (.aload_n 0, 1) := by decide +kernel
theorem dX11_ofString_80 : decode cX11_ofString 80 = .ok (.getfield 21, 3) := by decide +kernel
theorem dX11_ofString_83 : decode cX11_ofString 83 = .ok (.iload_n 1, 1) := by decide +kernel
theorem dX11_ofString_84 : decode cX11_ofString 84 = .ok (.invokevirtual 144, 3) := by decide +kernel
theorem dX11_ofString_87 : decode cX11_ofString 87 = .ok (.ireturn, 1) := by decide +kernel
theorem dX11_ofString_88 : decode cX11_ofString 88 = .ok (.bipush (-2), 2) := by decide +kernel
theorem dX11_ofString_90 : decode cX11_ofString 90 = .ok (.ireturn, 1) := by decide +kernel
theorem dX11_ofBar_0 : decode cX11_ofBar 0 = .ok (.aload_n 0, 1) := by decide +kernel
theorem dX11_ofBar_1 : decode cX11_ofBar 1 = .ok (.getfield 21, 3) := by decide +kernel
theorem dX11_ofBar_4 : decode cX11_ofBar 4 = .ok (.iload_n 1, 1) := by decide +kernel
theorem dX11_ofBar_5 : decode cX11_ofBar 5 = .ok (.invokevirtual 119, 3) := by decide +kernel
theorem dX11_ofBar_8 : decode cX11_ofBar 8 = .ok (.ifCond .ne 5, 3) := by decide +kernel
theorem dX11_ofBar_11 : decode cX11_ofBar 11 = .ok (.iconst (-1), 1) := by decide +kernel
theorem dX11_ofBar_12 : decode cX11_ofBar 12 = .ok (.ireturn, 1) := by decide +kernel
theorem dX11_ofBar_13 : decode cX11_ofBar 13 = .ok (.aload_n 0, 1) := by decide +kernel
theorem dX11_ofBar_14 : decode cX11_ofBar 14 = .ok (.getfield 21, 3) := by decide +kernel
theorem dX11_ofBar_17 : decode cX11_ofBar 17 = .ok (.getfield 123, 3) := by decide +kernel
theorem dX11_ofBar_20 : decode cX11_ofBar 20 = .ok (.iload_n 1, 1) := by decide +kernel
theorem dX11_ofBar_21 : decode cX11_ofBar 21 = .ok (.aaload, 1) := by decide +kernel
theorem dX11_ofBar_22 : decode cX11_ofBar 22 = .ok (.astore_n 3, 1) := by decide +kernel
theorem dX11_ofBar_23 : decode cX11_ofBar 23 = .ok (.iload_n 2, 1) := by decide +kernel
theorem dX11_ofBar_24 : decode cX11_ofBar 24 = .ok (.tableswitch 87 0 5 #[40, 45, 50, 58, 66, 82], 40) := by decide +kernel
theorem dX11_ofBar_64 : decode cX11_ofBar 64 = .ok (.aload_n 3, 1) := by decide +kernel
theorem dX11_ofBar_65 : decode cX11_ofBar 65 = .ok (.invokevirtual 147, 3) := by decide +kernel
theorem dX11_ofBar_68 : decode cX11_ofBar 68 = .ok (.ireturn, 1) := by decide +kernel
theorem dX11_ofBar_69 : decode cX11_ofBar 69 = .ok (.aload_n 3, 1) := by decide +kernel
theorem dX11_ofBar_70 : decode cX11_ofBar 70 = .ok (.getfield 151, 3) := by decide +kernel
theorem dX11_ofBar_73 : decode cX11_ofBar 73 = .ok (.ireturn, 1) := by decide +kernel
theorem dX11_ofBar_74 : decode cX11_ofBar 74 = .ok (.aload_n 3, 1) := by decide +kernel
theorem dX11_ofBar_75 : decode cX11_ofBar 75 = .ok (.getfield 154, 3) := by decide +kernel
theorem dX11_ofBar_78 : decode cX11_ofBar 78 = .ok (.invokestatic 158, 3) := by decide +kernel
theorem dX11_ofBar_81 : decode cX11_ofBar 81 = .ok (.ireturn, 1) := by decide +kernel
theorem dX11_ofBar_82 : decode cX11_ofBar 82 = .ok (.aload_n 3, 1) := by decide +kernel
theorem dX11_ofBar_83 : decode cX11_ofBar 83 = .ok (.getfield 162, 3) := by decide +kernel
theorem dX11_ofBar_86 : decode cX11_ofBar 86 = .ok (.invokestatic 158, 3) := by decide +kernel
theorem dX11_ofBar_89 : decode cX11_ofBar 89 = .ok (.ireturn, 1) := by decide +kernel
theorem dX11_ofBar_90 : decode cX11_ofBar 90 = .ok (.aload_n 0, 1) := by decide +kernel
theorem dX11_ofBar_91 : decode cX11_ofBar 91 = .ok (.getfield 14, 3) := by decide +kernel
theorem dX11_ofBar_94 : decode cX11_ofBar 94 = .ok (.aload_n 3, 1) := by decide +kernel
theorem dX11_ofBar_95 : decode cX11_ofBar 95 = .ok (.invokevirtual 165, 3) := by decide +kernel
theorem dX11_ofBar_98 : decode cX11_ofBar 98 = .ok (.ldc2_w 169, 3) := by decide +kernel
theorem dX11_ofBar_101 : decode cX11_ofBar 101 = .ok (.lxor, 1) := by decide +kernel
theorem dX11_ofBar_102 : decode cX11_ofBar 102 = .ok (.invokevirtual 171, 3) := by decide +kernel
theorem dX11_ofBar_105 : decode cX11_ofBar 105 = .ok (.ireturn, 1) := by decide +kernel
theorem dX11_ofBar_106 : decode cX11_ofBar 106 = .ok (.aload_n 3, 1) := by decide +kernel
theorem dX11_ofBar_107 : decode cX11_ofBar 107 = .ok (.getfield 174, 3) := by decide +kernel
theorem dX11_ofBar_110 : decode cX11_ofBar 110 = .ok (.ireturn, 1) := by decide +kernel
theorem dX11_ofBar_111 : decode cX11_ofBar 111 = .ok (.bipush (-2), 2) := by decide +kernel
theorem dX11_ofBar_113 : decode cX11_ofBar 113 = .ok (.ireturn, 1) := by decide +kernel
theorem dX11_has_0 : decode cX11_has 0 = .ok (.aload_n 0, 1) := by decide +kernel
theorem dX11_has_1 : decode cX11_has 1 = .ok (.getfield 21, 3) := by decide +kernel
theorem dX11_has_4 : decode cX11_has 4 = .ok (.iload_n 1, 1) := by decide +kernel
theorem dX11_has_5 : decode cX11_has 5 = .ok (.invokevirtual 119, 3) := by decide +kernel
theorem dX11_has_8 : decode cX11_has 8 = .ok (.ifCond .eq 14, 3) := by decide +kernel
theorem dX11_has_11 : decode cX11_has 11 = .ok (.aload_n 0, 1) := by decide +kernel
theorem dX11_has_12 : decode cX11_has 12 = .ok (.getfield 14, 3) := by decide +kernel
theorem dX11_has_15 : decode cX11_has 15 = .ok (.iload_n 2, 1) := by decide +kernel
theorem dX11_has_16 : decode cX11_has 16 = .ok (.invokevirtual 93, 3) := by decide +kernel
theorem dX11_has_19 : decode cX11_has 19 = .ok (.ifCond .ne 5, 3) := by decide +kernel
theorem dX11_has_22 : decode cX11_has 22 = .ok (.iconst (-1), 1) := by decide +kernel
theorem dX11_has_23 : decode cX11_has 23 = .ok (.ireturn, 1) := by decide +kernel
theorem dX11_has_24 : decode cX11_has 24 = .ok (.aload_n 0, 1) := by decide +kernel
theorem dX11_has_25 : decode cX11_has 25 = .ok (.getfield 21, 3) := by decide +kernel
theorem dX11_has_28 : decode cX11_has 28 = .ok (.getfield 123, 3) := by decide +kernel
theorem dX11_has_31 : decode cX11_has 31 = .ok (.iload_n 1, 1) := by decide +kernel
theorem dX11_has_32 : decode cX11_has 32 = .ok (.aaload, 1) := by decide +kernel
theorem dX11_has_33 : decode cX11_has 33 = .ok (.astore_n 3, 1) := by decide +kernel
theorem dX11_has_34 : decode cX11_has 34 = .ok (.aload_n 3, 1) := by decide +kernel
theorem dX11_has_35 : decode cX11_has 35 = .ok (.iload_n 2, 1) := by decide +kernel
theorem dX11_has_36 : decode cX11_has 36 = .ok (.invokevirtual 177, 3) := by decide +kernel
theorem dX11_has_39 : decode cX11_has 39 = .ok (.ifCond .ne 5, 3) := by decide +kernel
theorem dX11_has_42 : decode cX11_has 42 = .ok (.iconst 0, 1) := by decide +kernel
theorem dX11_has_43 : decode cX11_has 43 = .ok (.ireturn, 1) := by decide +kernel
theorem dX11_has_44 : decode cX11_has 44 = .ok (.aload_n 3, 1) := by decide +kernel
theorem dX11_has_45 : decode cX11_has 45 = .ok (.iload_n 2, 1) := by decide +kernel
theorem dX11_has_46 : decode cX11_has 46 = .ok (.invokevirtual 179, 3) := by decide +kernel
theorem dX11_has_49 : decode cX11_has 49 = .ok (.ifCond .eq 7, 3) := by decide +kernel
theorem dX11_has_52 : decode cX11_has 52 = .ok (.iconst 1, 1) := by decide +kernel
theorem dX11_has_53 : decode cX11_has 53 = .ok (.goto 4, 3) := by decide +kernel
theorem dX11_has_56 : decode cX11_has 56 = .ok (.iconst 2, 1) := by decide +kernel
theorem dX11_has_57 : decode cX11_has 57 = .ok (.ireturn, 1) := by decide +kernel
theorem dX11_sounds_0 : decode cX11_sounds 0 = .ok (.aload_n 0, 1) := by decide +kernel
theorem dX11_sounds_1 : decode cX11_sounds 1 = .ok (.getfield 14, 3) := by decide +kernel
theorem dX11_sounds_4 : decode cX11_sounds 4 = .ok (.iload_n 2, 1) := by decide +kernel
theorem dX11_sounds_5 : decode cX11_sounds 5 = .ok (.invokevirtual 93, 3) := by decide +kernel
theorem dX11_sounds_8 : decode cX11_sounds 8 = .ok (.ifCond .ne 5, 3) := by decide +kernel
theorem dX11_sounds_11 : decode cX11_sounds 11 = .ok (.iconst (-1), 1) := by decide +kernel
theorem dX11_sounds_12 : decode cX11_sounds 12 = .ok (.ireturn, 1) := by decide +kernel
theorem dX11_sounds_13 : decode cX11_sounds 13 = .ok (.aload_n 0, 1) := by decide +kernel
theorem dX11_sounds_14 : decode cX11_sounds 14 = .ok (.getfield 21, 3) := by decide +kernel
theorem dX11_sounds_17 : decode cX11_sounds 17 = .ok (.iload_n 1, 1) := by decide +kernel
theorem dX11_sounds_18 : decode cX11_sounds 18 = .ok (.invokevirtual 182, 3) := by decide +kernel
theorem dX11_sounds_21 : decode cX11_sounds 21 = .ok (.ifCond .ne 6, 3) := by decide +kernel
theorem dX11_sounds_24 : decode cX11_sounds 24 = .ok (.bipush (-2), 2) := by decide +kernel
theorem dX11_sounds_26 : decode cX11_sounds 26 = .ok (.ireturn, 1) := by decide +kernel
theorem dX11_sounds_27 : decode cX11_sounds 27 = .ok (.aload_n 0, 1) := by decide +kernel
theorem dX11_sounds_28 : decode cX11_sounds 28 = .ok (.getfield 21, 3) := by decide +kernel
theorem dX11_sounds_31 : decode cX11_sounds 31 = .ok (.iload_n 1, 1) := by decide +kernel
theorem dX11_sounds_32 : decode cX11_sounds 32 = .ok (.invokevirtual 185, 3) := by decide +kernel
theorem dX11_sounds_35 : decode cX11_sounds 35 = .ok (.iload_n 2, 1) := by decide +kernel
theorem dX11_sounds_36 : decode cX11_sounds 36 = .ok (.invokestatic 188, 3) := by decide +kernel
theorem dX11_sounds_39 : decode cX11_sounds 39 = .ok (.ifCond .ne 7, 3) := by decide +kernel
theorem dX11_sounds_42 : decode cX11_sounds 42 = .ok (.iconst 1, 1) := by decide +kernel
theorem dX11_sounds_43 : decode cX11_sounds 43 = .ok (.goto 4, 3) := by decide +kernel
theorem dX11_sounds_46 : decode cX11_sounds 46 = .ok (.iconst 0, 1) := by decide +kernel
theorem dX11_sounds_47 : decode cX11_sounds 47 = .ok (.invokestatic 133, 3) := by decide +kernel
theorem dX11_sounds_50 : decode cX11_sounds 50 = .ok (.ireturn, 1) := by decide +kernel
theorem dX11_classes_0 : decode cX11_classes 0 = .ok (.aload_n 0, 1) := by decide +kernel
theorem dX11_classes_1 : decode cX11_classes 1 = .ok (.getfield 21, 3) := by decide +kernel
theorem dX11_classes_4 : decode cX11_classes 4 = .ok (.iload_n 1, 1) := by decide +kernel
theorem dX11_classes_5 : decode cX11_classes 5 = .ok (.invokevirtual 182, 3) := by decide +kernel
theorem dX11_classes_8 : decode cX11_classes 8 = .ok (.ifCond .ne 6, 3) := by decide +kernel
theorem dX11_classes_11 : decode cX11_classes 11 = .ok (.bipush (-2), 2) := by decide +kernel
theorem dX11_classes_13 : decode cX11_classes 13 = .ok (.ireturn, 1) := by decide +kernel
theorem dX11_classes_14 : decode cX11_classes 14 = .ok (.aload_n 0, 1) := by decide +kernel
theorem dX11_classes_15 : decode cX11_classes 15 = .ok (.getfield 14, 3) := by decide +kernel
theorem dX11_classes_18 : decode cX11_classes 18 = .ok (.aload_n 0, 1) := by decide +kernel
theorem dX11_classes_19 : decode cX11_classes 19 = .ok (.getfield 21, 3) := by decide +kernel
theorem dX11_classes_22 : decode cX11_classes 22 = .ok (.iload_n 1, 1) := by decide +kernel
theorem dX11_classes_23 : decode cX11_classes 23 = .ok (.invokevirtual 185, 3) := by decide +kernel
theorem dX11_classes_26 : decode cX11_classes 26 = .ok (.ldc2_w 169, 3) := by decide +kernel
theorem dX11_classes_29 : decode cX11_classes 29 = .ok (.lxor, 1) := by decide +kernel
theorem dX11_classes_30 : decode cX11_classes 30 = .ok (.invokevirtual 171, 3) := by decide +kernel
theorem dX11_classes_33 : decode cX11_classes 33 = .ok (.ireturn, 1) := by decide +kernel
theorem dX11_chord_0 : decode cX11_chord 0 = .ok (.iload_n 1, 1) := by decide +kernel
theorem dX11_chord_1 : decode cX11_chord 1 = .ok (.invokestatic 104, 3) := by decide +kernel
theorem dX11_chord_4 : decode cX11_chord 4 = .ok (.ifCond .ne 6, 3) := by decide +kernel
theorem dX11_chord_7 : decode cX11_chord 7 = .ok (.bipush (-2), 2) := by decide +kernel
theorem dX11_chord_9 : decode cX11_chord 9 = .ok (.ireturn, 1) := by decide +kernel
theorem dX11_chord_10 : decode cX11_chord 10 = .ok (.iload_n 1, 1) := by decide +kernel
theorem dX11_chord_11 : decode cX11_chord 11 = .ok (.invokestatic 108, 3) := by decide +kernel
theorem dX11_chord_14 : decode cX11_chord 14 = .ok (.ireturn, 1) := by decide +kernel
theorem dX11_gives_0 : decode cX11_gives 0 = .ok (.aload_n 0, 1) := by decide +kernel
theorem dX11_gives_1 : decode cX11_gives 1 = .ok (.getfield 21, 3) := by decide +kernel
theorem dX11_gives_4 : decode cX11_gives 4 = .ok (.iload_n 1, 1) := by decide +kernel
theorem dX11_gives_5 : decode cX11_gives 5 = .ok (.invokevirtual 182, 3) := by decide +kernel
theorem dX11_gives_8 : decode cX11_gives 8 = .ok (.ifCond .eq 10, 3) := by decide +kernel
theorem dX11_gives_11 : decode cX11_gives 11 = .ok (.iload_n 2, 1) := by decide +kernel
theorem dX11_gives_12 : decode cX11_gives 12 = .ok (.invokestatic 104, 3) := by decide +kernel
theorem dX11_gives_15 : decode cX11_gives 15 = .ok (.ifCond .ne 6, 3) := by decide +kernel
theorem dX11_gives_18 : decode cX11_gives 18 = .ok (.bipush (-2), 2) := by decide +kernel
theorem dX11_gives_20 : decode cX11_gives 20 = .ok (.ireturn, 1) := by decide +kernel
theorem dX11_gives_21 : decode cX11_gives 21 = .ok (.aload_n 0, 1) := by decide +kernel
theorem dX11_gives_22 : decode cX11_gives 22 = .ok (.getfield 14, 3) := by decide +kernel
theorem dX11_gives_25 : decode cX11_gives 25 = .ok (.aload_n 0, 1) := by decide +kernel
theorem dX11_gives_26 : decode cX11_gives 26 = .ok (.getfield 21, 3) := by decide +kernel
theorem dX11_gives_29 : decode cX11_gives 29 = .ok (.iload_n 1, 1) := by decide +kernel
theorem dX11_gives_30 : decode cX11_gives 30 = .ok (.invokevirtual 185, 3) := by decide +kernel
theorem dX11_gives_33 : decode cX11_gives 33 = .ok (.ldc2_w 169, 3) := by decide +kernel
theorem dX11_gives_36 : decode cX11_gives 36 = .ok (.lxor, 1) := by decide +kernel
theorem dX11_gives_37 : decode cX11_gives 37 = .ok (.invokevirtual 171, 3) := by decide +kernel
theorem dX11_gives_40 : decode cX11_gives 40 = .ok (.iload_n 2, 1) := by decide +kernel
theorem dX11_gives_41 : decode cX11_gives 41 = .ok (.invokestatic 108, 3) := by decide +kernel
theorem dX11_gives_44 : decode cX11_gives 44 = .ok (.if_icmp .ne 7, 3) := by decide +kernel
theorem dX11_gives_47 : decode cX11_gives 47 = .ok (.iconst 1, 1) := by decide +kernel
theorem dX11_gives_48 : decode cX11_gives 48 = .ok (.goto 4, 3) := by decide +kernel
theorem dX11_gives_51 : decode cX11_gives 51 = .ok (.iconst 0, 1) := by decide +kernel
theorem dX11_gives_52 : decode cX11_gives 52 = .ok (.invokestatic 133, 3) := by decide +kernel
theorem dX11_gives_55 : decode cX11_gives 55 = .ok (.ireturn, 1) := by decide +kernel
theorem dX11_lack_0 : decode cX11_lack 0 = .ok (.iload_n 1, 1) := by decide +kernel
theorem dX11_lack_1 : decode cX11_lack 1 = .ok (.invokestatic 104, 3) := by decide +kernel
theorem dX11_lack_4 : decode cX11_lack 4 = .ok (.ifCond .ne 6, 3) := by decide +kernel
theorem dX11_lack_7 : decode cX11_lack 7 = .ok (.bipush (-2), 2) := by decide +kernel
theorem dX11_lack_9 : decode cX11_lack 9 = .ok (.ireturn, 1) := by decide +kernel
theorem dX11_lack_10 : decode cX11_lack 10 = .ok (.iload_n 1, 1) := by decide +kernel
theorem dX11_lack_11 : decode cX11_lack 11 = .ok (.invokestatic 108, 3) := by decide +kernel
theorem dX11_lack_14 : decode cX11_lack 14 = .ok (.aload_n 0, 1) := by decide +kernel
theorem dX11_lack_15 : decode cX11_lack 15 = .ok (.getfield 14, 3) := by decide +kernel
theorem dX11_lack_18 : decode cX11_lack 18 = .ok (.aload_n 0, 1) := by decide +kernel
theorem dX11_lack_19 : decode cX11_lack 19 = .ok (.getfield 14, 3) := by decide +kernel
theorem dX11_lack_22 : decode cX11_lack 22 = .ok (.invokevirtual 192, 3) := by decide +kernel
theorem dX11_lack_25 : decode cX11_lack 25 = .ok (.invokevirtual 171, 3) := by decide +kernel
theorem dX11_lack_28 : decode cX11_lack 28 = .ok (.iconst (-1), 1) := by decide +kernel
theorem dX11_lack_29 : decode cX11_lack 29 = .ok (.ixor, 1) := by decide +kernel
theorem dX11_lack_30 : decode cX11_lack 30 = .ok (.iand, 1) := by decide +kernel
theorem dX11_lack_31 : decode cX11_lack 31 = .ok (.ireturn, 1) := by decide +kernel
theorem dX11_hold_0 : decode cX11_hold 0 = .ok (.iload_n 1, 1) := by decide +kernel
theorem dX11_hold_1 : decode cX11_hold 1 = .ok (.invokestatic 104, 3) := by decide +kernel
theorem dX11_hold_4 : decode cX11_hold 4 = .ok (.ifCond .ne 6, 3) := by decide +kernel
theorem dX11_hold_7 : decode cX11_hold 7 = .ok (.bipush (-2), 2) := by decide +kernel
theorem dX11_hold_9 : decode cX11_hold 9 = .ok (.ireturn, 1) := by decide +kernel
theorem dX11_hold_10 : decode cX11_hold 10 = .ok (.aload_n 0, 1) := by decide +kernel
theorem dX11_hold_11 : decode cX11_hold 11 = .ok (.invokevirtual 195, 3) := by decide +kernel
theorem dX11_hold_14 : decode cX11_hold 14 = .ok (.aload_n 0, 1) := by decide +kernel
theorem dX11_hold_15 : decode cX11_hold 15 = .ok (.getfield 28, 3) := by decide +kernel
theorem dX11_hold_18 : decode cX11_hold 18 = .ok (.iload_n 1, 1) := by decide +kernel
theorem dX11_hold_19 : decode cX11_hold 19 = .ok (.invokevirtual 198, 3) := by decide +kernel
theorem dX11_hold_22 : decode cX11_hold 22 = .ok (.istore_n 2, 1) := by decide +kernel
theorem dX11_hold_23 : decode cX11_hold 23 = .ok (.iload_n 2, 1) := by decide +kernel
theorem dX11_hold_24 : decode cX11_hold 24 = .ok (.ifCond .ne 8, 3) := by decide +kernel
theorem dX11_hold_27 : decode cX11_hold 27 = .ok (.bipush (-9), 2) := by decide +kernel
theorem dX11_hold_29 : decode cX11_hold 29 = .ok (.goto 12, 3) := by decide +kernel
theorem dX11_hold_32 : decode cX11_hold 32 = .ok (.aload_n 0, 1) := by decide +kernel
theorem dX11_hold_33 : decode cX11_hold 33 = .ok (.getfield 28, 3) := by decide +kernel
theorem dX11_hold_36 : decode cX11_hold 36 = .ok (.getfield 201, 3) := by decide +kernel
theorem dX11_hold_39 : decode cX11_hold 39 = .ok (.iload_n 2, 1) := by decide +kernel
theorem dX11_hold_40 : decode cX11_hold 40 = .ok (.iaload, 1) := by decide +kernel
theorem dX11_hold_41 : decode cX11_hold 41 = .ok (.ireturn, 1) := by decide +kernel
theorem dX11_holds_0 : decode cX11_holds 0 = .ok (.iload_n 1, 1) := by decide +kernel
theorem dX11_holds_1 : decode cX11_holds 1 = .ok (.ifCond .lt 8, 3) := by decide +kernel
theorem dX11_holds_4 : decode cX11_holds 4 = .ok (.iload_n 1, 1) := by decide +kernel
theorem dX11_holds_5 : decode cX11_holds 5 = .ok (.iconst 2, 1) := by decide +kernel
theorem dX11_holds_6 : decode cX11_holds 6 = .ok (.if_icmp .le 6, 3) := by decide +kernel
theorem dX11_holds_9 : decode cX11_holds 9 = .ok (.bipush (-2), 2) := by decide +kernel
theorem dX11_holds_11 : decode cX11_holds 11 = .ok (.ireturn, 1) := by decide +kernel
theorem dX11_holds_12 : decode cX11_holds 12 = .ok (.aload_n 0, 1) := by decide +kernel
theorem dX11_holds_13 : decode cX11_holds 13 = .ok (.invokevirtual 195, 3) := by decide +kernel
theorem dX11_holds_16 : decode cX11_holds 16 = .ok (.iconst 0, 1) := by decide +kernel
theorem dX11_holds_17 : decode cX11_holds 17 = .ok (.istore_n 2, 1) := by decide +kernel
theorem dX11_holds_18 : decode cX11_holds 18 = .ok (.iconst 0, 1) := by decide +kernel
theorem dX11_holds_19 : decode cX11_holds 19 = .ok (.istore_n 3, 1) := by decide +kernel
theorem dX11_holds_20 : decode cX11_holds 20 = .ok (.iload_n 3, 1) := by decide +kernel
theorem dX11_holds_21 : decode cX11_holds 21 = .ok (.bipush 96, 2) := by decide +kernel
theorem dX11_holds_23 : decode cX11_holds 23 = .ok (.if_icmp .ge 35, 3) := by decide +kernel
theorem dX11_holds_26 : decode cX11_holds 26 = .ok (.aload_n 0, 1) := by decide +kernel
theorem dX11_holds_27 : decode cX11_holds 27 = .ok (.getfield 28, 3) := by decide +kernel
theorem dX11_holds_30 : decode cX11_holds 30 = .ok (.getfield 201, 3) := by decide +kernel
theorem dX11_holds_33 : decode cX11_holds 33 = .ok (.aload_n 0, 1) := by decide +kernel
theorem dX11_holds_34 : decode cX11_holds 34 = .ok (.getfield 28, 3) := by decide +kernel
theorem dX11_holds_37 : decode cX11_holds 37 = .ok (.iload_n 3, 1) := by decide +kernel
theorem dX11_holds_38 : decode cX11_holds 38 = .ok (.invokevirtual 198, 3) := by decide +kernel
theorem dX11_holds_41 : decode cX11_holds 41 = .ok (.iaload, 1) := by decide +kernel
theorem dX11_holds_42 : decode cX11_holds 42 = .ok (.invokestatic 204, 3) := by decide +kernel
theorem dX11_holds_45 : decode cX11_holds 45 = .ok (.iload_n 1, 1) := by decide +kernel
theorem dX11_holds_46 : decode cX11_holds 46 = .ok (.if_icmp .ne 6, 3) := by decide +kernel
theorem dX11_holds_49 : decode cX11_holds 49 = .ok (.iinc 2 1, 3) := by decide +kernel
theorem dX11_holds_52 : decode cX11_holds 52 = .ok (.iinc 3 1, 3) := by decide +kernel
theorem dX11_holds_55 : decode cX11_holds 55 = .ok (.goto (-35), 3) := by decide +kernel
theorem dX11_holds_58 : decode cX11_holds 58 = .ok (.iload_n 2, 1) := by decide +kernel
theorem dX11_holds_59 : decode cX11_holds 59 = .ok (.ireturn, 1) := by decide +kernel
theorem dX11_strum_0 : decode cX11_strum 0 = .ok (.aload_n 0, 1) := by decide +kernel
theorem dX11_strum_1 : decode cX11_strum 1 = .ok (.getfield 21, 3) := by decide +kernel
theorem dX11_strum_4 : decode cX11_strum 4 = .ok (.iload_n 1, 1) := by decide +kernel
theorem dX11_strum_5 : decode cX11_strum 5 = .ok (.invokevirtual 182, 3) := by decide +kernel
theorem dX11_strum_8 : decode cX11_strum 8 = .ok (.ifCond .ne 6, 3) := by decide +kernel
theorem dX11_strum_11 : decode cX11_strum 11 = .ok (.bipush (-2), 2) := by decide +kernel
theorem dX11_strum_13 : decode cX11_strum 13 = .ok (.ireturn, 1) := by decide +kernel
theorem dX11_strum_14 : decode cX11_strum 14 = .ok (.aload_n 0, 1) := by decide +kernel
theorem dX11_strum_15 : decode cX11_strum 15 = .ok (.getfield 14, 3) := by decide +kernel
theorem dX11_strum_18 : decode cX11_strum 18 = .ok (.invokevirtual 192, 3) := by decide +kernel
theorem dX11_strum_21 : decode cX11_strum 21 = .ok (.aload_n 0, 1) := by decide +kernel
theorem dX11_strum_22 : decode cX11_strum 22 = .ok (.getfield 21, 3) := by decide +kernel
theorem dX11_strum_25 : decode cX11_strum 25 = .ok (.iload_n 1, 1) := by decide +kernel
theorem dX11_strum_26 : decode cX11_strum 26 = .ok (.invokevirtual 185, 3) := by decide +kernel
theorem dX11_strum_29 : decode cX11_strum 29 = .ok (.ldc2_w 169, 3) := by decide +kernel
theorem dX11_strum_32 : decode cX11_strum 32 = .ok (.lxor, 1) := by decide +kernel
theorem dX11_strum_33 : decode cX11_strum 33 = .ok (.land, 1) := by decide +kernel
theorem dX11_strum_34 : decode cX11_strum 34 = .ok (.lstore_n 3, 1) := by decide +kernel
theorem dX11_strum_35 : decode cX11_strum 35 = .ok (.aload_n 0, 1) := by decide +kernel
theorem dX11_strum_36 : decode cX11_strum 36 = .ok (.getfield 14, 3) := by decide +kernel
theorem dX11_strum_39 : decode cX11_strum 39 = .ok (.lload_n 3, 1) := by decide +kernel
theorem dX11_strum_40 : decode cX11_strum 40 = .ok (.invokevirtual 208, 3) := by decide +kernel
theorem dX11_strum_43 : decode cX11_strum 43 = .ok (.lstore 5, 2) := by decide +kernel
theorem dX11_strum_45 : decode cX11_strum 45 = .ok (.iload_n 2, 1) := by decide +kernel
theorem dX11_strum_46 : decode cX11_strum 46 = .ok (.tableswitch 80 0 3 #[30, 35, 53, 74], 30) := by decide +kernel
theorem dX11_strum_76 : decode cX11_strum 76 = .ok (.lload_n 3, 1) := by decide +kernel
theorem dX11_strum_77 : decode cX11_strum 77 = .ok (.invokestatic 158, 3) := by decide +kernel
theorem dX11_strum_80 : decode cX11_strum 80 = .ok (.ireturn, 1) := by decide +kernel
theorem dX11_strum_81 : decode cX11_strum 81 = .ok (.lload 5, 2) := by decide +kernel
theorem dX11_strum_83 : decode cX11_strum 83 = .ok (.lconst 0, 1) := by decide +kernel
theorem dX11_strum_84 : decode cX11_strum 84 = .ok (.lcmp, 1) := by decide +kernel
theorem dX11_strum_85 : decode cX11_strum 85 = .ok (.ifCond .ne 8, 3) := by decide +kernel
theorem dX11_strum_88 : decode cX11_strum 88 = .ok (.bipush (-9), 2) := by decide +kernel
theorem dX11_strum_90 : decode cX11_strum 90 = .ok (.goto 8, 3) := by decide +kernel
theorem dX11_strum_93 : decode cX11_strum 93 = .ok (.lload 5, 2) := by decide +kernel
theorem dX11_strum_95 : decode cX11_strum 95 = .ok (.invokestatic 212, 3) := by decide +kernel
theorem dX11_strum_98 : decode cX11_strum 98 = .ok (.ireturn, 1) := by decide +kernel
theorem dX11_strum_99 : decode cX11_strum 99 = .ok (.lload 5, 2) := by decide +kernel
theorem dX11_strum_101 : decode cX11_strum 101 = .ok (.lconst 0, 1) := by decide +kernel
theorem dX11_strum_102 : decode cX11_strum 102 = .ok (.lcmp, 1) := by decide +kernel
theorem dX11_strum_103 : decode cX11_strum 103 = .ok (.ifCond .ne 8, 3) := by decide +kernel
theorem dX11_strum_106 : decode cX11_strum 106 = .ok (.bipush (-9), 2) := by decide +kernel
theorem dX11_strum_108 : decode cX11_strum 108 = .ok (.goto 11, 3) := by decide +kernel
theorem dX11_strum_111 : decode cX11_strum 111 = .ok (.bipush 63, 2) := by decide +kernel
theorem dX11_strum_113 : decode cX11_strum 113 = .ok (.lload 5, 2) := by decide +kernel
theorem dX11_strum_115 : decode cX11_strum 115 = .ok (.invokestatic 215, 3) := by decide +kernel
theorem dX11_strum_118 : decode cX11_strum 118 = .ok (.isub, 1) := by decide +kernel
theorem dX11_strum_119 : decode cX11_strum 119 = .ok (.ireturn, 1) := by decide +kernel
theorem dX11_strum_120 : decode cX11_strum 120 = .ok (.lload 5, 2) := by decide +kernel
theorem dX11_strum_122 : decode cX11_strum 122 = .ok (.invokestatic 218, 3) := by decide +kernel
theorem dX11_strum_125 : decode cX11_strum 125 = .ok (.ireturn, 1) := by decide +kernel
theorem dX11_strum_126 : decode cX11_strum 126 = .ok (.bipush (-2), 2) := by decide +kernel
theorem dX11_strum_128 : decode cX11_strum 128 = .ok (.ireturn, 1) := by decide +kernel
theorem dX11_song_0 : decode cX11_song 0 = .ok (.aload_n 0, 1) := by decide +kernel
theorem dX11_song_1 : decode cX11_song 1 = .ok (.iconst 0, 1) := by decide +kernel
theorem dX11_song_2 : decode cX11_song 2 = .ok (.putfield 78, 3) := by decide +kernel
theorem dX11_song_5 : decode cX11_song 5 = .ok (.iload_n 1, 1) := by decide +kernel
theorem dX11_song_6 : decode cX11_song 6 = .ok (.invokestatic 221, 3) := by decide +kernel
theorem dX11_song_9 : decode cX11_song 9 = .ok (.ifCond .ne 5, 3) := by decide +kernel
theorem dX11_song_12 : decode cX11_song 12 = .ok (.iconst (-1), 1) := by decide +kernel
theorem dX11_song_13 : decode cX11_song 13 = .ok (.ireturn, 1) := by decide +kernel
theorem dX11_song_14 : decode cX11_song 14 = .ok (.iload_n 2, 1) := by decide +kernel
theorem dX11_song_15 : decode cX11_song 15 = .ok (.invokestatic 224, 3) := by decide +kernel
theorem dX11_song_18 : decode cX11_song 18 = .ok (.ifCond .ne 6, 3) := by decide +kernel
theorem dX11_song_21 : decode cX11_song 21 = .ok (.bipush (-2), 2) := by decide +kernel
theorem dX11_song_23 : decode cX11_song 23 = .ok (.ireturn, 1) := by decide +kernel
theorem dX11_song_24 : decode cX11_song 24 = .ok (.aload_n 0, 1) := by decide +kernel
theorem dX11_song_25 : decode cX11_song 25 = .ok (.getfield 69, 3) := by decide +kernel
theorem dX11_song_28 : decode cX11_song 28 = .ok (.iload_n 1, 1) := by decide +kernel
theorem dX11_song_29 : decode cX11_song 29 = .ok (.aaload, 1) := by decide +kernel
theorem dX11_song_30 : decode cX11_song 30 = .ok (.astore 5, 2) := by decide +kernel
theorem dX11_song_32 : decode cX11_song 32 = .ok (.aload 5, 2) := by decide +kernel
theorem dX11_song_34 : decode cX11_song 34 = .ok (.iload_n 2, 1) := by decide +kernel
theorem dX11_song_35 : decode cX11_song 35 = .ok (.invokevirtual 227, 3) := by decide +kernel
theorem dX11_song_38 : decode cX11_song 38 = .ok (.istore 6, 2) := by decide +kernel
theorem dX11_song_40 : decode cX11_song 40 = .ok (.iload 6, 2) := by decide +kernel
theorem dX11_song_42 : decode cX11_song 42 = .ok (.ifCond .ne 11, 3) := by decide +kernel
theorem dX11_song_45 : decode cX11_song 45 = .ok (.iload 4, 2) := by decide +kernel
theorem dX11_song_47 : decode cX11_song 47 = .ok (.ifCond .ge 6, 3) := by decide +kernel
theorem dX11_song_50 : decode cX11_song 50 = .ok (.iconst 4, 1) := by decide +kernel
theorem dX11_song_51 : decode cX11_song 51 = .ok (.istore 6, 2) := by decide +kernel
theorem dX11_song_53 : decode cX11_song 53 = .ok (.iload 6, 2) := by decide +kernel
theorem dX11_song_55 : decode cX11_song 55 = .ok (.ifCond .ne 22, 3) := by decide +kernel
theorem dX11_song_58 : decode cX11_song 58 = .ok (.aload 5, 2) := by decide +kernel
theorem dX11_song_60 : decode cX11_song 60 = .ok (.iload_n 3, 1) := by decide +kernel
theorem dX11_song_61 : decode cX11_song 61 = .ok (.ldc2_w 230, 3) := by decide +kernel
theorem dX11_song_64 : decode cX11_song 64 = .ok (.iload 4, 2) := by decide +kernel
theorem dX11_song_66 : decode cX11_song 66 = .ok (.i2l, 1) := by decide +kernel
theorem dX11_song_67 : decode cX11_song 67 = .ok (.lmul, 1) := by decide +kernel
theorem dX11_song_68 : decode cX11_song 68 = .ok (.invokevirtual 232, 3) := by decide +kernel
theorem dX11_song_71 : decode cX11_song 71 = .ok (.ifCond .ne 6, 3) := by decide +kernel
theorem dX11_song_74 : decode cX11_song 74 = .ok (.iconst 3, 1) := by decide +kernel
theorem dX11_song_75 : decode cX11_song 75 = .ok (.istore 6, 2) := by decide +kernel
theorem dX11_song_77 : decode cX11_song 77 = .ok (.iload 6, 2) := by decide +kernel
theorem dX11_song_79 : decode cX11_song 79 = .ok (.ifCond .eq 10, 3) := by decide +kernel
theorem dX11_song_82 : decode cX11_song 82 = .ok (.aload_n 0, 1) := by decide +kernel
theorem dX11_song_83 : decode cX11_song 83 = .ok (.iload 6, 2) := by decide +kernel
theorem dX11_song_85 : decode cX11_song 85 = .ok (.invokevirtual 236, 3) := by decide +kernel
theorem dX11_song_88 : decode cX11_song 88 = .ok (.ireturn, 1) := by decide +kernel
theorem dX11_song_89 : decode cX11_song 89 = .ok (.iload 4, 2) := by decide +kernel
theorem dX11_song_91 : decode cX11_song 91 = .ok (.iconst 1, 1) := by decide +kernel
theorem dX11_song_92 : decode cX11_song 92 = .ok (.if_icmp .lt 21, 3) := by decide +kernel
theorem dX11_song_95 : decode cX11_song 95 = .ok (.iload 4, 2) := by decide +kernel
theorem dX11_song_97 : decode cX11_song 97 = .ok (.bipush 24, 2) := by decide +kernel
theorem dX11_song_99 : decode cX11_song 99 = .ok (.if_icmp .gt 14, 3) := by decide +kernel
theorem dX11_song_102 : decode cX11_song 102 = .ok (.aload 5, 2) := by decide +kernel
theorem dX11_song_104 : decode cX11_song 104 = .ok (.iload_n 3, 1) := by decide +kernel
theorem dX11_song_105 : decode cX11_song 105 = .ok (.iload 4, 2) := by decide +kernel
theorem dX11_song_107 : decode cX11_song 107 = .ok (.invokestatic 239, 3) := by decide +kernel
theorem dX11_song_110 : decode cX11_song 110 = .ok (.ifCond .ne 6, 3) := by decide +kernel
theorem dX11_song_113 : decode cX11_song 113 = .ok (.bipush (-2), 2) := by decide +kernel
theorem dX11_song_115 : decode cX11_song 115 = .ok (.ireturn, 1) := by decide +kernel
theorem dX11_song_116 : decode cX11_song 116 = .ok (.aload_n 0, 1) := by decide +kernel
theorem dX11_song_117 : decode cX11_song 117 = .ok (.getfield 35, 3) := by decide +kernel
theorem dX11_song_120 : decode cX11_song 120 = .ok (.invokevirtual 243, 3) := by decide +kernel
theorem dX11_song_123 : decode cX11_song 123 = .ok (.ifCond .eq 6, 3) := by decide +kernel
theorem dX11_song_126 : decode cX11_song 126 = .ok (.bipush (-4), 2) := by decide +kernel
theorem dX11_song_128 : decode cX11_song 128 = .ok (.ireturn, 1) := by decide +kernel
theorem dX11_song_129 : decode cX11_song 129 = .ok (.aload_n 0, 1) := by decide +kernel
theorem dX11_song_130 : decode cX11_song 130 = .ok (.getfield 35, 3) := by decide +kernel
theorem dX11_song_133 : decode cX11_song 133 = .ok (.aload 5, 2) := by decide +kernel
theorem dX11_song_135 : decode cX11_song 135 = .ok (.iload_n 3, 1) := by decide +kernel
theorem dX11_song_136 : decode cX11_song 136 = .ok (.iload 4, 2) := by decide +kernel
theorem dX11_song_138 : decode cX11_song 138 = .ok (.invokevirtual 244, 3) := by decide +kernel
theorem dX11_song_141 : decode cX11_song 141 = .ok (.ireturn, 1) := by decide +kernel
theorem dX11_step_0 : decode cX11_step 0 = .ok (.aload_n 0, 1) := by decide +kernel
theorem dX11_step_1 : decode cX11_step 1 = .ok (.iload_n 1, 1) := by decide +kernel
theorem dX11_step_2 : decode cX11_step 2 = .ok (.iload_n 2, 1) := by decide +kernel
theorem dX11_step_3 : decode cX11_step 3 = .ok (.invokevirtual 247, 3) := by decide +kernel
theorem dX11_step_6 : decode cX11_step 6 = .ok (.ifCond .ne 5, 3) := by decide +kernel
theorem dX11_step_9 : decode cX11_step 9 = .ok (.iconst (-1), 1) := by decide +kernel
theorem dX11_step_10 : decode cX11_step 10 = .ok (.ireturn, 1) := by decide +kernel
theorem dX11_step_11 : decode cX11_step 11 = .ok (.aload_n 0, 1) := by decide +kernel
theorem dX11_step_12 : decode cX11_step 12 = .ok (.getfield 35, 3) := by decide +kernel
theorem dX11_step_15 : decode cX11_step 15 = .ok (.getfield 250, 3) := by decide +kernel
theorem dX11_step_18 : decode cX11_step 18 = .ok (.iload_n 1, 1) := by decide +kernel
theorem dX11_step_19 : decode cX11_step 19 = .ok (.aaload, 1) := by decide +kernel
theorem dX11_step_20 : decode cX11_step 20 = .ok (.astore 4, 2) := by decide +kernel
theorem dX11_step_22 : decode cX11_step 22 = .ok (.iload_n 3, 1) := by decide +kernel
theorem dX11_step_23 : decode cX11_step 23 = .ok (.tableswitch 113 0 3 #[29, 41, 67, 90], 29) := by decide +kernel
theorem dX11_step_52 : decode cX11_step 52 = .ok (.aload 4, 2) := by decide +kernel
theorem dX11_step_54 : decode cX11_step 54 = .ok (.aload 4, 2) := by decide +kernel
theorem dX11_step_56 : decode cX11_step 56 = .ok (.getfield 254, 3) := by decide +kernel
theorem dX11_step_59 : decode cX11_step 59 = .ok (.iload_n 2, 1) := by decide +kernel
theorem dX11_step_60 : decode cX11_step 60 = .ok (.invokevirtual 259, 3) := by decide +kernel
theorem dX11_step_63 : decode cX11_step 63 = .ok (.ireturn, 1) := by decide +kernel
theorem dX11_step_64 : decode cX11_step 64 = .ok (.aload 4, 2) := by decide +kernel
theorem dX11_step_66 : decode cX11_step 66 = .ok (.iload_n 2, 1) := by decide +kernel
theorem dX11_step_67 : decode cX11_step 67 = .ok (.invokevirtual 263, 3) := by decide +kernel
theorem dX11_step_70 : decode cX11_step 70 = .ok (.ifCond .eq 17, 3) := by decide +kernel
theorem dX11_step_73 : decode cX11_step 73 = .ok (.aload 4, 2) := by decide +kernel
theorem dX11_step_75 : decode cX11_step 75 = .ok (.aload 4, 2) := by decide +kernel
theorem dX11_step_77 : decode cX11_step 77 = .ok (.getfield 254, 3) := by decide +kernel
theorem dX11_step_80 : decode cX11_step 80 = .ok (.iload_n 2, 1) := by decide +kernel
theorem dX11_step_81 : decode cX11_step 81 = .ok (.invokevirtual 266, 3) := by decide +kernel
theorem dX11_step_84 : decode cX11_step 84 = .ok (.goto 5, 3) := by decide +kernel
theorem dX11_step_87 : decode cX11_step 87 = .ok (.bipush (-9), 2) := by decide +kernel
theorem dX11_step_89 : decode cX11_step 89 = .ok (.ireturn, 1) := by decide +kernel
theorem dX11_step_90 : decode cX11_step 90 = .ok (.aload_n 0, 1) := by decide +kernel
theorem dX11_step_91 : decode cX11_step 91 = .ok (.invokevirtual 195, 3) := by decide +kernel
theorem dX11_step_94 : decode cX11_step 94 = .ok (.aload_n 0, 1) := by decide +kernel
theorem dX11_step_95 : decode cX11_step 95 = .ok (.getfield 28, 3) := by decide +kernel
theorem dX11_step_98 : decode cX11_step 98 = .ok (.aload 4, 2) := by decide +kernel
theorem dX11_step_100 : decode cX11_step 100 = .ok (.aload 4, 2) := by decide +kernel
theorem dX11_step_102 : decode cX11_step 102 = .ok (.getfield 254, 3) := by decide +kernel
theorem dX11_step_105 : decode cX11_step 105 = .ok (.iload_n 2, 1) := by decide +kernel
theorem dX11_step_106 : decode cX11_step 106 = .ok (.invokevirtual 269, 3) := by decide +kernel
theorem dX11_step_109 : decode cX11_step 109 = .ok (.invokestatic 133, 3) := by decide +kernel
theorem dX11_step_112 : decode cX11_step 112 = .ok (.ireturn, 1) := by decide +kernel
theorem dX11_step_113 : decode cX11_step 113 = .ok (.aload_n 0, 1) := by decide +kernel
theorem dX11_step_114 : decode cX11_step 114 = .ok (.invokevirtual 195, 3) := by decide +kernel
theorem dX11_step_117 : decode cX11_step 117 = .ok (.aload_n 0, 1) := by decide +kernel
theorem dX11_step_118 : decode cX11_step 118 = .ok (.getfield 28, 3) := by decide +kernel
theorem dX11_step_121 : decode cX11_step 121 = .ok (.aload 4, 2) := by decide +kernel
theorem dX11_step_123 : decode cX11_step 123 = .ok (.aload 4, 2) := by decide +kernel
theorem dX11_step_125 : decode cX11_step 125 = .ok (.getfield 254, 3) := by decide +kernel
theorem dX11_step_128 : decode cX11_step 128 = .ok (.iload_n 2, 1) := by decide +kernel
theorem dX11_step_129 : decode cX11_step 129 = .ok (.invokevirtual 273, 3) := by decide +kernel
theorem dX11_step_132 : decode cX11_step 132 = .ok (.invokestatic 133, 3) := by decide +kernel
theorem dX11_step_135 : decode cX11_step 135 = .ok (.ireturn, 1) := by decide +kernel
theorem dX11_step_136 : decode cX11_step 136 = .ok (.bipush (-2), 2) := by decide +kernel
theorem dX11_step_138 : decode cX11_step 138 = .ok (.ireturn, 1) := by decide +kernel
theorem dX11_key_0 : decode cX11_key 0 = .ok (.aload_n 0, 1) := by decide +kernel
theorem dX11_key_1 : decode cX11_key 1 = .ok (.getfield 35, 3) := by decide +kernel
theorem dX11_key_4 : decode cX11_key 4 = .ok (.iload_n 1, 1) := by decide +kernel
theorem dX11_key_5 : decode cX11_key 5 = .ok (.invokevirtual 276, 3) := by decide +kernel
theorem dX11_key_8 : decode cX11_key 8 = .ok (.ifCond .ne 5, 3) := by decide +kernel
theorem dX11_key_11 : decode cX11_key 11 = .ok (.iconst (-1), 1) := by decide +kernel
theorem dX11_key_12 : decode cX11_key 12 = .ok (.ireturn, 1) := by decide +kernel
theorem dX11_key_13 : decode cX11_key 13 = .ok (.iload_n 2, 1) := by decide +kernel
theorem dX11_key_14 : decode cX11_key 14 = .ok (.bipush (-6), 2) := by decide +kernel
theorem dX11_key_16 : decode cX11_key 16 = .ok (.if_icmp .lt 8, 3) := by decide +kernel
theorem dX11_key_19 : decode cX11_key 19 = .ok (.iload_n 2, 1) := by decide +kernel
theorem dX11_key_20 : decode cX11_key 20 = .ok (.iconst 5, 1) := by decide +kernel
theorem dX11_key_21 : decode cX11_key 21 = .ok (.if_icmp .le 6, 3) := by decide +kernel
theorem dX11_key_24 : decode cX11_key 24 = .ok (.bipush (-2), 2) := by decide +kernel
theorem dX11_key_26 : decode cX11_key 26 = .ok (.ireturn, 1) := by decide +kernel
theorem dX11_key_27 : decode cX11_key 27 = .ok (.aload_n 0, 1) := by decide +kernel
theorem dX11_key_28 : decode cX11_key 28 = .ok (.getfield 35, 3) := by decide +kernel
theorem dX11_key_31 : decode cX11_key 31 = .ok (.getfield 250, 3) := by decide +kernel
theorem dX11_key_34 : decode cX11_key 34 = .ok (.iload_n 1, 1) := by decide +kernel
theorem dX11_key_35 : decode cX11_key 35 = .ok (.aaload, 1) := by decide +kernel
theorem dX11_key_36 : decode cX11_key 36 = .ok (.getfield 254, 3) := by decide +kernel
theorem dX11_key_39 : decode cX11_key 39 = .ok (.istore_n 3, 1) := by decide +kernel
theorem dX11_key_40 : decode cX11_key 40 = .ok (.aload_n 0, 1) := by decide +kernel
theorem dX11_key_41 : decode cX11_key 41 = .ok (.getfield 35, 3) := by decide +kernel
theorem dX11_key_44 : decode cX11_key 44 = .ok (.getfield 250, 3) := by decide +kernel
theorem dX11_key_47 : decode cX11_key 47 = .ok (.iload_n 1, 1) := by decide +kernel
theorem dX11_key_48 : decode cX11_key 48 = .ok (.aaload, 1) := by decide +kernel
theorem dX11_key_49 : decode cX11_key 49 = .ok (.iload_n 2, 1) := by decide +kernel
theorem dX11_key_50 : decode cX11_key 50 = .ok (.putfield 254, 3) := by decide +kernel
theorem dX11_key_53 : decode cX11_key 53 = .ok (.iload_n 3, 1) := by decide +kernel
theorem dX11_key_54 : decode cX11_key 54 = .ok (.ireturn, 1) := by decide +kernel
theorem dX11_misses_0 : decode cX11_misses 0 = .ok (.aload_n 0, 1) := by decide +kernel
theorem dX11_misses_1 : decode cX11_misses 1 = .ok (.getfield 35, 3) := by decide +kernel
theorem dX11_misses_4 : decode cX11_misses 4 = .ok (.iload_n 1, 1) := by decide +kernel
theorem dX11_misses_5 : decode cX11_misses 5 = .ok (.invokevirtual 276, 3) := by decide +kernel
theorem dX11_misses_8 : decode cX11_misses 8 = .ok (.ifCond .ne 5, 3) := by decide +kernel
theorem dX11_misses_11 : decode cX11_misses 11 = .ok (.iconst (-1), 1) := by decide +kernel
theorem dX11_misses_12 : decode cX11_misses 12 = .ok (.ireturn, 1) := by decide +kernel
theorem dX11_misses_13 : decode cX11_misses 13 = .ok (.aload_n 0, 1) := by decide +kernel
theorem dX11_misses_14 : decode cX11_misses 14 = .ok (.getfield 35, 3) := by decide +kernel
theorem dX11_misses_17 : decode cX11_misses 17 = .ok (.getfield 250, 3) := by decide +kernel
theorem dX11_misses_20 : decode cX11_misses 20 = .ok (.iload_n 1, 1) := by decide +kernel
theorem dX11_misses_21 : decode cX11_misses 21 = .ok (.aaload, 1) := by decide +kernel
theorem dX11_misses_22 : decode cX11_misses 22 = .ok (.astore_n 3, 1) := by decide +kernel
theorem dX11_misses_23 : decode cX11_misses 23 = .ok (.aload_n 0, 1) := by decide +kernel
theorem dX11_misses_24 : decode cX11_misses 24 = .ok (.invokevirtual 195, 3) := by decide +kernel
theorem dX11_misses_27 : decode cX11_misses 27 = .ok (.iload_n 2, 1) := by decide +kernel
theorem dX11_misses_28 : decode cX11_misses 28 = .ok (.tableswitch 85 0 4 #[36, 49, 62, 75, 80], 36) := by decide +kernel
theorem dX11_misses_64 : decode cX11_misses 64 = .ok (.aload_n 0, 1) := by decide +kernel
theorem dX11_misses_65 : decode cX11_misses 65 = .ok (.getfield 28, 3) := by decide +kernel
theorem dX11_misses_68 : decode cX11_misses 68 = .ok (.aload_n 3, 1) := by decide +kernel
theorem dX11_misses_69 : decode cX11_misses 69 = .ok (.aload_n 3, 1) := by decide +kernel
theorem dX11_misses_70 : decode cX11_misses 70 = .ok (.getfield 254, 3) := by decide +kernel
theorem dX11_misses_73 : decode cX11_misses 73 = .ok (.invokevirtual 277, 3) := by decide +kernel
theorem dX11_misses_76 : decode cX11_misses 76 = .ok (.ireturn, 1) := by decide +kernel
theorem dX11_misses_77 : decode cX11_misses 77 = .ok (.aload_n 0, 1) := by decide +kernel
theorem dX11_misses_78 : decode cX11_misses 78 = .ok (.getfield 28, 3) := by decide +kernel
theorem dX11_misses_81 : decode cX11_misses 81 = .ok (.aload_n 3, 1) := by decide +kernel
theorem dX11_misses_82 : decode cX11_misses 82 = .ok (.aload_n 3, 1) := by decide +kernel
