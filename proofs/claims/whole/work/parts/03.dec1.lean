theorem dX0_init_0 : decode cX0_init 0 = .ok (.aload_n 0, 1) := by decide +kernel
theorem dX0_init_1 : decode cX0_init 1 = .ok (.invokespecial 3, 3) := by decide +kernel
theorem dX0_init_4 : decode cX0_init 4 = .ok (.aload_n 0, 1) := by decide +kernel
theorem dX0_init_5 : decode cX0_init 5 = .ok (.bipush 14, 2) := by decide +kernel
theorem dX0_init_7 : decode cX0_init 7 = .ok (.newarray .int, 2) := by decide +kernel
theorem dX0_init_9 : decode cX0_init 9 = .ok (.putfield 9, 3) := by decide +kernel
theorem dX0_init_12 : decode cX0_init 12 = .ok (.aload_n 0, 1) := by decide +kernel
theorem dX0_init_13 : decode cX0_init 13 = .ok (.bipush 14, 2) := by decide +kernel
theorem dX0_init_15 : decode cX0_init 15 = .ok (.newarray .int, 2) := by decide +kernel
theorem dX0_init_17 : decode cX0_init 17 = .ok (.putfield 15, 3) := by decide +kernel
theorem dX0_init_20 : decode cX0_init 20 = .ok (.aload_n 0, 1) := by decide +kernel
theorem dX0_init_21 : decode cX0_init 21 = .ok (.iconst 0, 1) := by decide +kernel
theorem dX0_init_22 : decode cX0_init 22 = .ok (.putfield 18, 3) := by decide +kernel
theorem dX0_init_25 : decode cX0_init 25 = .ok (.aload_n 0, 1) := by decide +kernel
theorem dX0_init_26 : decode cX0_init 26 = .ok (.iconst (-1), 1) := by decide +kernel
theorem dX0_init_27 : decode cX0_init 27 = .ok (.putfield 22, 3) := by decide +kernel
theorem dX0_init_30 : decode cX0_init 30 = .ok (.return_, 1) := by decide +kernel
theorem dX0_layRowByRow_0 : decode cX0_layRowByRow 0 = .ok (.aload_n 0, 1) := by decide +kernel
theorem dX0_layRowByRow_1 : decode cX0_layRowByRow 1 = .ok (.invokevirtual 25, 3) := by decide +kernel
theorem dX0_layRowByRow_4 : decode cX0_layRowByRow 4 = .ok (.iconst 0, 1) := by decide +kernel
theorem dX0_layRowByRow_5 : decode cX0_layRowByRow 5 = .ok (.istore_n 3, 1) := by decide +kernel
theorem dX0_layRowByRow_6 : decode cX0_layRowByRow 6 = .ok (.iload_n 3, 1) := by decide +kernel
theorem dX0_layRowByRow_7 : decode cX0_layRowByRow 7 = .ok (.aload_n 1, 1) := by decide +kernel
theorem dX0_layRowByRow_8 : decode cX0_layRowByRow 8 = .ok (.getfield 28, 3) := by decide +kernel
theorem dX0_layRowByRow_11 : decode cX0_layRowByRow 11 = .ok (.if_icmp .ge 30, 3) := by decide +kernel
theorem dX0_layRowByRow_14 : decode cX0_layRowByRow 14 = .ok (.iload_n 3, 1) := by decide +kernel
theorem dX0_layRowByRow_15 : decode cX0_layRowByRow 15 = .ok (.iload_n 2, 1) := by decide +kernel
theorem dX0_layRowByRow_16 : decode cX0_layRowByRow 16 = .ok (.if_icmp .eq 19, 3) := by decide +kernel
theorem dX0_layRowByRow_19 : decode cX0_layRowByRow 19 = .ok (.aload_n 0, 1) := by decide +kernel
theorem dX0_layRowByRow_20 : decode cX0_layRowByRow 20 = .ok (.aload_n 1, 1) := by decide +kernel
theorem dX0_layRowByRow_21 : decode cX0_layRowByRow 21 = .ok (.getfield 31, 3) := by decide +kernel
theorem dX0_layRowByRow_24 : decode cX0_layRowByRow 24 = .ok (.iload_n 3, 1) := by decide +kernel
theorem dX0_layRowByRow_25 : decode cX0_layRowByRow 25 = .ok (.iaload, 1) := by decide +kernel
theorem dX0_layRowByRow_26 : decode cX0_layRowByRow 26 = .ok (.aload_n 1, 1) := by decide +kernel
theorem dX0_layRowByRow_27 : decode cX0_layRowByRow 27 = .ok (.getfield 32, 3) := by decide +kernel
theorem dX0_layRowByRow_30 : decode cX0_layRowByRow 30 = .ok (.iload_n 3, 1) := by decide +kernel
theorem dX0_layRowByRow_31 : decode cX0_layRowByRow 31 = .ok (.iaload, 1) := by decide +kernel
theorem dX0_layRowByRow_32 : decode cX0_layRowByRow 32 = .ok (.invokevirtual 33, 3) := by decide +kernel
theorem dX0_layRowByRow_35 : decode cX0_layRowByRow 35 = .ok (.iinc 3 1, 3) := by decide +kernel
theorem dX0_layRowByRow_38 : decode cX0_layRowByRow 38 = .ok (.goto (-32), 3) := by decide +kernel
theorem dX0_layRowByRow_41 : decode cX0_layRowByRow 41 = .ok (.return_, 1) := by decide +kernel
theorem dX0_layFree_0 : decode cX0_layFree 0 = .ok (.aload_n 1, 1) := by decide +kernel
theorem dX0_layFree_1 : decode cX0_layFree 1 = .ok (.invokevirtual 37, 3) := by decide +kernel
theorem dX0_layFree_4 : decode cX0_layFree 4 = .ok (.istore_n 3, 1) := by decide +kernel
theorem dX0_layFree_5 : decode cX0_layFree 5 = .ok (.aload_n 0, 1) := by decide +kernel
theorem dX0_layFree_6 : decode cX0_layFree 6 = .ok (.invokevirtual 25, 3) := by decide +kernel
theorem dX0_layFree_9 : decode cX0_layFree 9 = .ok (.iconst 0, 1) := by decide +kernel
theorem dX0_layFree_10 : decode cX0_layFree 10 = .ok (.istore 4, 2) := by decide +kernel
theorem dX0_layFree_12 : decode cX0_layFree 12 = .ok (.iload 4, 2) := by decide +kernel
theorem dX0_layFree_14 : decode cX0_layFree 14 = .ok (.aload_n 1, 1) := by decide +kernel
theorem dX0_layFree_15 : decode cX0_layFree 15 = .ok (.getfield 28, 3) := by decide +kernel
theorem dX0_layFree_18 : decode cX0_layFree 18 = .ok (.if_icmp .ge 78, 3) := by decide +kernel
theorem dX0_layFree_21 : decode cX0_layFree 21 = .ok (.iload 4, 2) := by decide +kernel
theorem dX0_layFree_23 : decode cX0_layFree 23 = .ok (.iload_n 3, 1) := by decide +kernel
theorem dX0_layFree_24 : decode cX0_layFree 24 = .ok (.if_icmp .ne 18, 3) := by decide +kernel
theorem dX0_layFree_27 : decode cX0_layFree 27 = .ok (.aload_n 1, 1) := by decide +kernel
theorem dX0_layFree_28 : decode cX0_layFree 28 = .ok (.getfield 31, 3) := by decide +kernel
theorem dX0_layFree_31 : decode cX0_layFree 31 = .ok (.iload 4, 2) := by decide +kernel
theorem dX0_layFree_33 : decode cX0_layFree 33 = .ok (.iaload, 1) := by decide +kernel
theorem dX0_layFree_34 : decode cX0_layFree 34 = .ok (.iconst 1, 1) := by decide +kernel
theorem dX0_layFree_35 : decode cX0_layFree 35 = .ok (.if_icmp .ne 7, 3) := by decide +kernel
theorem dX0_layFree_38 : decode cX0_layFree 38 = .ok (.iconst 1, 1) := by decide +kernel
theorem dX0_layFree_39 : decode cX0_layFree 39 = .ok (.goto 4, 3) := by decide +kernel
theorem dX0_layFree_42 : decode cX0_layFree 42 = .ok (.iconst 0, 1) := by decide +kernel
theorem dX0_layFree_43 : decode cX0_layFree 43 = .ok (.istore 5, 2) := by decide +kernel
theorem dX0_layFree_45 : decode cX0_layFree 45 = .ok (.iload 4, 2) := by decide +kernel
theorem dX0_layFree_47 : decode cX0_layFree 47 = .ok (.iload_n 3, 1) := by decide +kernel
theorem dX0_layFree_48 : decode cX0_layFree 48 = .ok (.if_icmp .ne 19, 3) := by decide +kernel
theorem dX0_layFree_51 : decode cX0_layFree 51 = .ok (.aload_n 0, 1) := by decide +kernel
theorem dX0_layFree_52 : decode cX0_layFree 52 = .ok (.iload 5, 2) := by decide +kernel
theorem dX0_layFree_54 : decode cX0_layFree 54 = .ok (.ifCond .eq 8, 3) := by decide +kernel
theorem dX0_layFree_57 : decode cX0_layFree 57 = .ok (.bipush 9, 2) := by decide +kernel
theorem dX0_layFree_59 : decode cX0_layFree 59 = .ok (.goto 5, 3) := by decide +kernel
theorem dX0_layFree_62 : decode cX0_layFree 62 = .ok (.bipush 8, 2) := by decide +kernel
theorem dX0_layFree_64 : decode cX0_layFree 64 = .ok (.invokevirtual 41, 3) := by decide +kernel
theorem dX0_layFree_67 : decode cX0_layFree 67 = .ok (.iload 5, 2) := by decide +kernel
theorem dX0_layFree_69 : decode cX0_layFree 69 = .ok (.ifCond .ne 21, 3) := by decide +kernel
theorem dX0_layFree_72 : decode cX0_layFree 72 = .ok (.aload_n 0, 1) := by decide +kernel
theorem dX0_layFree_73 : decode cX0_layFree 73 = .ok (.aload_n 1, 1) := by decide +kernel
theorem dX0_layFree_74 : decode cX0_layFree 74 = .ok (.getfield 31, 3) := by decide +kernel
theorem dX0_layFree_77 : decode cX0_layFree 77 = .ok (.iload 4, 2) := by decide +kernel
theorem dX0_layFree_79 : decode cX0_layFree 79 = .ok (.iaload, 1) := by decide +kernel
theorem dX0_layFree_80 : decode cX0_layFree 80 = .ok (.aload_n 1, 1) := by decide +kernel
theorem dX0_layFree_81 : decode cX0_layFree 81 = .ok (.getfield 32, 3) := by decide +kernel
theorem dX0_layFree_84 : decode cX0_layFree 84 = .ok (.iload 4, 2) := by decide +kernel
theorem dX0_layFree_86 : decode cX0_layFree 86 = .ok (.iaload, 1) := by decide +kernel
theorem dX0_layFree_87 : decode cX0_layFree 87 = .ok (.invokevirtual 33, 3) := by decide +kernel
theorem dX0_layFree_90 : decode cX0_layFree 90 = .ok (.iinc 4 1, 3) := by decide +kernel
theorem dX0_layFree_93 : decode cX0_layFree 93 = .ok (.goto (-81), 3) := by decide +kernel
theorem dX0_layFree_96 : decode cX0_layFree 96 = .ok (.iload_n 3, 1) := by decide +kernel
theorem dX0_layFree_97 : decode cX0_layFree 97 = .ok (.iconst (-1), 1) := by decide +kernel
theorem dX0_layFree_98 : decode cX0_layFree 98 = .ok (.if_icmp .ne 16, 3) := by decide +kernel
theorem dX0_layFree_101 : decode cX0_layFree 101 = .ok (.iload_n 2, 1) := by decide +kernel
theorem dX0_layFree_102 : decode cX0_layFree 102 = .ok (.invokestatic 45, 3) := by decide +kernel
theorem dX0_layFree_105 : decode cX0_layFree 105 = .ok (.ifCond .eq 9, 3) := by decide +kernel
theorem dX0_layFree_108 : decode cX0_layFree 108 = .ok (.aload_n 0, 1) := by decide +kernel
theorem dX0_layFree_109 : decode cX0_layFree 109 = .ok (.bipush 8, 2) := by decide +kernel
theorem dX0_layFree_111 : decode cX0_layFree 111 = .ok (.invokevirtual 41, 3) := by decide +kernel
theorem dX0_layFree_114 : decode cX0_layFree 114 = .ok (.return_, 1) := by decide +kernel
theorem dX0_codeAt_0 : decode cX0_codeAt 0 = .ok (.iload_n 1, 1) := by decide +kernel
theorem dX0_codeAt_1 : decode cX0_codeAt 1 = .ok (.aload_n 0, 1) := by decide +kernel
theorem dX0_codeAt_2 : decode cX0_codeAt 2 = .ok (.getfield 18, 3) := by decide +kernel
theorem dX0_codeAt_5 : decode cX0_codeAt 5 = .ok (.invokestatic 49, 3) := by decide +kernel
theorem dX0_codeAt_8 : decode cX0_codeAt 8 = .ok (.ifCond .eq 12, 3) := by decide +kernel
theorem dX0_codeAt_11 : decode cX0_codeAt 11 = .ok (.aload_n 0, 1) := by decide +kernel
theorem dX0_codeAt_12 : decode cX0_codeAt 12 = .ok (.getfield 9, 3) := by decide +kernel
theorem dX0_codeAt_15 : decode cX0_codeAt 15 = .ok (.iload_n 1, 1) := by decide +kernel
theorem dX0_codeAt_16 : decode cX0_codeAt 16 = .ok (.iaload, 1) := by decide +kernel
theorem dX0_codeAt_17 : decode cX0_codeAt 17 = .ok (.goto 4, 3) := by decide +kernel
theorem dX0_codeAt_20 : decode cX0_codeAt 20 = .ok (.iconst (-1), 1) := by decide +kernel
theorem dX0_codeAt_21 : decode cX0_codeAt 21 = .ok (.ireturn, 1) := by decide +kernel
theorem dX0_begin_0 : decode cX0_begin 0 = .ok (.aload_n 0, 1) := by decide +kernel
theorem dX0_begin_1 : decode cX0_begin 1 = .ok (.iconst 0, 1) := by decide +kernel
theorem dX0_begin_2 : decode cX0_begin 2 = .ok (.putfield 18, 3) := by decide +kernel
theorem dX0_begin_5 : decode cX0_begin 5 = .ok (.aload_n 0, 1) := by decide +kernel
theorem dX0_begin_6 : decode cX0_begin 6 = .ok (.iconst (-1), 1) := by decide +kernel
theorem dX0_begin_7 : decode cX0_begin 7 = .ok (.putfield 22, 3) := by decide +kernel
theorem dX0_begin_10 : decode cX0_begin 10 = .ok (.aload_n 0, 1) := by decide +kernel
theorem dX0_begin_11 : decode cX0_begin 11 = .ok (.iconst 0, 1) := by decide +kernel
theorem dX0_begin_12 : decode cX0_begin 12 = .ok (.iconst (-1), 1) := by decide +kernel
theorem dX0_begin_13 : decode cX0_begin 13 = .ok (.invokevirtual 33, 3) := by decide +kernel
theorem dX0_begin_16 : decode cX0_begin 16 = .ok (.return_, 1) := by decide +kernel
theorem dX0_addJoin_0 : decode cX0_addJoin 0 = .ok (.aload_n 0, 1) := by decide +kernel
theorem dX0_addJoin_1 : decode cX0_addJoin 1 = .ok (.aload_n 0, 1) := by decide +kernel
theorem dX0_addJoin_2 : decode cX0_addJoin 2 = .ok (.getfield 18, 3) := by decide +kernel
theorem dX0_addJoin_5 : decode cX0_addJoin 5 = .ok (.putfield 22, 3) := by decide +kernel
theorem dX0_addJoin_8 : decode cX0_addJoin 8 = .ok (.aload_n 0, 1) := by decide +kernel
theorem dX0_addJoin_9 : decode cX0_addJoin 9 = .ok (.iload_n 1, 1) := by decide +kernel
theorem dX0_addJoin_10 : decode cX0_addJoin 10 = .ok (.iconst (-1), 1) := by decide +kernel
theorem dX0_addJoin_11 : decode cX0_addJoin 11 = .ok (.invokevirtual 33, 3) := by decide +kernel
theorem dX0_addJoin_14 : decode cX0_addJoin 14 = .ok (.return_, 1) := by decide +kernel
theorem dX0_add_0 : decode cX0_add 0 = .ok (.aload_n 0, 1) := by decide +kernel
theorem dX0_add_1 : decode cX0_add 1 = .ok (.getfield 18, 3) := by decide +kernel
theorem dX0_add_4 : decode cX0_add 4 = .ok (.bipush 14, 2) := by decide +kernel
theorem dX0_add_6 : decode cX0_add 6 = .ok (.if_icmp .ge 33, 3) := by decide +kernel
theorem dX0_add_9 : decode cX0_add 9 = .ok (.aload_n 0, 1) := by decide +kernel
theorem dX0_add_10 : decode cX0_add 10 = .ok (.getfield 9, 3) := by decide +kernel
theorem dX0_add_13 : decode cX0_add 13 = .ok (.aload_n 0, 1) := by decide +kernel
theorem dX0_add_14 : decode cX0_add 14 = .ok (.getfield 18, 3) := by decide +kernel
theorem dX0_add_17 : decode cX0_add 17 = .ok (.iload_n 1, 1) := by decide +kernel
theorem dX0_add_18 : decode cX0_add 18 = .ok (.iastore, 1) := by decide +kernel
theorem dX0_add_19 : decode cX0_add 19 = .ok (.aload_n 0, 1) := by decide +kernel
theorem dX0_add_20 : decode cX0_add 20 = .ok (.getfield 15, 3) := by decide +kernel
theorem dX0_add_23 : decode cX0_add 23 = .ok (.aload_n 0, 1) := by decide +kernel
theorem dX0_add_24 : decode cX0_add 24 = .ok (.getfield 18, 3) := by decide +kernel
theorem dX0_add_27 : decode cX0_add 27 = .ok (.iload_n 2, 1) := by decide +kernel
theorem dX0_add_28 : decode cX0_add 28 = .ok (.iastore, 1) := by decide +kernel
theorem dX0_add_29 : decode cX0_add 29 = .ok (.aload_n 0, 1) := by decide +kernel
theorem dX0_add_30 : decode cX0_add 30 = .ok (.dup, 1) := by decide +kernel
theorem dX0_add_31 : decode cX0_add 31 = .ok (.getfield 18, 3) := by decide +kernel
theorem dX0_add_34 : decode cX0_add 34 = .ok (.iconst 1, 1) := by decide +kernel
theorem dX0_add_35 : decode cX0_add 35 = .ok (.iadd, 1) := by decide +kernel
theorem dX0_add_36 : decode cX0_add 36 = .ok (.putfield 18, 3) := by decide +kernel
theorem dX0_add_39 : decode cX0_add 39 = .ok (.return_, 1) := by decide +kernel
theorem dX1_init_0 : decode cX1_init 0 = .ok (.aload_n 0, 1) := by decide +kernel
theorem dX1_init_1 : decode cX1_init 1 = .ok (.invokespecial 3, 3) := by decide +kernel
theorem dX1_init_4 : decode cX1_init 4 = .ok (.aload_n 0, 1) := by decide +kernel
theorem dX1_init_5 : decode cX1_init 5 = .ok (.bipush 14, 2) := by decide +kernel
theorem dX1_init_7 : decode cX1_init 7 = .ok (.sipush 220, 3) := by decide +kernel
theorem dX1_init_10 : decode cX1_init 10 = .ok (.multianewarray 9 2, 4) := by decide +kernel
theorem dX1_init_14 : decode cX1_init 14 = .ok (.putfield 11, 3) := by decide +kernel
theorem dX1_init_17 : decode cX1_init 17 = .ok (.aload_n 0, 1) := by decide +kernel
theorem dX1_init_18 : decode cX1_init 18 = .ok (.bipush 14, 2) := by decide +kernel
theorem dX1_init_20 : decode cX1_init 20 = .ok (.newarray .int, 2) := by decide +kernel
theorem dX1_init_22 : decode cX1_init 22 = .ok (.putfield 16, 3) := by decide +kernel
theorem dX1_init_25 : decode cX1_init 25 = .ok (.aload_n 0, 1) := by decide +kernel
theorem dX1_init_26 : decode cX1_init 26 = .ok (.bipush 10, 2) := by decide +kernel
theorem dX1_init_28 : decode cX1_init 28 = .ok (.anewarray 20, 3) := by decide +kernel
theorem dX1_init_31 : decode cX1_init 31 = .ok (.putfield 22, 3) := by decide +kernel
theorem dX1_init_34 : decode cX1_init 34 = .ok (.iconst 0, 1) := by decide +kernel
theorem dX1_init_35 : decode cX1_init 35 = .ok (.istore_n 1, 1) := by decide +kernel
theorem dX1_init_36 : decode cX1_init 36 = .ok (.iload_n 1, 1) := by decide +kernel
theorem dX1_init_37 : decode cX1_init 37 = .ok (.bipush 10, 2) := by decide +kernel
theorem dX1_init_39 : decode cX1_init 39 = .ok (.if_icmp .ge 22, 3) := by decide +kernel
theorem dX1_init_42 : decode cX1_init 42 = .ok (.aload_n 0, 1) := by decide +kernel
theorem dX1_init_43 : decode cX1_init 43 = .ok (.getfield 22, 3) := by decide +kernel
theorem dX1_init_46 : decode cX1_init 46 = .ok (.iload_n 1, 1) := by decide +kernel
theorem dX1_init_47 : decode cX1_init 47 = .ok (.new 20, 3) := by decide +kernel
theorem dX1_init_50 : decode cX1_init 50 = .ok (.dup, 1) := by decide +kernel
theorem dX1_init_51 : decode cX1_init 51 = .ok (.invokespecial 26, 3) := by decide +kernel
theorem dX1_init_54 : decode cX1_init 54 = .ok (.aastore, 1) := by decide +kernel
theorem dX1_init_55 : decode cX1_init 55 = .ok (.iinc 1 1, 3) := by decide +kernel
theorem dX1_init_58 : decode cX1_init 58 = .ok (.goto (-22), 3) := by decide +kernel
theorem dX1_init_61 : decode cX1_init 61 = .ok (.return_, 1) := by decide +kernel
theorem dX1_clear_0 : decode cX1_clear 0 = .ok (.aload_n 0, 1) := by decide +kernel
theorem dX1_clear_1 : decode cX1_clear 1 = .ok (.getfield 16, 3) := by decide +kernel
theorem dX1_clear_4 : decode cX1_clear 4 = .ok (.iconst 0, 1) := by decide +kernel
theorem dX1_clear_5 : decode cX1_clear 5 = .ok (.invokestatic 27, 3) := by decide +kernel
theorem dX1_clear_8 : decode cX1_clear 8 = .ok (.iconst 0, 1) := by decide +kernel
theorem dX1_clear_9 : decode cX1_clear 9 = .ok (.istore_n 1, 1) := by decide +kernel
theorem dX1_clear_10 : decode cX1_clear 10 = .ok (.iload_n 1, 1) := by decide +kernel
theorem dX1_clear_11 : decode cX1_clear 11 = .ok (.bipush 10, 2) := by decide +kernel
theorem dX1_clear_13 : decode cX1_clear 13 = .ok (.if_icmp .ge 18, 3) := by decide +kernel
theorem dX1_clear_16 : decode cX1_clear 16 = .ok (.aload_n 0, 1) := by decide +kernel
theorem dX1_clear_17 : decode cX1_clear 17 = .ok (.getfield 22, 3) := by decide +kernel
theorem dX1_clear_20 : decode cX1_clear 20 = .ok (.iload_n 1, 1) := by decide +kernel
theorem dX1_clear_21 : decode cX1_clear 21 = .ok (.aaload, 1) := by decide +kernel
theorem dX1_clear_22 : decode cX1_clear 22 = .ok (.invokevirtual 33, 3) := by decide +kernel
theorem dX1_clear_25 : decode cX1_clear 25 = .ok (.iinc 1 1, 3) := by decide +kernel
theorem dX1_clear_28 : decode cX1_clear 28 = .ok (.goto (-18), 3) := by decide +kernel
theorem dX1_clear_31 : decode cX1_clear 31 = .ok (.return_, 1) := by decide +kernel
theorem dX1_isNew_0 : decode cX1_isNew 0 = .ok (.iconst 0, 1) := by decide +kernel
theorem dX1_isNew_1 : decode cX1_isNew 1 = .ok (.istore_n 3, 1) := by decide +kernel
theorem dX1_isNew_2 : decode cX1_isNew 2 = .ok (.iload_n 3, 1) := by decide +kernel
theorem dX1_isNew_3 : decode cX1_isNew 3 = .ok (.aload_n 0, 1) := by decide +kernel
theorem dX1_isNew_4 : decode cX1_isNew 4 = .ok (.getfield 16, 3) := by decide +kernel
theorem dX1_isNew_7 : decode cX1_isNew 7 = .ok (.iload_n 1, 1) := by decide +kernel
theorem dX1_isNew_8 : decode cX1_isNew 8 = .ok (.iaload, 1) := by decide +kernel
theorem dX1_isNew_9 : decode cX1_isNew 9 = .ok (.if_icmp .ge 23, 3) := by decide +kernel
theorem dX1_isNew_12 : decode cX1_isNew 12 = .ok (.aload_n 0, 1) := by decide +kernel
theorem dX1_isNew_13 : decode cX1_isNew 13 = .ok (.getfield 11, 3) := by decide +kernel
theorem dX1_isNew_16 : decode cX1_isNew 16 = .ok (.iload_n 1, 1) := by decide +kernel
theorem dX1_isNew_17 : decode cX1_isNew 17 = .ok (.aaload, 1) := by decide +kernel
theorem dX1_isNew_18 : decode cX1_isNew 18 = .ok (.iload_n 3, 1) := by decide +kernel
theorem dX1_isNew_19 : decode cX1_isNew 19 = .ok (.iaload, 1) := by decide +kernel
theorem dX1_isNew_20 : decode cX1_isNew 20 = .ok (.iload_n 2, 1) := by decide +kernel
theorem dX1_isNew_21 : decode cX1_isNew 21 = .ok (.if_icmp .ne 5, 3) := by decide +kernel
theorem dX1_isNew_24 : decode cX1_isNew 24 = .ok (.iconst 0, 1) := by decide +kernel
theorem dX1_isNew_25 : decode cX1_isNew 25 = .ok (.ireturn, 1) := by decide +kernel
theorem dX1_isNew_26 : decode cX1_isNew 26 = .ok (.iinc 3 1, 3) := by decide +kernel
theorem dX1_isNew_29 : decode cX1_isNew 29 = .ok (.goto (-27), 3) := by decide +kernel
theorem dX1_isNew_32 : decode cX1_isNew 32 = .ok (.aload_n 0, 1) := by decide +kernel
theorem dX1_isNew_33 : decode cX1_isNew 33 = .ok (.getfield 16, 3) := by decide +kernel
theorem dX1_isNew_36 : decode cX1_isNew 36 = .ok (.iload_n 1, 1) := by decide +kernel
theorem dX1_isNew_37 : decode cX1_isNew 37 = .ok (.iaload, 1) := by decide +kernel
theorem dX1_isNew_38 : decode cX1_isNew 38 = .ok (.sipush 220, 3) := by decide +kernel
theorem dX1_isNew_41 : decode cX1_isNew 41 = .ok (.if_icmp .ge 27, 3) := by decide +kernel
theorem dX1_isNew_44 : decode cX1_isNew 44 = .ok (.aload_n 0, 1) := by decide +kernel
theorem dX1_isNew_45 : decode cX1_isNew 45 = .ok (.getfield 11, 3) := by decide +kernel
theorem dX1_isNew_48 : decode cX1_isNew 48 = .ok (.iload_n 1, 1) := by decide +kernel
theorem dX1_isNew_49 : decode cX1_isNew 49 = .ok (.aaload, 1) := by decide +kernel
theorem dX1_isNew_50 : decode cX1_isNew 50 = .ok (.aload_n 0, 1) := by decide +kernel
theorem dX1_isNew_51 : decode cX1_isNew 51 = .ok (.getfield 16, 3) := by decide +kernel
theorem dX1_isNew_54 : decode cX1_isNew 54 = .ok (.iload_n 1, 1) := by decide +kernel
theorem dX1_isNew_55 : decode cX1_isNew 55 = .ok (.iaload, 1) := by decide +kernel
theorem dX1_isNew_56 : decode cX1_isNew 56 = .ok (.iload_n 2, 1) := by decide +kernel
theorem dX1_isNew_57 : decode cX1_isNew 57 = .ok (.iastore, 1) := by decide +kernel
theorem dX1_isNew_58 : decode cX1_isNew 58 = .ok (.aload_n 0, 1) := by decide +kernel
theorem dX1_isNew_59 : decode cX1_isNew 59 = .ok (.getfield 16, 3) := by decide +kernel
theorem dX1_isNew_62 : decode cX1_isNew 62 = .ok (.iload_n 1, 1) := by decide +kernel
theorem dX1_isNew_63 : decode cX1_isNew 63 = .ok (.dup2, 1) := by decide +kernel
theorem dX1_isNew_64 : decode cX1_isNew 64 = .ok (.iaload, 1) := by decide +kernel
theorem dX1_isNew_65 : decode cX1_isNew 65 = .ok (.iconst 1, 1) := by decide +kernel
theorem dX1_isNew_66 : decode cX1_isNew 66 = .ok (.iadd, 1) := by decide +kernel
theorem dX1_isNew_67 : decode cX1_isNew 67 = .ok (.iastore, 1) := by decide +kernel
theorem dX1_isNew_68 : decode cX1_isNew 68 = .ok (.iconst 1, 1) := by decide +kernel
theorem dX1_isNew_69 : decode cX1_isNew 69 = .ok (.ireturn, 1) := by decide +kernel
theorem dX1_addToGroup_0 : decode cX1_addToGroup 0 = .ok (.iload_n 2, 1) := by decide +kernel
theorem dX1_addToGroup_1 : decode cX1_addToGroup 1 = .ok (.ldc 36, 2) := by decide +kernel
theorem dX1_addToGroup_3 : decode cX1_addToGroup 3 = .ok (.iand, 1) := by decide +kernel
theorem dX1_addToGroup_4 : decode cX1_addToGroup 4 = .ok (.istore_n 3, 1) := by decide +kernel
theorem dX1_addToGroup_5 : decode cX1_addToGroup 5 = .ok (.iconst 0, 1) := by decide +kernel
theorem dX1_addToGroup_6 : decode cX1_addToGroup 6 = .ok (.istore 4, 2) := by decide +kernel
theorem dX1_addToGroup_8 : decode cX1_addToGroup 8 = .ok (.iload 4, 2) := by decide +kernel
theorem dX1_addToGroup_10 : decode cX1_addToGroup 10 = .ok (.aload_n 0, 1) := by decide +kernel
theorem dX1_addToGroup_11 : decode cX1_addToGroup 11 = .ok (.getfield 16, 3) := by decide +kernel
theorem dX1_addToGroup_14 : decode cX1_addToGroup 14 = .ok (.iload_n 1, 1) := by decide +kernel
theorem dX1_addToGroup_15 : decode cX1_addToGroup 15 = .ok (.iaload, 1) := by decide +kernel
theorem dX1_addToGroup_16 : decode cX1_addToGroup 16 = .ok (.if_icmp .ge 41, 3) := by decide +kernel
theorem dX1_addToGroup_19 : decode cX1_addToGroup 19 = .ok (.aload_n 0, 1) := by decide +kernel
theorem dX1_addToGroup_20 : decode cX1_addToGroup 20 = .ok (.getfield 11, 3) := by decide +kernel
theorem dX1_addToGroup_23 : decode cX1_addToGroup 23 = .ok (.iload_n 1, 1) := by decide +kernel
theorem dX1_addToGroup_24 : decode cX1_addToGroup 24 = .ok (.aaload, 1) := by decide +kernel
theorem dX1_addToGroup_25 : decode cX1_addToGroup 25 = .ok (.iload 4, 2) := by decide +kernel
theorem dX1_addToGroup_27 : decode cX1_addToGroup 27 = .ok (.iaload, 1) := by decide +kernel
theorem dX1_addToGroup_28 : decode cX1_addToGroup 28 = .ok (.ldc 36, 2) := by decide +kernel
theorem dX1_addToGroup_30 : decode cX1_addToGroup 30 = .ok (.iand, 1) := by decide +kernel
theorem dX1_addToGroup_31 : decode cX1_addToGroup 31 = .ok (.iload_n 3, 1) := by decide +kernel
theorem dX1_addToGroup_32 : decode cX1_addToGroup 32 = .ok (.if_icmp .ne 19, 3) := by decide +kernel
theorem dX1_addToGroup_35 : decode cX1_addToGroup 35 = .ok (.aload_n 0, 1) := by decide +kernel
theorem dX1_addToGroup_36 : decode cX1_addToGroup 36 = .ok (.getfield 11, 3) := by decide +kernel
theorem dX1_addToGroup_39 : decode cX1_addToGroup 39 = .ok (.iload_n 1, 1) := by decide +kernel
theorem dX1_addToGroup_40 : decode cX1_addToGroup 40 = .ok (.aaload, 1) := by decide +kernel
theorem dX1_addToGroup_41 : decode cX1_addToGroup 41 = .ok (.iload 4, 2) := by decide +kernel
theorem dX1_addToGroup_43 : decode cX1_addToGroup 43 = .ok (.dup2, 1) := by decide +kernel
theorem dX1_addToGroup_44 : decode cX1_addToGroup 44 = .ok (.iaload, 1) := by decide +kernel
theorem dX1_addToGroup_45 : decode cX1_addToGroup 45 = .ok (.sipush 256, 3) := by decide +kernel
theorem dX1_addToGroup_48 : decode cX1_addToGroup 48 = .ok (.iadd, 1) := by decide +kernel
theorem dX1_addToGroup_49 : decode cX1_addToGroup 49 = .ok (.iastore, 1) := by decide +kernel
theorem dX1_addToGroup_50 : decode cX1_addToGroup 50 = .ok (.return_, 1) := by decide +kernel
theorem dX1_addToGroup_51 : decode cX1_addToGroup 51 = .ok (.iinc 4 1, 3) := by decide +kernel
theorem dX1_addToGroup_54 : decode cX1_addToGroup 54 = .ok (.goto (-46), 3) := by decide +kernel
theorem dX1_addToGroup_57 : decode cX1_addToGroup 57 = .ok (.aload_n 0, 1) := by decide +kernel
theorem dX1_addToGroup_58 : decode cX1_addToGroup 58 = .ok (.getfield 16, 3) := by decide +kernel
theorem dX1_addToGroup_61 : decode cX1_addToGroup 61 = .ok (.iload_n 1, 1) := by decide +kernel
theorem dX1_addToGroup_62 : decode cX1_addToGroup 62 = .ok (.iaload, 1) := by decide +kernel
theorem dX1_addToGroup_63 : decode cX1_addToGroup 63 = .ok (.sipush 220, 3) := by decide +kernel
theorem dX1_addToGroup_66 : decode cX1_addToGroup 66 = .ok (.if_icmp .ge 31, 3) := by decide +kernel
theorem dX1_addToGroup_69 : decode cX1_addToGroup 69 = .ok (.aload_n 0, 1) := by decide +kernel
theorem dX1_addToGroup_70 : decode cX1_addToGroup 70 = .ok (.getfield 11, 3) := by decide +kernel
theorem dX1_addToGroup_73 : decode cX1_addToGroup 73 = .ok (.iload_n 1, 1) := by decide +kernel
theorem dX1_addToGroup_74 : decode cX1_addToGroup 74 = .ok (.aaload, 1) := by decide +kernel
theorem dX1_addToGroup_75 : decode cX1_addToGroup 75 = .ok (.aload_n 0, 1) := by decide +kernel
theorem dX1_addToGroup_76 : decode cX1_addToGroup 76 = .ok (.getfield 16, 3) := by decide +kernel
theorem dX1_addToGroup_79 : decode cX1_addToGroup 79 = .ok (.iload_n 1, 1) := by decide +kernel
theorem dX1_addToGroup_80 : decode cX1_addToGroup 80 = .ok (.iaload, 1) := by decide +kernel
theorem dX1_addToGroup_81 : decode cX1_addToGroup 81 = .ok (.iload_n 3, 1) := by decide +kernel
theorem dX1_addToGroup_82 : decode cX1_addToGroup 82 = .ok (.sipush 512, 3) := by decide +kernel
theorem dX1_addToGroup_85 : decode cX1_addToGroup 85 = .ok (.iadd, 1) := by decide +kernel
theorem dX1_addToGroup_86 : decode cX1_addToGroup 86 = .ok (.iastore, 1) := by decide +kernel
theorem dX1_addToGroup_87 : decode cX1_addToGroup 87 = .ok (.aload_n 0, 1) := by decide +kernel
theorem dX1_addToGroup_88 : decode cX1_addToGroup 88 = .ok (.getfield 16, 3) := by decide +kernel
theorem dX1_addToGroup_91 : decode cX1_addToGroup 91 = .ok (.iload_n 1, 1) := by decide +kernel
theorem dX1_addToGroup_92 : decode cX1_addToGroup 92 = .ok (.dup2, 1) := by decide +kernel
theorem dX1_addToGroup_93 : decode cX1_addToGroup 93 = .ok (.iaload, 1) := by decide +kernel
theorem dX1_addToGroup_94 : decode cX1_addToGroup 94 = .ok (.iconst 1, 1) := by decide +kernel
theorem dX1_addToGroup_95 : decode cX1_addToGroup 95 = .ok (.iadd, 1) := by decide +kernel
theorem dX1_addToGroup_96 : decode cX1_addToGroup 96 = .ok (.iastore, 1) := by decide +kernel
theorem dX1_addToGroup_97 : decode cX1_addToGroup 97 = .ok (.return_, 1) := by decide +kernel
theorem dX2_init_0 : decode cX2_init 0 = .ok (.aload_n 0, 1) := by decide +kernel
theorem dX2_init_1 : decode cX2_init 1 = .ok (.invokespecial 3, 3) := by decide +kernel
theorem dX2_init_4 : decode cX2_init 4 = .ok (.aload_n 0, 1) := by decide +kernel
theorem dX2_init_5 : decode cX2_init 5 = .ok (.bipush 10, 2) := by decide +kernel
theorem dX2_init_7 : decode cX2_init 7 = .ok (.newarray .int, 2) := by decide +kernel
theorem dX2_init_9 : decode cX2_init 9 = .ok (.putfield 9, 3) := by decide +kernel
theorem dX2_init_12 : decode cX2_init 12 = .ok (.aload_n 0, 1) := by decide +kernel
theorem dX2_init_13 : decode cX2_init 13 = .ok (.bipush 10, 2) := by decide +kernel
theorem dX2_init_15 : decode cX2_init 15 = .ok (.newarray .int, 2) := by decide +kernel
theorem dX2_init_17 : decode cX2_init 17 = .ok (.putfield 15, 3) := by decide +kernel
theorem dX2_init_20 : decode cX2_init 20 = .ok (.aload_n 0, 1) := by decide +kernel
theorem dX2_init_21 : decode cX2_init 21 = .ok (.bipush 10, 2) := by decide +kernel
theorem dX2_init_23 : decode cX2_init 23 = .ok (.newarray .int, 2) := by decide +kernel
theorem dX2_init_25 : decode cX2_init 25 = .ok (.putfield 18, 3) := by decide +kernel
theorem dX2_init_28 : decode cX2_init 28 = .ok (.aload_n 0, 1) := by decide +kernel
theorem dX2_init_29 : decode cX2_init 29 = .ok (.iconst 0, 1) := by decide +kernel
theorem dX2_init_30 : decode cX2_init 30 = .ok (.putfield 21, 3) := by decide +kernel
theorem dX2_init_33 : decode cX2_init 33 = .ok (.return_, 1) := by decide +kernel
theorem dX2_setOne_0 : decode cX2_setOne 0 = .ok (.aload_n 0, 1) := by decide +kernel
theorem dX2_setOne_1 : decode cX2_setOne 1 = .ok (.getfield 9, 3) := by decide +kernel
theorem dX2_setOne_4 : decode cX2_setOne 4 = .ok (.iconst 0, 1) := by decide +kernel
theorem dX2_setOne_5 : decode cX2_setOne 5 = .ok (.iload_n 1, 1) := by decide +kernel
theorem dX2_setOne_6 : decode cX2_setOne 6 = .ok (.iastore, 1) := by decide +kernel
theorem dX2_setOne_7 : decode cX2_setOne 7 = .ok (.aload_n 0, 1) := by decide +kernel
theorem dX2_setOne_8 : decode cX2_setOne 8 = .ok (.getfield 15, 3) := by decide +kernel
theorem dX2_setOne_11 : decode cX2_setOne 11 = .ok (.iconst 0, 1) := by decide +kernel
theorem dX2_setOne_12 : decode cX2_setOne 12 = .ok (.iload_n 2, 1) := by decide +kernel
theorem dX2_setOne_13 : decode cX2_setOne 13 = .ok (.iastore, 1) := by decide +kernel
theorem dX2_setOne_14 : decode cX2_setOne 14 = .ok (.aload_n 0, 1) := by decide +kernel
theorem dX2_setOne_15 : decode cX2_setOne 15 = .ok (.iconst 1, 1) := by decide +kernel
theorem dX2_setOne_16 : decode cX2_setOne 16 = .ok (.putfield 21, 3) := by decide +kernel
theorem dX2_setOne_19 : decode cX2_setOne 19 = .ok (.return_, 1) := by decide +kernel
theorem dX2_setNone_0 : decode cX2_setNone 0 = .ok (.aload_n 0, 1) := by decide +kernel
theorem dX2_setNone_1 : decode cX2_setNone 1 = .ok (.iconst 0, 1) := by decide +kernel
theorem dX2_setNone_2 : decode cX2_setNone 2 = .ok (.putfield 21, 3) := by decide +kernel
theorem dX2_setNone_5 : decode cX2_setNone 5 = .ok (.aload_n 0, 1) := by decide +kernel
theorem dX2_setNone_6 : decode cX2_setNone 6 = .ok (.getfield 18, 3) := by decide +kernel
theorem dX2_setNone_9 : decode cX2_setNone 9 = .ok (.iconst 0, 1) := by decide +kernel
theorem dX2_setNone_10 : decode cX2_setNone 10 = .ok (.invokestatic 25, 3) := by decide +kernel
theorem dX2_setNone_13 : decode cX2_setNone 13 = .ok (.return_, 1) := by decide +kernel
theorem dX2_gather_0 : decode cX2_gather 0 = .ok (.aload_n 0, 1) := by decide +kernel
theorem dX2_gather_1 : decode cX2_gather 1 = .ok (.iconst 0, 1) := by decide +kernel
theorem dX2_gather_2 : decode cX2_gather 2 = .ok (.putfield 21, 3) := by decide +kernel
theorem dX2_gather_5 : decode cX2_gather 5 = .ok (.iconst 0, 1) := by decide +kernel
theorem dX2_gather_6 : decode cX2_gather 6 = .ok (.istore_n 3, 1) := by decide +kernel
theorem dX2_gather_7 : decode cX2_gather 7 = .ok (.iload_n 3, 1) := by decide +kernel
theorem dX2_gather_8 : decode cX2_gather 8 = .ok (.aload_n 1, 1) := by decide +kernel
theorem dX2_gather_9 : decode cX2_gather 9 = .ok (.getfield 31, 3) := by decide +kernel
theorem dX2_gather_12 : decode cX2_gather 12 = .ok (.if_icmp .ge 39, 3) := by decide +kernel
theorem dX2_gather_15 : decode cX2_gather 15 = .ok (.aload_n 0, 1) := by decide +kernel
theorem dX2_gather_16 : decode cX2_gather 16 = .ok (.getfield 18, 3) := by decide +kernel
theorem dX2_gather_19 : decode cX2_gather 19 = .ok (.iload_n 3, 1) := by decide +kernel
theorem dX2_gather_20 : decode cX2_gather 20 = .ok (.aload_n 0, 1) := by decide +kernel
theorem dX2_gather_21 : decode cX2_gather 21 = .ok (.aload_n 1, 1) := by decide +kernel
theorem dX2_gather_22 : decode cX2_gather 22 = .ok (.getfield 34, 3) := by decide +kernel
theorem dX2_gather_25 : decode cX2_gather 25 = .ok (.iload_n 3, 1) := by decide +kernel
theorem dX2_gather_26 : decode cX2_gather 26 = .ok (.iaload, 1) := by decide +kernel
theorem dX2_gather_27 : decode cX2_gather 27 = .ok (.iload_n 2, 1) := by decide +kernel
theorem dX2_gather_28 : decode cX2_gather 28 = .ok (.ifCond .eq 12, 3) := by decide +kernel
theorem dX2_gather_31 : decode cX2_gather 31 = .ok (.aload_n 1, 1) := by decide +kernel
theorem dX2_gather_32 : decode cX2_gather 32 = .ok (.getfield 35, 3) := by decide +kernel
theorem dX2_gather_35 : decode cX2_gather 35 = .ok (.iload_n 3, 1) := by decide +kernel
theorem dX2_gather_36 : decode cX2_gather 36 = .ok (.iaload, 1) := by decide +kernel
theorem dX2_gather_37 : decode cX2_gather 37 = .ok (.goto 4, 3) := by decide +kernel
theorem dX2_gather_40 : decode cX2_gather 40 = .ok (.iconst (-1), 1) := by decide +kernel
theorem dX2_gather_41 : decode cX2_gather 41 = .ok (.invokevirtual 36, 3) := by decide +kernel
theorem dX2_gather_44 : decode cX2_gather 44 = .ok (.iastore, 1) := by decide +kernel
theorem dX2_gather_45 : decode cX2_gather 45 = .ok (.iinc 3 1, 3) := by decide +kernel
theorem dX2_gather_48 : decode cX2_gather 48 = .ok (.goto (-41), 3) := by decide +kernel
theorem dX2_gather_51 : decode cX2_gather 51 = .ok (.return_, 1) := by decide +kernel
theorem dX2_keyAt_0 : decode cX2_keyAt 0 = .ok (.iload_n 1, 1) := by decide +kernel
theorem dX2_keyAt_1 : decode cX2_keyAt 1 = .ok (.ifCond .lt 20, 3) := by decide +kernel
theorem dX2_keyAt_4 : decode cX2_keyAt 4 = .ok (.iload_n 1, 1) := by decide +kernel
theorem dX2_keyAt_5 : decode cX2_keyAt 5 = .ok (.aload_n 0, 1) := by decide +kernel
theorem dX2_keyAt_6 : decode cX2_keyAt 6 = .ok (.getfield 21, 3) := by decide +kernel
theorem dX2_keyAt_9 : decode cX2_keyAt 9 = .ok (.if_icmp .ge 12, 3) := by decide +kernel
theorem dX2_keyAt_12 : decode cX2_keyAt 12 = .ok (.aload_n 0, 1) := by decide +kernel
theorem dX2_keyAt_13 : decode cX2_keyAt 13 = .ok (.getfield 9, 3) := by decide +kernel
theorem dX2_keyAt_16 : decode cX2_keyAt 16 = .ok (.iload_n 1, 1) := by decide +kernel
theorem dX2_keyAt_17 : decode cX2_keyAt 17 = .ok (.iaload, 1) := by decide +kernel
theorem dX2_keyAt_18 : decode cX2_keyAt 18 = .ok (.goto 4, 3) := by decide +kernel
theorem dX2_keyAt_21 : decode cX2_keyAt 21 = .ok (.iconst (-1), 1) := by decide +kernel
theorem dX2_keyAt_22 : decode cX2_keyAt 22 = .ok (.ireturn, 1) := by decide +kernel
theorem dX2_valueAt_0 : decode cX2_valueAt 0 = .ok (.iload_n 1, 1) := by decide +kernel
theorem dX2_valueAt_1 : decode cX2_valueAt 1 = .ok (.ifCond .lt 20, 3) := by decide +kernel
theorem dX2_valueAt_4 : decode cX2_valueAt 4 = .ok (.iload_n 1, 1) := by decide +kernel
theorem dX2_valueAt_5 : decode cX2_valueAt 5 = .ok (.aload_n 0, 1) := by decide +kernel
theorem dX2_valueAt_6 : decode cX2_valueAt 6 = .ok (.getfield 21, 3) := by decide +kernel
theorem dX2_valueAt_9 : decode cX2_valueAt 9 = .ok (.if_icmp .ge 12, 3) := by decide +kernel
theorem dX2_valueAt_12 : decode cX2_valueAt 12 = .ok (.aload_n 0, 1) := by decide +kernel
theorem dX2_valueAt_13 : decode cX2_valueAt 13 = .ok (.getfield 15, 3) := by decide +kernel
theorem dX2_valueAt_16 : decode cX2_valueAt 16 = .ok (.iload_n 1, 1) := by decide +kernel
theorem dX2_valueAt_17 : decode cX2_valueAt 17 = .ok (.iaload, 1) := by decide +kernel
theorem dX2_valueAt_18 : decode cX2_valueAt 18 = .ok (.goto 4, 3) := by decide +kernel
theorem dX2_valueAt_21 : decode cX2_valueAt 21 = .ok (.iconst (-1), 1) := by decide +kernel
theorem dX2_valueAt_22 : decode cX2_valueAt 22 = .ok (.ireturn, 1) := by decide +kernel
theorem dX2_placeOf_0 : decode cX2_placeOf 0 = .ok (.iconst 0, 1) := by decide +kernel
theorem dX2_placeOf_1 : decode cX2_placeOf 1 = .ok (.istore_n 3, 1) := by decide +kernel
theorem dX2_placeOf_2 : decode cX2_placeOf 2 = .ok (.iload_n 3, 1) := by decide +kernel
theorem dX2_placeOf_3 : decode cX2_placeOf 3 = .ok (.aload_n 0, 1) := by decide +kernel
theorem dX2_placeOf_4 : decode cX2_placeOf 4 = .ok (.getfield 21, 3) := by decide +kernel
theorem dX2_placeOf_7 : decode cX2_placeOf 7 = .ok (.if_icmp .ge 31, 3) := by decide +kernel
theorem dX2_placeOf_10 : decode cX2_placeOf 10 = .ok (.aload_n 0, 1) := by decide +kernel
theorem dX2_placeOf_11 : decode cX2_placeOf 11 = .ok (.getfield 9, 3) := by decide +kernel
theorem dX2_placeOf_14 : decode cX2_placeOf 14 = .ok (.iload_n 3, 1) := by decide +kernel
theorem dX2_placeOf_15 : decode cX2_placeOf 15 = .ok (.iaload, 1) := by decide +kernel
theorem dX2_placeOf_16 : decode cX2_placeOf 16 = .ok (.iload_n 1, 1) := by decide +kernel
theorem dX2_placeOf_17 : decode cX2_placeOf 17 = .ok (.if_icmp .ne 15, 3) := by decide +kernel
theorem dX2_placeOf_20 : decode cX2_placeOf 20 = .ok (.aload_n 0, 1) := by decide +kernel
theorem dX2_placeOf_21 : decode cX2_placeOf 21 = .ok (.getfield 15, 3) := by decide +kernel
theorem dX2_placeOf_24 : decode cX2_placeOf 24 = .ok (.iload_n 3, 1) := by decide +kernel
theorem dX2_placeOf_25 : decode cX2_placeOf 25 = .ok (.iaload, 1) := by decide +kernel
theorem dX2_placeOf_26 : decode cX2_placeOf 26 = .ok (.iload_n 2, 1) := by decide +kernel
theorem dX2_placeOf_27 : decode cX2_placeOf 27 = .ok (.if_icmp .ne 5, 3) := by decide +kernel
theorem dX2_placeOf_30 : decode cX2_placeOf 30 = .ok (.iload_n 3, 1) := by decide +kernel
theorem dX2_placeOf_31 : decode cX2_placeOf 31 = .ok (.ireturn, 1) := by decide +kernel
theorem dX2_placeOf_32 : decode cX2_placeOf 32 = .ok (.iinc 3 1, 3) := by decide +kernel
theorem dX2_placeOf_35 : decode cX2_placeOf 35 = .ok (.goto (-33), 3) := by decide +kernel
theorem dX2_placeOf_38 : decode cX2_placeOf 38 = .ok (.aload_n 0, 1) := by decide +kernel
theorem dX2_placeOf_39 : decode cX2_placeOf 39 = .ok (.getfield 21, 3) := by decide +kernel
theorem dX2_placeOf_42 : decode cX2_placeOf 42 = .ok (.bipush 10, 2) := by decide +kernel
theorem dX2_placeOf_44 : decode cX2_placeOf 44 = .ok (.if_icmp .lt 5, 3) := by decide +kernel
theorem dX2_placeOf_47 : decode cX2_placeOf 47 = .ok (.iconst 0, 1) := by decide +kernel
theorem dX2_placeOf_48 : decode cX2_placeOf 48 = .ok (.ireturn, 1) := by decide +kernel
theorem dX2_placeOf_49 : decode cX2_placeOf 49 = .ok (.aload_n 0, 1) := by decide +kernel
theorem dX2_placeOf_50 : decode cX2_placeOf 50 = .ok (.getfield 9, 3) := by decide +kernel
theorem dX2_placeOf_53 : decode cX2_placeOf 53 = .ok (.aload_n 0, 1) := by decide +kernel
theorem dX2_placeOf_54 : decode cX2_placeOf 54 = .ok (.getfield 21, 3) := by decide +kernel
theorem dX2_placeOf_57 : decode cX2_placeOf 57 = .ok (.iload_n 1, 1) := by decide +kernel
theorem dX2_placeOf_58 : decode cX2_placeOf 58 = .ok (.iastore, 1) := by decide +kernel
theorem dX2_placeOf_59 : decode cX2_placeOf 59 = .ok (.aload_n 0, 1) := by decide +kernel
theorem dX2_placeOf_60 : decode cX2_placeOf 60 = .ok (.getfield 15, 3) := by decide +kernel
theorem dX2_placeOf_63 : decode cX2_placeOf 63 = .ok (.aload_n 0, 1) := by decide +kernel
theorem dX2_placeOf_64 : decode cX2_placeOf 64 = .ok (.getfield 21, 3) := by decide +kernel
theorem dX2_placeOf_67 : decode cX2_placeOf 67 = .ok (.iload_n 2, 1) := by decide +kernel
theorem dX2_placeOf_68 : decode cX2_placeOf 68 = .ok (.iastore, 1) := by decide +kernel
theorem dX2_placeOf_69 : decode cX2_placeOf 69 = .ok (.aload_n 0, 1) := by decide +kernel
theorem dX2_placeOf_70 : decode cX2_placeOf 70 = .ok (.dup, 1) := by decide +kernel
theorem dX2_placeOf_71 : decode cX2_placeOf 71 = .ok (.getfield 21, 3) := by decide +kernel
theorem dX2_placeOf_74 : decode cX2_placeOf 74 = .ok (.iconst 1, 1) := by decide +kernel
theorem dX2_placeOf_75 : decode cX2_placeOf 75 = .ok (.iadd, 1) := by decide +kernel
theorem dX2_placeOf_76 : decode cX2_placeOf 76 = .ok (.putfield 21, 3) := by decide +kernel
theorem dX2_placeOf_79 : decode cX2_placeOf 79 = .ok (.aload_n 0, 1) := by decide +kernel
theorem dX2_placeOf_80 : decode cX2_placeOf 80 = .ok (.getfield 21, 3) := by decide +kernel
theorem dX2_placeOf_83 : decode cX2_placeOf 83 = .ok (.iconst 1, 1) := by decide +kernel
theorem dX2_placeOf_84 : decode cX2_placeOf 84 = .ok (.isub, 1) := by decide +kernel
theorem dX2_placeOf_85 : decode cX2_placeOf 85 = .ok (.ireturn, 1) := by decide +kernel
theorem dX3_init_0 : decode cX3_init 0 = .ok (.aload_n 0, 1) := by decide +kernel
theorem dX3_init_1 : decode cX3_init 1 = .ok (.invokespecial 1, 3) := by decide +kernel
theorem dX3_init_4 : decode cX3_init 4 = .ok (.aload_n 0, 1) := by decide +kernel
theorem dX3_init_5 : decode cX3_init 5 = .ok (.new 7, 3) := by decide +kernel
theorem dX3_init_8 : decode cX3_init 8 = .ok (.dup, 1) := by decide +kernel
theorem dX3_init_9 : decode cX3_init 9 = .ok (.invokespecial 9, 3) := by decide +kernel
theorem dX3_init_12 : decode cX3_init 12 = .ok (.putfield 10, 3) := by decide +kernel
theorem dX3_init_15 : decode cX3_init 15 = .ok (.aload_n 0, 1) := by decide +kernel
theorem dX3_init_16 : decode cX3_init 16 = .ok (.new 7, 3) := by decide +kernel
theorem dX3_init_19 : decode cX3_init 19 = .ok (.dup, 1) := by decide +kernel
theorem dX3_init_20 : decode cX3_init 20 = .ok (.invokespecial 9, 3) := by decide +kernel
theorem dX3_init_23 : decode cX3_init 23 = .ok (.putfield 16, 3) := by decide +kernel
theorem dX3_init_26 : decode cX3_init 26 = .ok (.aload_n 0, 1) := by decide +kernel
theorem dX3_init_27 : decode cX3_init 27 = .ok (.new 19, 3) := by decide +kernel
theorem dX3_init_30 : decode cX3_init 30 = .ok (.dup, 1) := by decide +kernel
theorem dX3_init_31 : decode cX3_init 31 = .ok (.invokespecial 21, 3) := by decide +kernel
theorem dX3_init_34 : decode cX3_init 34 = .ok (.putfield 22, 3) := by decide +kernel
theorem dX3_init_37 : decode cX3_init 37 = .ok (.return_, 1) := by decide +kernel
theorem dX4_init_0 : decode cX4_init 0 = .ok (.aload_n 0, 1) := by decide +kernel
theorem dX4_init_1 : decode cX4_init 1 = .ok (.invokespecial 3, 3) := by decide +kernel
theorem dX4_init_4 : decode cX4_init 4 = .ok (.aload_n 0, 1) := by decide +kernel
theorem dX4_init_5 : decode cX4_init 5 = .ok (.bipush 10, 2) := by decide +kernel
theorem dX4_init_7 : decode cX4_init 7 = .ok (.newarray .int, 2) := by decide +kernel
theorem dX4_init_9 : decode cX4_init 9 = .ok (.putfield 9, 3) := by decide +kernel
theorem dX4_init_12 : decode cX4_init 12 = .ok (.aload_n 0, 1) := by decide +kernel
theorem dX4_init_13 : decode cX4_init 13 = .ok (.bipush 10, 2) := by decide +kernel
theorem dX4_init_15 : decode cX4_init 15 = .ok (.newarray .float, 2) := by decide +kernel
theorem dX4_init_17 : decode cX4_init 17 = .ok (.putfield 15, 3) := by decide +kernel
theorem dX4_init_20 : decode cX4_init 20 = .ok (.aload_n 0, 1) := by decide +kernel
theorem dX4_init_21 : decode cX4_init 21 = .ok (.sipush 200, 3) := by decide +kernel
theorem dX4_init_24 : decode cX4_init 24 = .ok (.newarray .int, 2) := by decide +kernel
theorem dX4_init_26 : decode cX4_init 26 = .ok (.putfield 19, 3) := by decide +kernel
theorem dX4_init_29 : decode cX4_init 29 = .ok (.aload_n 0, 1) := by decide +kernel
theorem dX4_init_30 : decode cX4_init 30 = .ok (.iconst 0, 1) := by decide +kernel
theorem dX4_init_31 : decode cX4_init 31 = .ok (.putfield 22, 3) := by decide +kernel
theorem dX4_init_34 : decode cX4_init 34 = .ok (.aload_n 0, 1) := by decide +kernel
theorem dX4_init_35 : decode cX4_init 35 = .ok (.iconst (-1), 1) := by decide +kernel
theorem dX4_init_36 : decode cX4_init 36 = .ok (.putfield 26, 3) := by decide +kernel
theorem dX4_init_39 : decode cX4_init 39 = .ok (.aload_n 0, 1) := by decide +kernel
theorem dX4_init_40 : decode cX4_init 40 = .ok (.iconst 0, 1) := by decide +kernel
theorem dX4_init_41 : decode cX4_init 41 = .ok (.putfield 29, 3) := by decide +kernel
theorem dX4_init_44 : decode cX4_init 44 = .ok (.aload_n 0, 1) := by decide +kernel
theorem dX4_init_45 : decode cX4_init 45 = .ok (.iconst 0, 1) := by decide +kernel
theorem dX4_init_46 : decode cX4_init 46 = .ok (.putfield 32, 3) := by decide +kernel
theorem dX4_init_49 : decode cX4_init 49 = .ok (.aload_n 0, 1) := by decide +kernel
theorem dX4_init_50 : decode cX4_init 50 = .ok (.iconst 0, 1) := by decide +kernel
theorem dX4_init_51 : decode cX4_init 51 = .ok (.putfield 35, 3) := by decide +kernel
theorem dX4_init_54 : decode cX4_init 54 = .ok (.aload_n 0, 1) := by decide +kernel
theorem dX4_init_55 : decode cX4_init 55 = .ok (.iconst 0, 1) := by decide +kernel
theorem dX4_init_56 : decode cX4_init 56 = .ok (.putfield 38, 3) := by decide +kernel
theorem dX4_init_59 : decode cX4_init 59 = .ok (.aload_n 0, 1) := by decide +kernel
theorem dX4_init_60 : decode cX4_init 60 = .ok (.iconst 0, 1) := by decide +kernel
theorem dX4_init_61 : decode cX4_init 61 = .ok (.putfield 41, 3) := by decide +kernel
theorem dX4_init_64 : decode cX4_init 64 = .ok (.return_, 1) := by decide +kernel
theorem dX4_clear_0 : decode cX4_clear 0 = .ok (.aload_n 0, 1) := by decide +kernel
theorem dX4_clear_1 : decode cX4_clear 1 = .ok (.iconst 0, 1) := by decide +kernel
theorem dX4_clear_2 : decode cX4_clear 2 = .ok (.putfield 22, 3) := by decide +kernel
theorem dX4_clear_5 : decode cX4_clear 5 = .ok (.aload_n 0, 1) := by decide +kernel
theorem dX4_clear_6 : decode cX4_clear 6 = .ok (.iconst (-1), 1) := by decide +kernel
theorem dX4_clear_7 : decode cX4_clear 7 = .ok (.putfield 26, 3) := by decide +kernel
theorem dX4_clear_10 : decode cX4_clear 10 = .ok (.aload_n 0, 1) := by decide +kernel
theorem dX4_clear_11 : decode cX4_clear 11 = .ok (.iconst 0, 1) := by decide +kernel
theorem dX4_clear_12 : decode cX4_clear 12 = .ok (.putfield 29, 3) := by decide +kernel
theorem dX4_clear_15 : decode cX4_clear 15 = .ok (.aload_n 0, 1) := by decide +kernel
theorem dX4_clear_16 : decode cX4_clear 16 = .ok (.iconst 0, 1) := by decide +kernel
theorem dX4_clear_17 : decode cX4_clear 17 = .ok (.putfield 32, 3) := by decide +kernel
theorem dX4_clear_20 : decode cX4_clear 20 = .ok (.aload_n 0, 1) := by decide +kernel
theorem dX4_clear_21 : decode cX4_clear 21 = .ok (.iconst 0, 1) := by decide +kernel
theorem dX4_clear_22 : decode cX4_clear 22 = .ok (.putfield 35, 3) := by decide +kernel
theorem dX4_clear_25 : decode cX4_clear 25 = .ok (.aload_n 0, 1) := by decide +kernel
theorem dX4_clear_26 : decode cX4_clear 26 = .ok (.iconst 0, 1) := by decide +kernel
theorem dX4_clear_27 : decode cX4_clear 27 = .ok (.putfield 38, 3) := by decide +kernel
theorem dX4_clear_30 : decode cX4_clear 30 = .ok (.aload_n 0, 1) := by decide +kernel
theorem dX4_clear_31 : decode cX4_clear 31 = .ok (.iconst 0, 1) := by decide +kernel
theorem dX4_clear_32 : decode cX4_clear 32 = .ok (.putfield 41, 3) := by decide +kernel
theorem dX4_clear_35 : decode cX4_clear 35 = .ok (.return_, 1) := by decide +kernel
theorem dX4_openAll_0 : decode cX4_openAll 0 = .ok (.iconst 0, 1) := by decide +kernel
theorem dX4_openAll_1 : decode cX4_openAll 1 = .ok (.istore_n 2, 1) := by decide +kernel
theorem dX4_openAll_2 : decode cX4_openAll 2 = .ok (.iload_n 2, 1) := by decide +kernel
theorem dX4_openAll_3 : decode cX4_openAll 3 = .ok (.aload_n 1, 1) := by decide +kernel
theorem dX4_openAll_4 : decode cX4_openAll 4 = .ok (.getfield 44, 3) := by decide +kernel
theorem dX4_openAll_7 : decode cX4_openAll 7 = .ok (.if_icmp .ge 54, 3) := by decide +kernel
theorem dX4_openAll_10 : decode cX4_openAll 10 = .ok (.aload_n 0, 1) := by decide +kernel
theorem dX4_openAll_11 : decode cX4_openAll 11 = .ok (.dup, 1) := by decide +kernel
theorem dX4_openAll_12 : decode cX4_openAll 12 = .ok (.getfield 35, 3) := by decide +kernel
theorem dX4_openAll_15 : decode cX4_openAll 15 = .ok (.iconst 1, 1) := by decide +kernel
theorem dX4_openAll_16 : decode cX4_openAll 16 = .ok (.iadd, 1) := by decide +kernel
theorem dX4_openAll_17 : decode cX4_openAll 17 = .ok (.putfield 35, 3) := by decide +kernel
theorem dX4_openAll_20 : decode cX4_openAll 20 = .ok (.aload_n 0, 1) := by decide +kernel
theorem dX4_openAll_21 : decode cX4_openAll 21 = .ok (.dup, 1) := by decide +kernel
theorem dX4_openAll_22 : decode cX4_openAll 22 = .ok (.getfield 38, 3) := by decide +kernel
theorem dX4_openAll_25 : decode cX4_openAll 25 = .ok (.iconst 1, 1) := by decide +kernel
theorem dX4_openAll_26 : decode cX4_openAll 26 = .ok (.iadd, 1) := by decide +kernel
theorem dX4_openAll_27 : decode cX4_openAll 27 = .ok (.putfield 38, 3) := by decide +kernel
theorem dX4_openAll_30 : decode cX4_openAll 30 = .ok (.aload_n 0, 1) := by decide +kernel
theorem dX4_openAll_31 : decode cX4_openAll 31 = .ok (.aload_n 0, 1) := by decide +kernel
theorem dX4_openAll_32 : decode cX4_openAll 32 = .ok (.getfield 41, 3) := by decide +kernel
theorem dX4_openAll_35 : decode cX4_openAll 35 = .ok (.aload_n 0, 1) := by decide +kernel
theorem dX4_openAll_36 : decode cX4_openAll 36 = .ok (.getfield 38, 3) := by decide +kernel
theorem dX4_openAll_39 : decode cX4_openAll 39 = .ok (.invokestatic 49, 3) := by decide +kernel
theorem dX4_openAll_42 : decode cX4_openAll 42 = .ok (.putfield 41, 3) := by decide +kernel
theorem dX4_openAll_45 : decode cX4_openAll 45 = .ok (.aload_n 0, 1) := by decide +kernel
theorem dX4_openAll_46 : decode cX4_openAll 46 = .ok (.aload_n 1, 1) := by decide +kernel
theorem dX4_openAll_47 : decode cX4_openAll 47 = .ok (.getfield 55, 3) := by decide +kernel
theorem dX4_openAll_50 : decode cX4_openAll 50 = .ok (.iload_n 2, 1) := by decide +kernel
theorem dX4_openAll_51 : decode cX4_openAll 51 = .ok (.iaload, 1) := by decide +kernel
theorem dX4_openAll_52 : decode cX4_openAll 52 = .ok (.invokevirtual 58, 3) := by decide +kernel
theorem dX4_openAll_55 : decode cX4_openAll 55 = .ok (.iinc 2 1, 3) := by decide +kernel
theorem dX4_openAll_58 : decode cX4_openAll 58 = .ok (.goto (-56), 3) := by decide +kernel
theorem dX4_openAll_61 : decode cX4_openAll 61 = .ok (.return_, 1) := by decide +kernel
theorem dX4_shutAll_0 : decode cX4_shutAll 0 = .ok (.aload_n 1, 1) := by decide +kernel
theorem dX4_shutAll_1 : decode cX4_shutAll 1 = .ok (.getfield 44, 3) := by decide +kernel
theorem dX4_shutAll_4 : decode cX4_shutAll 4 = .ok (.iconst 1, 1) := by decide +kernel
theorem dX4_shutAll_5 : decode cX4_shutAll 5 = .ok (.isub, 1) := by decide +kernel
theorem dX4_shutAll_6 : decode cX4_shutAll 6 = .ok (.istore_n 2, 1) := by decide +kernel
theorem dX4_shutAll_7 : decode cX4_shutAll 7 = .ok (.iload_n 2, 1) := by decide +kernel
theorem dX4_shutAll_8 : decode cX4_shutAll 8 = .ok (.ifCond .lt 32, 3) := by decide +kernel
theorem dX4_shutAll_11 : decode cX4_shutAll 11 = .ok (.aload_n 0, 1) := by decide +kernel
theorem dX4_shutAll_12 : decode cX4_shutAll 12 = .ok (.dup, 1) := by decide +kernel
theorem dX4_shutAll_13 : decode cX4_shutAll 13 = .ok (.getfield 38, 3) := by decide +kernel
theorem dX4_shutAll_16 : decode cX4_shutAll 16 = .ok (.iconst 1, 1) := by decide +kernel
theorem dX4_shutAll_17 : decode cX4_shutAll 17 = .ok (.isub, 1) := by decide +kernel
theorem dX4_shutAll_18 : decode cX4_shutAll 18 = .ok (.putfield 38, 3) := by decide +kernel
theorem dX4_shutAll_21 : decode cX4_shutAll 21 = .ok (.aload_n 0, 1) := by decide +kernel
theorem dX4_shutAll_22 : decode cX4_shutAll 22 = .ok (.bipush 10, 2) := by decide +kernel
theorem dX4_shutAll_24 : decode cX4_shutAll 24 = .ok (.aload_n 1, 1) := by decide +kernel
theorem dX4_shutAll_25 : decode cX4_shutAll 25 = .ok (.getfield 55, 3) := by decide +kernel
theorem dX4_shutAll_28 : decode cX4_shutAll 28 = .ok (.iload_n 2, 1) := by decide +kernel
theorem dX4_shutAll_29 : decode cX4_shutAll 29 = .ok (.iaload, 1) := by decide +kernel
theorem dX4_shutAll_30 : decode cX4_shutAll 30 = .ok (.iadd, 1) := by decide +kernel
theorem dX4_shutAll_31 : decode cX4_shutAll 31 = .ok (.invokevirtual 58, 3) := by decide +kernel
theorem dX4_shutAll_34 : decode cX4_shutAll 34 = .ok (.iinc 2 (-1), 3) := by decide +kernel
theorem dX4_shutAll_37 : decode cX4_shutAll 37 = .ok (.goto (-30), 3) := by decide +kernel
theorem dX4_shutAll_40 : decode cX4_shutAll 40 = .ok (.return_, 1) := by decide +kernel
theorem dX4_tell_0 : decode cX4_tell 0 = .ok (.aload_n 0, 1) := by decide +kernel
theorem dX4_tell_1 : decode cX4_tell 1 = .ok (.getfield 22, 3) := by decide +kernel
theorem dX4_tell_4 : decode cX4_tell 4 = .ok (.sipush 200, 3) := by decide +kernel
theorem dX4_tell_7 : decode cX4_tell 7 = .ok (.if_icmp .ge 23, 3) := by decide +kernel
theorem dX4_tell_10 : decode cX4_tell 10 = .ok (.aload_n 0, 1) := by decide +kernel
theorem dX4_tell_11 : decode cX4_tell 11 = .ok (.getfield 19, 3) := by decide +kernel
theorem dX4_tell_14 : decode cX4_tell 14 = .ok (.aload_n 0, 1) := by decide +kernel
theorem dX4_tell_15 : decode cX4_tell 15 = .ok (.getfield 22, 3) := by decide +kernel
theorem dX4_tell_18 : decode cX4_tell 18 = .ok (.iload_n 1, 1) := by decide +kernel
theorem dX4_tell_19 : decode cX4_tell 19 = .ok (.iastore, 1) := by decide +kernel
theorem dX4_tell_20 : decode cX4_tell 20 = .ok (.aload_n 0, 1) := by decide +kernel
theorem dX4_tell_21 : decode cX4_tell 21 = .ok (.dup, 1) := by decide +kernel
theorem dX4_tell_22 : decode cX4_tell 22 = .ok (.getfield 22, 3) := by decide +kernel
theorem dX4_tell_25 : decode cX4_tell 25 = .ok (.iconst 1, 1) := by decide +kernel
theorem dX4_tell_26 : decode cX4_tell 26 = .ok (.iadd, 1) := by decide +kernel
theorem dX4_tell_27 : decode cX4_tell 27 = .ok (.putfield 22, 3) := by decide +kernel
theorem dX4_tell_30 : decode cX4_tell 30 = .ok (.return_, 1) := by decide +kernel
theorem dX4_settle_0 : decode cX4_settle 0 = .ok (.aload_n 2, 1) := by decide +kernel
theorem dX4_settle_1 : decode cX4_settle 1 = .ok (.iload_n 3, 1) := by decide +kernel
theorem dX4_settle_2 : decode cX4_settle 2 = .ok (.invokevirtual 62, 3) := by decide +kernel
theorem dX4_settle_5 : decode cX4_settle 5 = .ok (.ifCond .eq 11, 3) := by decide +kernel
theorem dX4_settle_8 : decode cX4_settle 8 = .ok (.aload_n 0, 1) := by decide +kernel
theorem dX4_settle_9 : decode cX4_settle 9 = .ok (.iload_n 1, 1) := by decide +kernel
theorem dX4_settle_10 : decode cX4_settle 10 = .ok (.putfield 26, 3) := by decide +kernel
theorem dX4_settle_13 : decode cX4_settle 13 = .ok (.goto 26, 3) := by decide +kernel
theorem dX4_settle_16 : decode cX4_settle 16 = .ok (.aload_n 0, 1) := by decide +kernel
theorem dX4_settle_17 : decode cX4_settle 17 = .ok (.getfield 9, 3) := by decide +kernel
theorem dX4_settle_20 : decode cX4_settle 20 = .ok (.iload_n 1, 1) := by decide +kernel
theorem dX4_settle_21 : decode cX4_settle 21 = .ok (.aload_n 2, 1) := by decide +kernel
theorem dX4_settle_22 : decode cX4_settle 22 = .ok (.iload_n 3, 1) := by decide +kernel
theorem dX4_settle_23 : decode cX4_settle 23 = .ok (.iload 4, 2) := by decide +kernel
theorem dX4_settle_25 : decode cX4_settle 25 = .ok (.invokevirtual 68, 3) := by decide +kernel
theorem dX4_settle_28 : decode cX4_settle 28 = .ok (.iastore, 1) := by decide +kernel
theorem dX4_settle_29 : decode cX4_settle 29 = .ok (.aload_n 0, 1) := by decide +kernel
theorem dX4_settle_30 : decode cX4_settle 30 = .ok (.getfield 15, 3) := by decide +kernel
theorem dX4_settle_33 : decode cX4_settle 33 = .ok (.iload_n 1, 1) := by decide +kernel
theorem dX4_settle_34 : decode cX4_settle 34 = .ok (.aload_n 2, 1) := by decide +kernel
theorem dX4_settle_35 : decode cX4_settle 35 = .ok (.invokevirtual 71, 3) := by decide +kernel
theorem dX4_settle_38 : decode cX4_settle 38 = .ok (.fastore, 1) := by decide +kernel
theorem dX4_settle_39 : decode cX4_settle 39 = .ok (.return_, 1) := by decide +kernel
theorem dX4_answerOf_0 : decode cX4_answerOf 0 = .ok (.aload_n 0, 1) := by decide +kernel
theorem dX4_answerOf_1 : decode cX4_answerOf 1 = .ok (.getfield 26, 3) := by decide +kernel
theorem dX4_answerOf_4 : decode cX4_answerOf 4 = .ok (.iconst (-1), 1) := by decide +kernel
theorem dX4_answerOf_5 : decode cX4_answerOf 5 = .ok (.if_icmp .ne 12, 3) := by decide +kernel
theorem dX4_answerOf_8 : decode cX4_answerOf 8 = .ok (.aload_n 0, 1) := by decide +kernel
theorem dX4_answerOf_9 : decode cX4_answerOf 9 = .ok (.getfield 9, 3) := by decide +kernel
theorem dX4_answerOf_12 : decode cX4_answerOf 12 = .ok (.iload_n 1, 1) := by decide +kernel
theorem dX4_answerOf_13 : decode cX4_answerOf 13 = .ok (.iaload, 1) := by decide +kernel
theorem dX4_answerOf_14 : decode cX4_answerOf 14 = .ok (.goto 5, 3) := by decide +kernel
theorem dX4_answerOf_17 : decode cX4_answerOf 17 = .ok (.bipush (-3), 2) := by decide +kernel
theorem dX4_answerOf_19 : decode cX4_answerOf 19 = .ok (.ireturn, 1) := by decide +kernel
theorem dX4_loggedAt_0 : decode cX4_loggedAt 0 = .ok (.iload_n 1, 1) := by decide +kernel
theorem dX4_loggedAt_1 : decode cX4_loggedAt 1 = .ok (.aload_n 0, 1) := by decide +kernel
theorem dX4_loggedAt_2 : decode cX4_loggedAt 2 = .ok (.getfield 22, 3) := by decide +kernel
theorem dX4_loggedAt_5 : decode cX4_loggedAt 5 = .ok (.invokestatic 75, 3) := by decide +kernel
theorem dX4_loggedAt_8 : decode cX4_loggedAt 8 = .ok (.ifCond .eq 12, 3) := by decide +kernel
theorem dX4_loggedAt_11 : decode cX4_loggedAt 11 = .ok (.aload_n 0, 1) := by decide +kernel
theorem dX4_loggedAt_12 : decode cX4_loggedAt 12 = .ok (.getfield 19, 3) := by decide +kernel
theorem dX4_loggedAt_15 : decode cX4_loggedAt 15 = .ok (.iload_n 1, 1) := by decide +kernel
theorem dX4_loggedAt_16 : decode cX4_loggedAt 16 = .ok (.iaload, 1) := by decide +kernel
theorem dX4_loggedAt_17 : decode cX4_loggedAt 17 = .ok (.goto 4, 3) := by decide +kernel
theorem dX4_loggedAt_20 : decode cX4_loggedAt 20 = .ok (.iconst (-1), 1) := by decide +kernel
theorem dX4_loggedAt_21 : decode cX4_loggedAt 21 = .ok (.ireturn, 1) := by decide +kernel
theorem dX4_costOf_0 : decode cX4_costOf 0 = .ok (.iload_n 1, 1) := by decide +kernel
theorem dX4_costOf_1 : decode cX4_costOf 1 = .ok (.tableswitch 51 0 3 #[31, 36, 41, 46], 31) := by decide +kernel
theorem dX4_costOf_32 : decode cX4_costOf 32 = .ok (.aload_n 0, 1) := by decide +kernel
theorem dX4_costOf_33 : decode cX4_costOf 33 = .ok (.getfield 29, 3) := by decide +kernel
theorem dX4_costOf_36 : decode cX4_costOf 36 = .ok (.ireturn, 1) := by decide +kernel
theorem dX4_costOf_37 : decode cX4_costOf 37 = .ok (.aload_n 0, 1) := by decide +kernel
theorem dX4_costOf_38 : decode cX4_costOf 38 = .ok (.getfield 32, 3) := by decide +kernel
theorem dX4_costOf_41 : decode cX4_costOf 41 = .ok (.ireturn, 1) := by decide +kernel
theorem dX4_costOf_42 : decode cX4_costOf 42 = .ok (.aload_n 0, 1) := by decide +kernel
theorem dX4_costOf_43 : decode cX4_costOf 43 = .ok (.getfield 35, 3) := by decide +kernel
theorem dX4_costOf_46 : decode cX4_costOf 46 = .ok (.ireturn, 1) := by decide +kernel
theorem dX4_costOf_47 : decode cX4_costOf 47 = .ok (.aload_n 0, 1) := by decide +kernel
theorem dX4_costOf_48 : decode cX4_costOf 48 = .ok (.getfield 41, 3) := by decide +kernel
theorem dX4_costOf_51 : decode cX4_costOf 51 = .ok (.ireturn, 1) := by decide +kernel
theorem dX4_costOf_52 : decode cX4_costOf 52 = .ok (.aload_n 0, 1) := by decide +kernel
theorem dX4_costOf_53 : decode cX4_costOf 53 = .ok (.getfield 38, 3) := by decide +kernel
theorem dX4_costOf_56 : decode cX4_costOf 56 = .ok (.ireturn, 1) := by decide +kernel
theorem dX4_isLike_0 : decode cX4_isLike 0 = .ok (.aload_n 0, 1) := by decide +kernel
theorem dX4_isLike_1 : decode cX4_isLike 1 = .ok (.getfield 26, 3) := by decide +kernel
theorem dX4_isLike_4 : decode cX4_isLike 4 = .ok (.iconst (-1), 1) := by decide +kernel
theorem dX4_isLike_5 : decode cX4_isLike 5 = .ok (.if_icmp .ne 11, 3) := by decide +kernel
theorem dX4_isLike_8 : decode cX4_isLike 8 = .ok (.aload_n 1, 1) := by decide +kernel
theorem dX4_isLike_9 : decode cX4_isLike 9 = .ok (.getfield 26, 3) := by decide +kernel
theorem dX4_isLike_12 : decode cX4_isLike 12 = .ok (.iconst (-1), 1) := by decide +kernel
theorem dX4_isLike_13 : decode cX4_isLike 13 = .ok (.if_icmp .eq 20, 3) := by decide +kernel
theorem dX4_isLike_16 : decode cX4_isLike 16 = .ok (.aload_n 0, 1) := by decide +kernel
theorem dX4_isLike_17 : decode cX4_isLike 17 = .ok (.getfield 26, 3) := by decide +kernel
theorem dX4_isLike_20 : decode cX4_isLike 20 = .ok (.aload_n 1, 1) := by decide +kernel
theorem dX4_isLike_21 : decode cX4_isLike 21 = .ok (.getfield 26, 3) := by decide +kernel
theorem dX4_isLike_24 : decode cX4_isLike 24 = .ok (.if_icmp .ne 7, 3) := by decide +kernel
theorem dX4_isLike_27 : decode cX4_isLike 27 = .ok (.iconst 1, 1) := by decide +kernel
theorem dX4_isLike_28 : decode cX4_isLike 28 = .ok (.goto 4, 3) := by decide +kernel
theorem dX4_isLike_31 : decode cX4_isLike 31 = .ok (.iconst 0, 1) := by decide +kernel
theorem dX4_isLike_32 : decode cX4_isLike 32 = .ok (.ireturn, 1) := by decide +kernel
theorem dX4_isLike_33 : decode cX4_isLike 33 = .ok (.iconst 0, 1) := by decide +kernel
theorem dX4_isLike_34 : decode cX4_isLike 34 = .ok (.istore_n 3, 1) := by decide +kernel
theorem dX4_isLike_35 : decode cX4_isLike 35 = .ok (.iload_n 3, 1) := by decide +kernel
theorem dX4_isLike_36 : decode cX4_isLike 36 = .ok (.iload_n 2, 1) := by decide +kernel
theorem dX4_isLike_37 : decode cX4_isLike 37 = .ok (.if_icmp .ge 26, 3) := by decide +kernel
theorem dX4_isLike_40 : decode cX4_isLike 40 = .ok (.aload_n 0, 1) := by decide +kernel
theorem dX4_isLike_41 : decode cX4_isLike 41 = .ok (.getfield 9, 3) := by decide +kernel
theorem dX4_isLike_44 : decode cX4_isLike 44 = .ok (.iload_n 3, 1) := by decide +kernel
theorem dX4_isLike_45 : decode cX4_isLike 45 = .ok (.iaload, 1) := by decide +kernel
theorem dX4_isLike_46 : decode cX4_isLike 46 = .ok (.aload_n 1, 1) := by decide +kernel
theorem dX4_isLike_47 : decode cX4_isLike 47 = .ok (.getfield 9, 3) := by decide +kernel
theorem dX4_isLike_50 : decode cX4_isLike 50 = .ok (.iload_n 3, 1) := by decide +kernel
theorem dX4_isLike_51 : decode cX4_isLike 51 = .ok (.iaload, 1) := by decide +kernel
theorem dX4_isLike_52 : decode cX4_isLike 52 = .ok (.if_icmp .eq 5, 3) := by decide +kernel
theorem dX4_isLike_55 : decode cX4_isLike 55 = .ok (.iconst 0, 1) := by decide +kernel
theorem dX4_isLike_56 : decode cX4_isLike 56 = .ok (.ireturn, 1) := by decide +kernel
theorem dX4_isLike_57 : decode cX4_isLike 57 = .ok (.iinc 3 1, 3) := by decide +kernel
theorem dX4_isLike_60 : decode cX4_isLike 60 = .ok (.goto (-25), 3) := by decide +kernel
theorem dX4_isLike_63 : decode cX4_isLike 63 = .ok (.iconst 1, 1) := by decide +kernel
theorem dX4_isLike_64 : decode cX4_isLike 64 = .ok (.ireturn, 1) := by decide +kernel
theorem dX4_together_0 : decode cX4_together 0 = .ok (.aload_n 0, 1) := by decide +kernel
theorem dX4_together_1 : decode cX4_together 1 = .ok (.getfield 26, 3) := by decide +kernel
theorem dX4_together_4 : decode cX4_together 4 = .ok (.iconst (-1), 1) := by decide +kernel
theorem dX4_together_5 : decode cX4_together 5 = .ok (.if_icmp .eq 6, 3) := by decide +kernel
theorem dX4_together_8 : decode cX4_together 8 = .ok (.bipush (-3), 2) := by decide +kernel
theorem dX4_together_10 : decode cX4_together 10 = .ok (.ireturn, 1) := by decide +kernel
theorem dX4_together_11 : decode cX4_together 11 = .ok (.iconst 0, 1) := by decide +kernel
theorem dX4_together_12 : decode cX4_together 12 = .ok (.istore_n 3, 1) := by decide +kernel
theorem dX4_together_13 : decode cX4_together 13 = .ok (.fconst 0, 1) := by decide +kernel
theorem dX4_together_14 : decode cX4_together 14 = .ok (.fstore 4, 2) := by decide +kernel
theorem dX4_together_16 : decode cX4_together 16 = .ok (.iconst 0, 1) := by decide +kernel
theorem dX4_together_17 : decode cX4_together 17 = .ok (.istore 5, 2) := by decide +kernel
theorem dX4_together_19 : decode cX4_together 19 = .ok (.iload 5, 2) := by decide +kernel
theorem dX4_together_21 : decode cX4_together 21 = .ok (.iload_n 2, 1) := by decide +kernel
theorem dX4_together_22 : decode cX4_together 22 = .ok (.if_icmp .ge 42, 3) := by decide +kernel
theorem dX4_together_25 : decode cX4_together 25 = .ok (.aload_n 0, 1) := by decide +kernel
theorem dX4_together_26 : decode cX4_together 26 = .ok (.getfield 9, 3) := by decide +kernel
theorem dX4_together_29 : decode cX4_together 29 = .ok (.iload 5, 2) := by decide +kernel
theorem dX4_together_31 : decode cX4_together 31 = .ok (.iaload, 1) := by decide +kernel
theorem dX4_together_32 : decode cX4_together 32 = .ok (.iconst (-1), 1) := by decide +kernel
theorem dX4_together_33 : decode cX4_together 33 = .ok (.if_icmp .eq 25, 3) := by decide +kernel
theorem dX4_together_36 : decode cX4_together 36 = .ok (.iload_n 3, 1) := by decide +kernel
theorem dX4_together_37 : decode cX4_together 37 = .ok (.aload_n 0, 1) := by decide +kernel
theorem dX4_together_38 : decode cX4_together 38 = .ok (.getfield 9, 3) := by decide +kernel
theorem dX4_together_41 : decode cX4_together 41 = .ok (.iload 5, 2) := by decide +kernel
theorem dX4_together_43 : decode cX4_together 43 = .ok (.iaload, 1) := by decide +kernel
theorem dX4_together_44 : decode cX4_together 44 = .ok (.iadd, 1) := by decide +kernel
theorem dX4_together_45 : decode cX4_together 45 = .ok (.istore_n 3, 1) := by decide +kernel
theorem dX4_together_46 : decode cX4_together 46 = .ok (.fload 4, 2) := by decide +kernel
theorem dX4_together_48 : decode cX4_together 48 = .ok (.aload_n 0, 1) := by decide +kernel
theorem dX4_together_49 : decode cX4_together 49 = .ok (.getfield 15, 3) := by decide +kernel
theorem dX4_together_52 : decode cX4_together 52 = .ok (.iload 5, 2) := by decide +kernel
theorem dX4_together_54 : decode cX4_together 54 = .ok (.faload, 1) := by decide +kernel
theorem dX4_together_55 : decode cX4_together 55 = .ok (.fadd, 1) := by decide +kernel
theorem dX4_together_56 : decode cX4_together 56 = .ok (.fstore 4, 2) := by decide +kernel
theorem dX4_together_58 : decode cX4_together 58 = .ok (.iinc 5 1, 3) := by decide +kernel
theorem dX4_together_61 : decode cX4_together 61 = .ok (.goto (-42), 3) := by decide +kernel
theorem dX4_together_64 : decode cX4_together 64 = .ok (.iload_n 1, 1) := by decide +kernel
theorem dX4_together_65 : decode cX4_together 65 = .ok (.iconst 4, 1) := by decide +kernel
theorem dX4_together_66 : decode cX4_together 66 = .ok (.if_icmp .ne 11, 3) := by decide +kernel
theorem dX4_together_69 : decode cX4_together 69 = .ok (.fload 4, 2) := by decide +kernel
theorem dX4_together_71 : decode cX4_together 71 = .ok (.invokestatic 79, 3) := by decide +kernel
theorem dX4_together_74 : decode cX4_together 74 = .ok (.goto 4, 3) := by decide +kernel
theorem dX4_together_77 : decode cX4_together 77 = .ok (.iload_n 3, 1) := by decide +kernel
theorem dX4_together_78 : decode cX4_together 78 = .ok (.ireturn, 1) := by decide +kernel
theorem dX5_init_0 : decode cX5_init 0 = .ok (.aload_n 0, 1) := by decide +kernel
theorem dX5_init_1 : decode cX5_init 1 = .ok (.invokespecial 3, 3) := by decide +kernel
theorem dX5_init_4 : decode cX5_init 4 = .ok (.aload_n 0, 1) := by decide +kernel
theorem dX5_init_5 : decode cX5_init 5 = .ok (.new 9, 3) := by decide +kernel
theorem dX5_init_8 : decode cX5_init 8 = .ok (.dup, 1) := by decide +kernel
theorem dX5_init_9 : decode cX5_init 9 = .ok (.invokespecial 11, 3) := by decide +kernel
theorem dX5_init_12 : decode cX5_init 12 = .ok (.putfield 12, 3) := by decide +kernel
theorem dX5_init_15 : decode cX5_init 15 = .ok (.aload_n 0, 1) := by decide +kernel
theorem dX5_init_16 : decode cX5_init 16 = .ok (.new 18, 3) := by decide +kernel
theorem dX5_init_19 : decode cX5_init 19 = .ok (.dup, 1) := by decide +kernel
theorem dX5_init_20 : decode cX5_init 20 = .ok (.invokespecial 20, 3) := by decide +kernel
theorem dX5_init_23 : decode cX5_init 23 = .ok (.putfield 21, 3) := by decide +kernel
theorem dX5_init_26 : decode cX5_init 26 = .ok (.aload_n 0, 1) := by decide +kernel
theorem dX5_init_27 : decode cX5_init 27 = .ok (.new 25, 3) := by decide +kernel
theorem dX5_init_30 : decode cX5_init 30 = .ok (.dup, 1) := by decide +kernel
theorem dX5_init_31 : decode cX5_init 31 = .ok (.invokespecial 27, 3) := by decide +kernel
theorem dX5_init_34 : decode cX5_init 34 = .ok (.putfield 28, 3) := by decide +kernel
theorem dX5_init_37 : decode cX5_init 37 = .ok (.aload_n 0, 1) := by decide +kernel
theorem dX5_init_38 : decode cX5_init 38 = .ok (.ldc 32, 2) := by decide +kernel
theorem dX5_init_40 : decode cX5_init 40 = .ok (.putfield 33, 3) := by decide +kernel
theorem dX5_init_43 : decode cX5_init 43 = .ok (.aload_n 0, 1) := by decide +kernel
theorem dX5_init_44 : decode cX5_init 44 = .ok (.iconst 0, 1) := by decide +kernel
theorem dX5_init_45 : decode cX5_init 45 = .ok (.putfield 37, 3) := by decide +kernel
theorem dX5_init_48 : decode cX5_init 48 = .ok (.aload_n 0, 1) := by decide +kernel
theorem dX5_init_49 : decode cX5_init 49 = .ok (.aload_n 1, 1) := by decide +kernel
theorem dX5_init_50 : decode cX5_init 50 = .ok (.putfield 40, 3) := by decide +kernel
theorem dX5_init_53 : decode cX5_init 53 = .ok (.return_, 1) := by decide +kernel
theorem dX5_askRowByRow_0 : decode cX5_askRowByRow 0 = .ok (.aload_n 1, 1) := by decide +kernel
theorem dX5_askRowByRow_1 : decode cX5_askRowByRow 1 = .ok (.getfield 44, 3) := by decide +kernel
theorem dX5_askRowByRow_4 : decode cX5_askRowByRow 4 = .ok (.astore 4, 2) := by decide +kernel
theorem dX5_askRowByRow_6 : decode cX5_askRowByRow 6 = .ok (.aload_n 0, 1) := by decide +kernel
theorem dX5_askRowByRow_7 : decode cX5_askRowByRow 7 = .ok (.getfield 12, 3) := by decide +kernel
theorem dX5_askRowByRow_10 : decode cX5_askRowByRow 10 = .ok (.aload_n 1, 1) := by decide +kernel
theorem dX5_askRowByRow_11 : decode cX5_askRowByRow 11 = .ok (.getfield 50, 3) := by decide +kernel
theorem dX5_askRowByRow_14 : decode cX5_askRowByRow 14 = .ok (.iload_n 3, 1) := by decide +kernel
theorem dX5_askRowByRow_15 : decode cX5_askRowByRow 15 = .ok (.invokevirtual 54, 3) := by decide +kernel
theorem dX5_askRowByRow_18 : decode cX5_askRowByRow 18 = .ok (.aload_n 0, 1) := by decide +kernel
theorem dX5_askRowByRow_19 : decode cX5_askRowByRow 19 = .ok (.getfield 28, 3) := by decide +kernel
theorem dX5_askRowByRow_22 : decode cX5_askRowByRow 22 = .ok (.invokevirtual 58, 3) := by decide +kernel
theorem dX5_askRowByRow_25 : decode cX5_askRowByRow 25 = .ok (.aload_n 0, 1) := by decide +kernel
theorem dX5_askRowByRow_26 : decode cX5_askRowByRow 26 = .ok (.iload_n 2, 1) := by decide +kernel
theorem dX5_askRowByRow_27 : decode cX5_askRowByRow 27 = .ok (.iconst 5, 1) := by decide +kernel
theorem dX5_askRowByRow_28 : decode cX5_askRowByRow 28 = .ok (.if_icmp .ne 7, 3) := by decide +kernel
theorem dX5_askRowByRow_31 : decode cX5_askRowByRow 31 = .ok (.iconst 2, 1) := by decide +kernel
theorem dX5_askRowByRow_32 : decode cX5_askRowByRow 32 = .ok (.goto 15, 3) := by decide +kernel
theorem dX5_askRowByRow_35 : decode cX5_askRowByRow 35 = .ok (.iload_n 2, 1) := by decide +kernel
theorem dX5_askRowByRow_36 : decode cX5_askRowByRow 36 = .ok (.bipush 6, 2) := by decide +kernel
theorem dX5_askRowByRow_38 : decode cX5_askRowByRow 38 = .ok (.if_icmp .ne 7, 3) := by decide +kernel
theorem dX5_askRowByRow_41 : decode cX5_askRowByRow 41 = .ok (.iconst 1, 1) := by decide +kernel
theorem dX5_askRowByRow_42 : decode cX5_askRowByRow 42 = .ok (.goto 5, 3) := by decide +kernel
theorem dX5_askRowByRow_45 : decode cX5_askRowByRow 45 = .ok (.ldc 32, 2) := by decide +kernel
theorem dX5_askRowByRow_47 : decode cX5_askRowByRow 47 = .ok (.putfield 33, 3) := by decide +kernel
theorem dX5_askRowByRow_50 : decode cX5_askRowByRow 50 = .ok (.iconst 0, 1) := by decide +kernel
theorem dX5_askRowByRow_51 : decode cX5_askRowByRow 51 = .ok (.istore 5, 2) := by decide +kernel
theorem dX5_askRowByRow_53 : decode cX5_askRowByRow 53 = .ok (.iload 5, 2) := by decide +kernel
theorem dX5_askRowByRow_55 : decode cX5_askRowByRow 55 = .ok (.aload 4, 2) := by decide +kernel
theorem dX5_askRowByRow_57 : decode cX5_askRowByRow 57 = .ok (.getfield 61, 3) := by decide +kernel
theorem dX5_askRowByRow_60 : decode cX5_askRowByRow 60 = .ok (.if_icmp .ge 97, 3) := by decide +kernel
theorem dX5_askRowByRow_63 : decode cX5_askRowByRow 63 = .ok (.aload_n 0, 1) := by decide +kernel
theorem dX5_askRowByRow_64 : decode cX5_askRowByRow 64 = .ok (.getfield 28, 3) := by decide +kernel
theorem dX5_askRowByRow_67 : decode cX5_askRowByRow 67 = .ok (.getfield 66, 3) := by decide +kernel
theorem dX5_askRowByRow_70 : decode cX5_askRowByRow 70 = .ok (.iconst (-1), 1) := by decide +kernel
theorem dX5_askRowByRow_71 : decode cX5_askRowByRow 71 = .ok (.if_icmp .ne 86, 3) := by decide +kernel
theorem dX5_askRowByRow_74 : decode cX5_askRowByRow 74 = .ok (.aload_n 0, 1) := by decide +kernel
theorem dX5_askRowByRow_75 : decode cX5_askRowByRow 75 = .ok (.getfield 21, 3) := by decide +kernel
theorem dX5_askRowByRow_78 : decode cX5_askRowByRow 78 = .ok (.aload 4, 2) := by decide +kernel
theorem dX5_askRowByRow_80 : decode cX5_askRowByRow 80 = .ok (.getfield 69, 3) := by decide +kernel
theorem dX5_askRowByRow_83 : decode cX5_askRowByRow 83 = .ok (.iload 5, 2) := by decide +kernel
theorem dX5_askRowByRow_85 : decode cX5_askRowByRow 85 = .ok (.iaload, 1) := by decide +kernel
theorem dX5_askRowByRow_86 : decode cX5_askRowByRow 86 = .ok (.aload 4, 2) := by decide +kernel
theorem dX5_askRowByRow_88 : decode cX5_askRowByRow 88 = .ok (.getfield 73, 3) := by decide +kernel
theorem dX5_askRowByRow_91 : decode cX5_askRowByRow 91 = .ok (.iload 5, 2) := by decide +kernel
theorem dX5_askRowByRow_93 : decode cX5_askRowByRow 93 = .ok (.iaload, 1) := by decide +kernel
theorem dX5_askRowByRow_94 : decode cX5_askRowByRow 94 = .ok (.invokevirtual 76, 3) := by decide +kernel
theorem dX5_askRowByRow_97 : decode cX5_askRowByRow 97 = .ok (.aload_n 0, 1) := by decide +kernel
theorem dX5_askRowByRow_98 : decode cX5_askRowByRow 98 = .ok (.invokevirtual 80, 3) := by decide +kernel
theorem dX5_askRowByRow_101 : decode cX5_askRowByRow 101 = .ok (.aload_n 0, 1) := by decide +kernel
theorem dX5_askRowByRow_102 : decode cX5_askRowByRow 102 = .ok (.aload_n 1, 1) := by decide +kernel
theorem dX5_askRowByRow_103 : decode cX5_askRowByRow 103 = .ok (.getfield 83, 3) := by decide +kernel
theorem dX5_askRowByRow_106 : decode cX5_askRowByRow 106 = .ok (.invokevirtual 86, 3) := by decide +kernel
theorem dX5_askRowByRow_109 : decode cX5_askRowByRow 109 = .ok (.aload_n 0, 1) := by decide +kernel
theorem dX5_askRowByRow_110 : decode cX5_askRowByRow 110 = .ok (.invokevirtual 90, 3) := by decide +kernel
theorem dX5_askRowByRow_113 : decode cX5_askRowByRow 113 = .ok (.aload_n 0, 1) := by decide +kernel
theorem dX5_askRowByRow_114 : decode cX5_askRowByRow 114 = .ok (.getfield 28, 3) := by decide +kernel
theorem dX5_askRowByRow_117 : decode cX5_askRowByRow 117 = .ok (.iload 5, 2) := by decide +kernel
theorem dX5_askRowByRow_119 : decode cX5_askRowByRow 119 = .ok (.aload_n 0, 1) := by decide +kernel
theorem dX5_askRowByRow_120 : decode cX5_askRowByRow 120 = .ok (.getfield 40, 3) := by decide +kernel
theorem dX5_askRowByRow_123 : decode cX5_askRowByRow 123 = .ok (.getfield 93, 3) := by decide +kernel
theorem dX5_askRowByRow_126 : decode cX5_askRowByRow 126 = .ok (.iconst 0, 1) := by decide +kernel
theorem dX5_askRowByRow_127 : decode cX5_askRowByRow 127 = .ok (.aaload, 1) := by decide +kernel
theorem dX5_askRowByRow_128 : decode cX5_askRowByRow 128 = .ok (.iload_n 2, 1) := by decide +kernel
theorem dX5_askRowByRow_129 : decode cX5_askRowByRow 129 = .ok (.aload 4, 2) := by decide +kernel
theorem dX5_askRowByRow_131 : decode cX5_askRowByRow 131 = .ok (.getfield 73, 3) := by decide +kernel
theorem dX5_askRowByRow_134 : decode cX5_askRowByRow 134 = .ok (.iload 5, 2) := by decide +kernel
theorem dX5_askRowByRow_136 : decode cX5_askRowByRow 136 = .ok (.iaload, 1) := by decide +kernel
theorem dX5_askRowByRow_137 : decode cX5_askRowByRow 137 = .ok (.invokevirtual 99, 3) := by decide +kernel
theorem dX5_askRowByRow_140 : decode cX5_askRowByRow 140 = .ok (.aload_n 0, 1) := by decide +kernel
theorem dX5_askRowByRow_141 : decode cX5_askRowByRow 141 = .ok (.getfield 28, 3) := by decide +kernel
theorem dX5_askRowByRow_144 : decode cX5_askRowByRow 144 = .ok (.aload_n 0, 1) := by decide +kernel
theorem dX5_askRowByRow_145 : decode cX5_askRowByRow 145 = .ok (.getfield 12, 3) := by decide +kernel
theorem dX5_askRowByRow_148 : decode cX5_askRowByRow 148 = .ok (.invokevirtual 103, 3) := by decide +kernel
theorem dX5_askRowByRow_151 : decode cX5_askRowByRow 151 = .ok (.iinc 5 1, 3) := by decide +kernel
theorem dX5_askRowByRow_154 : decode cX5_askRowByRow 154 = .ok (.goto (-101), 3) := by decide +kernel
theorem dX5_askRowByRow_157 : decode cX5_askRowByRow 157 = .ok (.return_, 1) := by decide +kernel
theorem dX5_askFree_0 : decode cX5_askFree 0 = .ok (.aload_n 1, 1) := by decide +kernel
theorem dX5_askFree_1 : decode cX5_askFree 1 = .ok (.getfield 44, 3) := by decide +kernel
theorem dX5_askFree_4 : decode cX5_askFree 4 = .ok (.astore_n 3, 1) := by decide +kernel
theorem dX5_askFree_5 : decode cX5_askFree 5 = .ok (.aload_n 0, 1) := by decide +kernel
theorem dX5_askFree_6 : decode cX5_askFree 6 = .ok (.getfield 12, 3) := by decide +kernel
theorem dX5_askFree_9 : decode cX5_askFree 9 = .ok (.aload_n 1, 1) := by decide +kernel
theorem dX5_askFree_10 : decode cX5_askFree 10 = .ok (.getfield 50, 3) := by decide +kernel
theorem dX5_askFree_13 : decode cX5_askFree 13 = .ok (.iload_n 2, 1) := by decide +kernel
theorem dX5_askFree_14 : decode cX5_askFree 14 = .ok (.invokevirtual 107, 3) := by decide +kernel
theorem dX5_askFree_17 : decode cX5_askFree 17 = .ok (.aload_n 0, 1) := by decide +kernel
theorem dX5_askFree_18 : decode cX5_askFree 18 = .ok (.getfield 28, 3) := by decide +kernel
theorem dX5_askFree_21 : decode cX5_askFree 21 = .ok (.invokevirtual 58, 3) := by decide +kernel
theorem dX5_askFree_24 : decode cX5_askFree 24 = .ok (.aload_n 0, 1) := by decide +kernel
theorem dX5_askFree_25 : decode cX5_askFree 25 = .ok (.ldc 32, 2) := by decide +kernel
theorem dX5_askFree_27 : decode cX5_askFree 27 = .ok (.putfield 33, 3) := by decide +kernel
theorem dX5_askFree_30 : decode cX5_askFree 30 = .ok (.aload_n 0, 1) := by decide +kernel
theorem dX5_askFree_31 : decode cX5_askFree 31 = .ok (.getfield 12, 3) := by decide +kernel
theorem dX5_askFree_34 : decode cX5_askFree 34 = .ok (.getfield 110, 3) := by decide +kernel
theorem dX5_askFree_37 : decode cX5_askFree 37 = .ok (.iconst (-1), 1) := by decide +kernel
theorem dX5_askFree_38 : decode cX5_askFree 38 = .ok (.if_icmp .ne 13, 3) := by decide +kernel
theorem dX5_askFree_41 : decode cX5_askFree 41 = .ok (.aload_n 0, 1) := by decide +kernel
theorem dX5_askFree_42 : decode cX5_askFree 42 = .ok (.getfield 21, 3) := by decide +kernel
theorem dX5_askFree_45 : decode cX5_askFree 45 = .ok (.invokevirtual 113, 3) := by decide +kernel
theorem dX5_askFree_48 : decode cX5_askFree 48 = .ok (.goto 33, 3) := by decide +kernel
theorem dX5_askFree_51 : decode cX5_askFree 51 = .ok (.aload_n 0, 1) := by decide +kernel
theorem dX5_askFree_52 : decode cX5_askFree 52 = .ok (.getfield 21, 3) := by decide +kernel
theorem dX5_askFree_55 : decode cX5_askFree 55 = .ok (.aload_n 3, 1) := by decide +kernel
theorem dX5_askFree_56 : decode cX5_askFree 56 = .ok (.iload_n 2, 1) := by decide +kernel
theorem dX5_askFree_57 : decode cX5_askFree 57 = .ok (.invokestatic 116, 3) := by decide +kernel
theorem dX5_askFree_60 : decode cX5_askFree 60 = .ok (.ifCond .ne 13, 3) := by decide +kernel
theorem dX5_askFree_63 : decode cX5_askFree 63 = .ok (.aload_n 1, 1) := by decide +kernel
theorem dX5_askFree_64 : decode cX5_askFree 64 = .ok (.getfield 50, 3) := by decide +kernel
theorem dX5_askFree_67 : decode cX5_askFree 67 = .ok (.invokevirtual 120, 3) := by decide +kernel
theorem dX5_askFree_70 : decode cX5_askFree 70 = .ok (.ifCond .eq 7, 3) := by decide +kernel
theorem dX5_askFree_73 : decode cX5_askFree 73 = .ok (.iconst 1, 1) := by decide +kernel
theorem dX5_askFree_74 : decode cX5_askFree 74 = .ok (.goto 4, 3) := by decide +kernel
theorem dX5_askFree_77 : decode cX5_askFree 77 = .ok (.iconst 0, 1) := by decide +kernel
theorem dX5_askFree_78 : decode cX5_askFree 78 = .ok (.invokevirtual 126, 3) := by decide +kernel
theorem dX5_askFree_81 : decode cX5_askFree 81 = .ok (.aload_n 0, 1) := by decide +kernel
theorem dX5_askFree_82 : decode cX5_askFree 82 = .ok (.invokevirtual 80, 3) := by decide +kernel
theorem dX5_askFree_85 : decode cX5_askFree 85 = .ok (.aload_n 0, 1) := by decide +kernel
theorem dX5_askFree_86 : decode cX5_askFree 86 = .ok (.aload_n 1, 1) := by decide +kernel
theorem dX5_askFree_87 : decode cX5_askFree 87 = .ok (.getfield 83, 3) := by decide +kernel
theorem dX5_askFree_90 : decode cX5_askFree 90 = .ok (.invokevirtual 86, 3) := by decide +kernel
theorem dX5_askFree_93 : decode cX5_askFree 93 = .ok (.aload_n 0, 1) := by decide +kernel
theorem dX5_askFree_94 : decode cX5_askFree 94 = .ok (.invokevirtual 90, 3) := by decide +kernel
theorem dX5_askFree_97 : decode cX5_askFree 97 = .ok (.iconst 0, 1) := by decide +kernel
theorem dX5_askFree_98 : decode cX5_askFree 98 = .ok (.istore 4, 2) := by decide +kernel
theorem dX5_askFree_100 : decode cX5_askFree 100 = .ok (.iload 4, 2) := by decide +kernel
theorem dX5_askFree_102 : decode cX5_askFree 102 = .ok (.aload_n 3, 1) := by decide +kernel
theorem dX5_askFree_103 : decode cX5_askFree 103 = .ok (.getfield 61, 3) := by decide +kernel
theorem dX5_askFree_106 : decode cX5_askFree 106 = .ok (.if_icmp .ge 55, 3) := by decide +kernel
theorem dX5_askFree_109 : decode cX5_askFree 109 = .ok (.aload_n 0, 1) := by decide +kernel
theorem dX5_askFree_110 : decode cX5_askFree 110 = .ok (.getfield 28, 3) := by decide +kernel
theorem dX5_askFree_113 : decode cX5_askFree 113 = .ok (.getfield 66, 3) := by decide +kernel
theorem dX5_askFree_116 : decode cX5_askFree 116 = .ok (.iconst (-1), 1) := by decide +kernel
theorem dX5_askFree_117 : decode cX5_askFree 117 = .ok (.if_icmp .ne 44, 3) := by decide +kernel
theorem dX5_askFree_120 : decode cX5_askFree 120 = .ok (.aload_n 0, 1) := by decide +kernel
theorem dX5_askFree_121 : decode cX5_askFree 121 = .ok (.getfield 28, 3) := by decide +kernel
theorem dX5_askFree_124 : decode cX5_askFree 124 = .ok (.iload 4, 2) := by decide +kernel
theorem dX5_askFree_126 : decode cX5_askFree 126 = .ok (.aload_n 0, 1) := by decide +kernel
theorem dX5_askFree_127 : decode cX5_askFree 127 = .ok (.getfield 40, 3) := by decide +kernel
theorem dX5_askFree_130 : decode cX5_askFree 130 = .ok (.getfield 93, 3) := by decide +kernel
theorem dX5_askFree_133 : decode cX5_askFree 133 = .ok (.aload_n 0, 1) := by decide +kernel
theorem dX5_askFree_134 : decode cX5_askFree 134 = .ok (.getfield 21, 3) := by decide +kernel
theorem dX5_askFree_137 : decode cX5_askFree 137 = .ok (.getfield 130, 3) := by decide +kernel
theorem dX5_askFree_140 : decode cX5_askFree 140 = .ok (.iload 4, 2) := by decide +kernel
theorem dX5_askFree_142 : decode cX5_askFree 142 = .ok (.iaload, 1) := by decide +kernel
theorem dX5_askFree_143 : decode cX5_askFree 143 = .ok (.aaload, 1) := by decide +kernel
theorem dX5_askFree_144 : decode cX5_askFree 144 = .ok (.iload_n 2, 1) := by decide +kernel
theorem dX5_askFree_145 : decode cX5_askFree 145 = .ok (.aload_n 3, 1) := by decide +kernel
theorem dX5_askFree_146 : decode cX5_askFree 146 = .ok (.getfield 73, 3) := by decide +kernel
theorem dX5_askFree_149 : decode cX5_askFree 149 = .ok (.iload 4, 2) := by decide +kernel
theorem dX5_askFree_151 : decode cX5_askFree 151 = .ok (.iaload, 1) := by decide +kernel
theorem dX5_askFree_152 : decode cX5_askFree 152 = .ok (.invokevirtual 99, 3) := by decide +kernel
theorem dX5_askFree_155 : decode cX5_askFree 155 = .ok (.iinc 4 1, 3) := by decide +kernel
theorem dX5_askFree_158 : decode cX5_askFree 158 = .ok (.goto (-58), 3) := by decide +kernel
theorem dX5_askFree_161 : decode cX5_askFree 161 = .ok (.aload_n 0, 1) := by decide +kernel
theorem dX5_askFree_162 : decode cX5_askFree 162 = .ok (.getfield 28, 3) := by decide +kernel
theorem dX5_askFree_165 : decode cX5_askFree 165 = .ok (.aload_n 0, 1) := by decide +kernel
theorem dX5_askFree_166 : decode cX5_askFree 166 = .ok (.getfield 12, 3) := by decide +kernel
theorem dX5_askFree_169 : decode cX5_askFree 169 = .ok (.invokevirtual 103, 3) := by decide +kernel
theorem dX5_askFree_172 : decode cX5_askFree 172 = .ok (.return_, 1) := by decide +kernel
theorem dX5_begin_0 : decode cX5_begin 0 = .ok (.aload_n 0, 1) := by decide +kernel
theorem dX5_begin_1 : decode cX5_begin 1 = .ok (.iconst 0, 1) := by decide +kernel
theorem dX5_begin_2 : decode cX5_begin 2 = .ok (.putfield 37, 3) := by decide +kernel
theorem dX5_begin_5 : decode cX5_begin 5 = .ok (.aload_n 0, 1) := by decide +kernel
theorem dX5_begin_6 : decode cX5_begin 6 = .ok (.getfield 40, 3) := by decide +kernel
theorem dX5_begin_9 : decode cX5_begin 9 = .ok (.invokevirtual 133, 3) := by decide +kernel
theorem dX5_begin_12 : decode cX5_begin 12 = .ok (.aload_n 0, 1) := by decide +kernel
theorem dX5_begin_13 : decode cX5_begin 13 = .ok (.getfield 28, 3) := by decide +kernel
theorem dX5_begin_16 : decode cX5_begin 16 = .ok (.aload_n 0, 1) := by decide +kernel
theorem dX5_begin_17 : decode cX5_begin 17 = .ok (.getfield 12, 3) := by decide +kernel
theorem dX5_begin_20 : decode cX5_begin 20 = .ok (.invokevirtual 134, 3) := by decide +kernel
theorem dX5_begin_23 : decode cX5_begin 23 = .ok (.return_, 1) := by decide +kernel
theorem dX5_readInner_0 : decode cX5_readInner 0 = .ok (.iconst 0, 1) := by decide +kernel
theorem dX5_readInner_1 : decode cX5_readInner 1 = .ok (.istore_n 2, 1) := by decide +kernel
theorem dX5_readInner_2 : decode cX5_readInner 2 = .ok (.iload_n 2, 1) := by decide +kernel
theorem dX5_readInner_3 : decode cX5_readInner 3 = .ok (.aload_n 1, 1) := by decide +kernel
theorem dX5_readInner_4 : decode cX5_readInner 4 = .ok (.getfield 61, 3) := by decide +kernel
theorem dX5_readInner_7 : decode cX5_readInner 7 = .ok (.if_icmp .ge 67, 3) := by decide +kernel
theorem dX5_readInner_10 : decode cX5_readInner 10 = .ok (.aload_n 0, 1) := by decide +kernel
theorem dX5_readInner_11 : decode cX5_readInner 11 = .ok (.getfield 37, 3) := by decide +kernel
theorem dX5_readInner_14 : decode cX5_readInner 14 = .ok (.aload_n 0, 1) := by decide +kernel
theorem dX5_readInner_15 : decode cX5_readInner 15 = .ok (.getfield 33, 3) := by decide +kernel
theorem dX5_readInner_18 : decode cX5_readInner 18 = .ok (.if_icmp .ge 56, 3) := by decide +kernel
theorem dX5_readInner_21 : decode cX5_readInner 21 = .ok (.aload_n 0, 1) := by decide +kernel
theorem dX5_readInner_22 : decode cX5_readInner 22 = .ok (.getfield 28, 3) := by decide +kernel
theorem dX5_readInner_25 : decode cX5_readInner 25 = .ok (.dup, 1) := by decide +kernel
theorem dX5_readInner_26 : decode cX5_readInner 26 = .ok (.getfield 137, 3) := by decide +kernel
theorem dX5_readInner_29 : decode cX5_readInner 29 = .ok (.iconst 1, 1) := by decide +kernel
theorem dX5_readInner_30 : decode cX5_readInner 30 = .ok (.iadd, 1) := by decide +kernel
theorem dX5_readInner_31 : decode cX5_readInner 31 = .ok (.putfield 137, 3) := by decide +kernel
theorem dX5_readInner_34 : decode cX5_readInner 34 = .ok (.aload_n 0, 1) := by decide +kernel
theorem dX5_readInner_35 : decode cX5_readInner 35 = .ok (.getfield 28, 3) := by decide +kernel
theorem dX5_readInner_38 : decode cX5_readInner 38 = .ok (.dup, 1) := by decide +kernel
theorem dX5_readInner_39 : decode cX5_readInner 39 = .ok (.getfield 140, 3) := by decide +kernel
theorem dX5_readInner_42 : decode cX5_readInner 42 = .ok (.iconst 1, 1) := by decide +kernel
theorem dX5_readInner_43 : decode cX5_readInner 43 = .ok (.iadd, 1) := by decide +kernel
theorem dX5_readInner_44 : decode cX5_readInner 44 = .ok (.putfield 140, 3) := by decide +kernel
theorem dX5_readInner_47 : decode cX5_readInner 47 = .ok (.aload_n 0, 1) := by decide +kernel
theorem dX5_readInner_48 : decode cX5_readInner 48 = .ok (.aload_n 1, 1) := by decide +kernel
theorem dX5_readInner_49 : decode cX5_readInner 49 = .ok (.getfield 69, 3) := by decide +kernel
theorem dX5_readInner_52 : decode cX5_readInner 52 = .ok (.iload_n 2, 1) := by decide +kernel
theorem dX5_readInner_53 : decode cX5_readInner 53 = .ok (.iaload, 1) := by decide +kernel
theorem dX5_readInner_54 : decode cX5_readInner 54 = .ok (.aload_n 1, 1) := by decide +kernel
theorem dX5_readInner_55 : decode cX5_readInner 55 = .ok (.getfield 73, 3) := by decide +kernel
theorem dX5_readInner_58 : decode cX5_readInner 58 = .ok (.iload_n 2, 1) := by decide +kernel
theorem dX5_readInner_59 : decode cX5_readInner 59 = .ok (.iaload, 1) := by decide +kernel
theorem dX5_readInner_60 : decode cX5_readInner 60 = .ok (.iconst 0, 1) := by decide +kernel
theorem dX5_readInner_61 : decode cX5_readInner 61 = .ok (.invokestatic 143, 3) := by decide +kernel
theorem dX5_readInner_64 : decode cX5_readInner 64 = .ok (.iconst 1, 1) := by decide +kernel
theorem dX5_readInner_65 : decode cX5_readInner 65 = .ok (.invokevirtual 147, 3) := by decide +kernel
theorem dX5_readInner_68 : decode cX5_readInner 68 = .ok (.iinc 2 1, 3) := by decide +kernel
theorem dX5_readInner_71 : decode cX5_readInner 71 = .ok (.goto (-69), 3) := by decide +kernel
theorem dX5_readInner_74 : decode cX5_readInner 74 = .ok (.return_, 1) := by decide +kernel
theorem dX5_handOnKept_0 : decode cX5_handOnKept 0 = .ok (.iconst 1, 1) := by decide +kernel
theorem dX5_handOnKept_1 : decode cX5_handOnKept 1 = .ok (.istore_n 1, 1) := by decide +kernel
theorem dX5_handOnKept_2 : decode cX5_handOnKept 2 = .ok (.iload_n 1, 1) := by decide +kernel
theorem dX5_handOnKept_3 : decode cX5_handOnKept 3 = .ok (.aload_n 0, 1) := by decide +kernel
theorem dX5_handOnKept_4 : decode cX5_handOnKept 4 = .ok (.getfield 12, 3) := by decide +kernel
theorem dX5_handOnKept_7 : decode cX5_handOnKept 7 = .ok (.getfield 150, 3) := by decide +kernel
theorem dX5_handOnKept_10 : decode cX5_handOnKept 10 = .ok (.if_icmp .ge 165, 3) := by decide +kernel
theorem dX5_handOnKept_13 : decode cX5_handOnKept 13 = .ok (.aload_n 0, 1) := by decide +kernel
theorem dX5_handOnKept_14 : decode cX5_handOnKept 14 = .ok (.getfield 12, 3) := by decide +kernel
theorem dX5_handOnKept_17 : decode cX5_handOnKept 17 = .ok (.getfield 151, 3) := by decide +kernel
theorem dX5_handOnKept_20 : decode cX5_handOnKept 20 = .ok (.iload_n 1, 1) := by decide +kernel
theorem dX5_handOnKept_21 : decode cX5_handOnKept 21 = .ok (.iaload, 1) := by decide +kernel
theorem dX5_handOnKept_22 : decode cX5_handOnKept 22 = .ok (.istore_n 2, 1) := by decide +kernel
theorem dX5_handOnKept_23 : decode cX5_handOnKept 23 = .ok (.iconst 0, 1) := by decide +kernel
theorem dX5_handOnKept_24 : decode cX5_handOnKept 24 = .ok (.istore_n 3, 1) := by decide +kernel
theorem dX5_handOnKept_25 : decode cX5_handOnKept 25 = .ok (.iload_n 2, 1) := by decide +kernel
theorem dX5_handOnKept_26 : decode cX5_handOnKept 26 = .ok (.iconst 4, 1) := by decide +kernel
theorem dX5_handOnKept_27 : decode cX5_handOnKept 27 = .ok (.if_icmp .ne 73, 3) := by decide +kernel
theorem dX5_handOnKept_30 : decode cX5_handOnKept 30 = .ok (.iload_n 3, 1) := by decide +kernel
theorem dX5_handOnKept_31 : decode cX5_handOnKept 31 = .ok (.aload_n 0, 1) := by decide +kernel
theorem dX5_handOnKept_32 : decode cX5_handOnKept 32 = .ok (.getfield 21, 3) := by decide +kernel
theorem dX5_handOnKept_35 : decode cX5_handOnKept 35 = .ok (.getfield 154, 3) := by decide +kernel
theorem dX5_handOnKept_38 : decode cX5_handOnKept 38 = .ok (.if_icmp .ge 62, 3) := by decide +kernel
theorem dX5_handOnKept_41 : decode cX5_handOnKept 41 = .ok (.aload_n 0, 1) := by decide +kernel
theorem dX5_handOnKept_42 : decode cX5_handOnKept 42 = .ok (.getfield 37, 3) := by decide +kernel
theorem dX5_handOnKept_45 : decode cX5_handOnKept 45 = .ok (.aload_n 0, 1) := by decide +kernel
theorem dX5_handOnKept_46 : decode cX5_handOnKept 46 = .ok (.getfield 33, 3) := by decide +kernel
theorem dX5_handOnKept_49 : decode cX5_handOnKept 49 = .ok (.if_icmp .ge 51, 3) := by decide +kernel
theorem dX5_handOnKept_52 : decode cX5_handOnKept 52 = .ok (.aload_n 0, 1) := by decide +kernel
theorem dX5_handOnKept_53 : decode cX5_handOnKept 53 = .ok (.getfield 28, 3) := by decide +kernel
theorem dX5_handOnKept_56 : decode cX5_handOnKept 56 = .ok (.dup, 1) := by decide +kernel
theorem dX5_handOnKept_57 : decode cX5_handOnKept 57 = .ok (.getfield 140, 3) := by decide +kernel
theorem dX5_handOnKept_60 : decode cX5_handOnKept 60 = .ok (.iconst 1, 1) := by decide +kernel
theorem dX5_handOnKept_61 : decode cX5_handOnKept 61 = .ok (.iadd, 1) := by decide +kernel
theorem dX5_handOnKept_62 : decode cX5_handOnKept 62 = .ok (.putfield 140, 3) := by decide +kernel
theorem dX5_handOnKept_65 : decode cX5_handOnKept 65 = .ok (.aload_n 0, 1) := by decide +kernel
theorem dX5_handOnKept_66 : decode cX5_handOnKept 66 = .ok (.aload_n 0, 1) := by decide +kernel
theorem dX5_handOnKept_67 : decode cX5_handOnKept 67 = .ok (.getfield 21, 3) := by decide +kernel
theorem dX5_handOnKept_70 : decode cX5_handOnKept 70 = .ok (.getfield 155, 3) := by decide +kernel
theorem dX5_handOnKept_73 : decode cX5_handOnKept 73 = .ok (.iload_n 3, 1) := by decide +kernel
theorem dX5_handOnKept_74 : decode cX5_handOnKept 74 = .ok (.iaload, 1) := by decide +kernel
theorem dX5_handOnKept_75 : decode cX5_handOnKept 75 = .ok (.aload_n 0, 1) := by decide +kernel
theorem dX5_handOnKept_76 : decode cX5_handOnKept 76 = .ok (.getfield 21, 3) := by decide +kernel
theorem dX5_handOnKept_79 : decode cX5_handOnKept 79 = .ok (.getfield 156, 3) := by decide +kernel
theorem dX5_handOnKept_82 : decode cX5_handOnKept 82 = .ok (.iload_n 3, 1) := by decide +kernel
theorem dX5_handOnKept_83 : decode cX5_handOnKept 83 = .ok (.iaload, 1) := by decide +kernel
theorem dX5_handOnKept_84 : decode cX5_handOnKept 84 = .ok (.iload_n 3, 1) := by decide +kernel
theorem dX5_handOnKept_85 : decode cX5_handOnKept 85 = .ok (.invokestatic 143, 3) := by decide +kernel
theorem dX5_handOnKept_88 : decode cX5_handOnKept 88 = .ok (.iload_n 1, 1) := by decide +kernel
theorem dX5_handOnKept_89 : decode cX5_handOnKept 89 = .ok (.iconst 1, 1) := by decide +kernel
theorem dX5_handOnKept_90 : decode cX5_handOnKept 90 = .ok (.iadd, 1) := by decide +kernel
theorem dX5_handOnKept_91 : decode cX5_handOnKept 91 = .ok (.invokevirtual 147, 3) := by decide +kernel
theorem dX5_handOnKept_94 : decode cX5_handOnKept 94 = .ok (.iinc 3 1, 3) := by decide +kernel
theorem dX5_handOnKept_97 : decode cX5_handOnKept 97 = .ok (.goto (-72), 3) := by decide +kernel
theorem dX5_handOnKept_100 : decode cX5_handOnKept 100 = .ok (.iconst 0, 1) := by decide +kernel
theorem dX5_handOnKept_101 : decode cX5_handOnKept 101 = .ok (.istore_n 3, 1) := by decide +kernel
theorem dX5_handOnKept_102 : decode cX5_handOnKept 102 = .ok (.iload_n 2, 1) := by decide +kernel
theorem dX5_handOnKept_103 : decode cX5_handOnKept 103 = .ok (.bipush 6, 2) := by decide +kernel
theorem dX5_handOnKept_105 : decode cX5_handOnKept 105 = .ok (.if_icmp .ne 64, 3) := by decide +kernel
theorem dX5_handOnKept_108 : decode cX5_handOnKept 108 = .ok (.iload_n 3, 1) := by decide +kernel
theorem dX5_handOnKept_109 : decode cX5_handOnKept 109 = .ok (.aload_n 0, 1) := by decide +kernel
theorem dX5_handOnKept_110 : decode cX5_handOnKept 110 = .ok (.getfield 40, 3) := by decide +kernel
theorem dX5_handOnKept_113 : decode cX5_handOnKept 113 = .ok (.getfield 157, 3) := by decide +kernel
theorem dX5_handOnKept_116 : decode cX5_handOnKept 116 = .ok (.iload_n 1, 1) := by decide +kernel
theorem dX5_handOnKept_117 : decode cX5_handOnKept 117 = .ok (.iaload, 1) := by decide +kernel
theorem dX5_handOnKept_118 : decode cX5_handOnKept 118 = .ok (.if_icmp .ge 51, 3) := by decide +kernel
theorem dX5_handOnKept_121 : decode cX5_handOnKept 121 = .ok (.aload_n 0, 1) := by decide +kernel
theorem dX5_handOnKept_122 : decode cX5_handOnKept 122 = .ok (.getfield 37, 3) := by decide +kernel
theorem dX5_handOnKept_125 : decode cX5_handOnKept 125 = .ok (.aload_n 0, 1) := by decide +kernel
theorem dX5_handOnKept_126 : decode cX5_handOnKept 126 = .ok (.getfield 33, 3) := by decide +kernel
theorem dX5_handOnKept_129 : decode cX5_handOnKept 129 = .ok (.if_icmp .ge 40, 3) := by decide +kernel
theorem dX5_handOnKept_132 : decode cX5_handOnKept 132 = .ok (.aload_n 0, 1) := by decide +kernel
theorem dX5_handOnKept_133 : decode cX5_handOnKept 133 = .ok (.getfield 28, 3) := by decide +kernel
theorem dX5_handOnKept_136 : decode cX5_handOnKept 136 = .ok (.dup, 1) := by decide +kernel
theorem dX5_handOnKept_137 : decode cX5_handOnKept 137 = .ok (.getfield 140, 3) := by decide +kernel
theorem dX5_handOnKept_140 : decode cX5_handOnKept 140 = .ok (.iconst 1, 1) := by decide +kernel
theorem dX5_handOnKept_141 : decode cX5_handOnKept 141 = .ok (.iadd, 1) := by decide +kernel
theorem dX5_handOnKept_142 : decode cX5_handOnKept 142 = .ok (.putfield 140, 3) := by decide +kernel
theorem dX5_handOnKept_145 : decode cX5_handOnKept 145 = .ok (.aload_n 0, 1) := by decide +kernel
theorem dX5_handOnKept_146 : decode cX5_handOnKept 146 = .ok (.aload_n 0, 1) := by decide +kernel
theorem dX5_handOnKept_147 : decode cX5_handOnKept 147 = .ok (.getfield 40, 3) := by decide +kernel
theorem dX5_handOnKept_150 : decode cX5_handOnKept 150 = .ok (.getfield 160, 3) := by decide +kernel
theorem dX5_handOnKept_153 : decode cX5_handOnKept 153 = .ok (.iload_n 1, 1) := by decide +kernel
theorem dX5_handOnKept_154 : decode cX5_handOnKept 154 = .ok (.aaload, 1) := by decide +kernel
theorem dX5_handOnKept_155 : decode cX5_handOnKept 155 = .ok (.iload_n 3, 1) := by decide +kernel
theorem dX5_handOnKept_156 : decode cX5_handOnKept 156 = .ok (.iaload, 1) := by decide +kernel
theorem dX5_handOnKept_157 : decode cX5_handOnKept 157 = .ok (.iload_n 1, 1) := by decide +kernel
theorem dX5_handOnKept_158 : decode cX5_handOnKept 158 = .ok (.iconst 1, 1) := by decide +kernel
theorem dX5_handOnKept_159 : decode cX5_handOnKept 159 = .ok (.iadd, 1) := by decide +kernel
theorem dX5_handOnKept_160 : decode cX5_handOnKept 160 = .ok (.invokevirtual 147, 3) := by decide +kernel
theorem dX5_handOnKept_163 : decode cX5_handOnKept 163 = .ok (.iinc 3 1, 3) := by decide +kernel
theorem dX5_handOnKept_166 : decode cX5_handOnKept 166 = .ok (.goto (-64), 3) := by decide +kernel
theorem dX5_handOnKept_169 : decode cX5_handOnKept 169 = .ok (.iinc 1 1, 3) := by decide +kernel
theorem dX5_handOnKept_172 : decode cX5_handOnKept 172 = .ok (.goto (-170), 3) := by decide +kernel
theorem dX5_handOnKept_175 : decode cX5_handOnKept 175 = .ok (.return_, 1) := by decide +kernel
theorem dX5_feed_0 : decode cX5_feed 0 = .ok (.aload_n 0, 1) := by decide +kernel
theorem dX5_feed_1 : decode cX5_feed 1 = .ok (.getfield 12, 3) := by decide +kernel
theorem dX5_feed_4 : decode cX5_feed 4 = .ok (.getfield 110, 3) := by decide +kernel
theorem dX5_feed_7 : decode cX5_feed 7 = .ok (.iload_n 2, 1) := by decide +kernel
theorem dX5_feed_8 : decode cX5_feed 8 = .ok (.if_icmp .ge 21, 3) := by decide +kernel
theorem dX5_feed_11 : decode cX5_feed 11 = .ok (.aload_n 0, 1) := by decide +kernel
theorem dX5_feed_12 : decode cX5_feed 12 = .ok (.aload_n 0, 1) := by decide +kernel
theorem dX5_feed_13 : decode cX5_feed 13 = .ok (.iload_n 1, 1) := by decide +kernel
theorem dX5_feed_14 : decode cX5_feed 14 = .ok (.iload_n 2, 1) := by decide +kernel
theorem dX5_feed_15 : decode cX5_feed 15 = .ok (.aload_n 0, 1) := by decide +kernel
theorem dX5_feed_16 : decode cX5_feed 16 = .ok (.getfield 12, 3) := by decide +kernel
theorem dX5_feed_19 : decode cX5_feed 19 = .ok (.getfield 150, 3) := by decide +kernel
theorem dX5_feed_22 : decode cX5_feed 22 = .ok (.invokevirtual 164, 3) := by decide +kernel
theorem dX5_feed_25 : decode cX5_feed 25 = .ok (.invokevirtual 167, 3) := by decide +kernel
theorem dX5_feed_28 : decode cX5_feed 28 = .ok (.return_, 1) := by decide +kernel
theorem dX5_feed_29 : decode cX5_feed 29 = .ok (.aload_n 0, 1) := by decide +kernel
theorem dX5_feed_30 : decode cX5_feed 30 = .ok (.iload_n 1, 1) := by decide +kernel
theorem dX5_feed_31 : decode cX5_feed 31 = .ok (.iload_n 2, 1) := by decide +kernel
theorem dX5_feed_32 : decode cX5_feed 32 = .ok (.aload_n 0, 1) := by decide +kernel
theorem dX5_feed_33 : decode cX5_feed 33 = .ok (.getfield 12, 3) := by decide +kernel
theorem dX5_feed_36 : decode cX5_feed 36 = .ok (.getfield 110, 3) := by decide +kernel
theorem dX5_feed_39 : decode cX5_feed 39 = .ok (.invokevirtual 164, 3) := by decide +kernel
theorem dX5_feed_42 : decode cX5_feed 42 = .ok (.istore_n 3, 1) := by decide +kernel
theorem dX5_feed_43 : decode cX5_feed 43 = .ok (.iconst 0, 1) := by decide +kernel
theorem dX5_feed_44 : decode cX5_feed 44 = .ok (.istore 4, 2) := by decide +kernel
theorem dX5_feed_46 : decode cX5_feed 46 = .ok (.iload 4, 2) := by decide +kernel
theorem dX5_feed_48 : decode cX5_feed 48 = .ok (.aload_n 0, 1) := by decide +kernel
theorem dX5_feed_49 : decode cX5_feed 49 = .ok (.getfield 21, 3) := by decide +kernel
theorem dX5_feed_52 : decode cX5_feed 52 = .ok (.getfield 154, 3) := by decide +kernel
theorem dX5_feed_55 : decode cX5_feed 55 = .ok (.if_icmp .ge 68, 3) := by decide +kernel
theorem dX5_feed_58 : decode cX5_feed 58 = .ok (.iload_n 3, 1) := by decide +kernel
theorem dX5_feed_59 : decode cX5_feed 59 = .ok (.iconst (-1), 1) := by decide +kernel
theorem dX5_feed_60 : decode cX5_feed 60 = .ok (.if_icmp .eq 63, 3) := by decide +kernel
theorem dX5_feed_63 : decode cX5_feed 63 = .ok (.aload_n 0, 1) := by decide +kernel
theorem dX5_feed_64 : decode cX5_feed 64 = .ok (.iload_n 3, 1) := by decide +kernel
theorem dX5_feed_65 : decode cX5_feed 65 = .ok (.iload 4, 2) := by decide +kernel
theorem dX5_feed_67 : decode cX5_feed 67 = .ok (.invokevirtual 171, 3) := by decide +kernel
theorem dX5_feed_70 : decode cX5_feed 70 = .ok (.ifCond .eq 47, 3) := by decide +kernel
theorem dX5_feed_73 : decode cX5_feed 73 = .ok (.aload_n 0, 1) := by decide +kernel
theorem dX5_feed_74 : decode cX5_feed 74 = .ok (.getfield 28, 3) := by decide +kernel
theorem dX5_feed_77 : decode cX5_feed 77 = .ok (.dup, 1) := by decide +kernel
theorem dX5_feed_78 : decode cX5_feed 78 = .ok (.getfield 140, 3) := by decide +kernel
theorem dX5_feed_81 : decode cX5_feed 81 = .ok (.iconst 1, 1) := by decide +kernel
theorem dX5_feed_82 : decode cX5_feed 82 = .ok (.iadd, 1) := by decide +kernel
theorem dX5_feed_83 : decode cX5_feed 83 = .ok (.putfield 140, 3) := by decide +kernel
theorem dX5_feed_86 : decode cX5_feed 86 = .ok (.aload_n 0, 1) := by decide +kernel
theorem dX5_feed_87 : decode cX5_feed 87 = .ok (.aload_n 0, 1) := by decide +kernel
theorem dX5_feed_88 : decode cX5_feed 88 = .ok (.iload_n 3, 1) := by decide +kernel
theorem dX5_feed_89 : decode cX5_feed 89 = .ok (.iload 4, 2) := by decide +kernel
theorem dX5_feed_91 : decode cX5_feed 91 = .ok (.bipush 20, 2) := by decide +kernel
theorem dX5_feed_93 : decode cX5_feed 93 = .ok (.ishl, 1) := by decide +kernel
theorem dX5_feed_94 : decode cX5_feed 94 = .ok (.ior, 1) := by decide +kernel
theorem dX5_feed_95 : decode cX5_feed 95 = .ok (.aload_n 0, 1) := by decide +kernel
theorem dX5_feed_96 : decode cX5_feed 96 = .ok (.getfield 12, 3) := by decide +kernel
theorem dX5_feed_99 : decode cX5_feed 99 = .ok (.getfield 110, 3) := by decide +kernel
theorem dX5_feed_102 : decode cX5_feed 102 = .ok (.iconst 1, 1) := by decide +kernel
theorem dX5_feed_103 : decode cX5_feed 103 = .ok (.iadd, 1) := by decide +kernel
theorem dX5_feed_104 : decode cX5_feed 104 = .ok (.aload_n 0, 1) := by decide +kernel
theorem dX5_feed_105 : decode cX5_feed 105 = .ok (.getfield 12, 3) := by decide +kernel
theorem dX5_feed_108 : decode cX5_feed 108 = .ok (.getfield 150, 3) := by decide +kernel
theorem dX5_feed_111 : decode cX5_feed 111 = .ok (.invokevirtual 164, 3) := by decide +kernel
theorem dX5_feed_114 : decode cX5_feed 114 = .ok (.invokevirtual 167, 3) := by decide +kernel
theorem dX5_feed_117 : decode cX5_feed 117 = .ok (.iinc 4 1, 3) := by decide +kernel
theorem dX5_feed_120 : decode cX5_feed 120 = .ok (.goto (-74), 3) := by decide +kernel
theorem dX5_feed_123 : decode cX5_feed 123 = .ok (.return_, 1) := by decide +kernel
theorem dX5_joins_0 : decode cX5_joins 0 = .ok (.iload_n 1, 1) := by decide +kernel
theorem dX5_joins_1 : decode cX5_joins 1 = .ok (.invokestatic 175, 3) := by decide +kernel
theorem dX5_joins_4 : decode cX5_joins 4 = .ok (.istore_n 3, 1) := by decide +kernel
theorem dX5_joins_5 : decode cX5_joins 5 = .ok (.aload_n 0, 1) := by decide +kernel
theorem dX5_joins_6 : decode cX5_joins 6 = .ok (.getfield 12, 3) := by decide +kernel
theorem dX5_joins_9 : decode cX5_joins 9 = .ok (.getfield 151, 3) := by decide +kernel
theorem dX5_joins_12 : decode cX5_joins 12 = .ok (.aload_n 0, 1) := by decide +kernel
theorem dX5_joins_13 : decode cX5_joins 13 = .ok (.getfield 12, 3) := by decide +kernel
theorem dX5_joins_16 : decode cX5_joins 16 = .ok (.getfield 110, 3) := by decide +kernel
theorem dX5_joins_19 : decode cX5_joins 19 = .ok (.iaload, 1) := by decide +kernel
theorem dX5_joins_20 : decode cX5_joins 20 = .ok (.bipush 8, 2) := by decide +kernel
theorem dX5_joins_22 : decode cX5_joins 22 = .ok (.if_icmp .eq 21, 3) := by decide +kernel
theorem dX5_joins_25 : decode cX5_joins 25 = .ok (.iload_n 3, 1) := by decide +kernel
theorem dX5_joins_26 : decode cX5_joins 26 = .ok (.iconst (-1), 1) := by decide +kernel
theorem dX5_joins_27 : decode cX5_joins 27 = .ok (.if_icmp .eq 20, 3) := by decide +kernel
theorem dX5_joins_30 : decode cX5_joins 30 = .ok (.iload_n 3, 1) := by decide +kernel
theorem dX5_joins_31 : decode cX5_joins 31 = .ok (.aload_n 0, 1) := by decide +kernel
theorem dX5_joins_32 : decode cX5_joins 32 = .ok (.getfield 21, 3) := by decide +kernel
theorem dX5_joins_35 : decode cX5_joins 35 = .ok (.getfield 155, 3) := by decide +kernel
theorem dX5_joins_38 : decode cX5_joins 38 = .ok (.iload_n 2, 1) := by decide +kernel
theorem dX5_joins_39 : decode cX5_joins 39 = .ok (.iaload, 1) := by decide +kernel
theorem dX5_joins_40 : decode cX5_joins 40 = .ok (.if_icmp .ne 7, 3) := by decide +kernel
theorem dX5_joins_43 : decode cX5_joins 43 = .ok (.iconst 1, 1) := by decide +kernel
theorem dX5_joins_44 : decode cX5_joins 44 = .ok (.goto 4, 3) := by decide +kernel
theorem dX5_joins_47 : decode cX5_joins 47 = .ok (.iconst 0, 1) := by decide +kernel
theorem dX5_joins_48 : decode cX5_joins 48 = .ok (.ireturn, 1) := by decide +kernel
theorem dX5_pass_0 : decode cX5_pass 0 = .ok (.iload_n 1, 1) := by decide +kernel
theorem dX5_pass_1 : decode cX5_pass 1 = .ok (.istore 4, 2) := by decide +kernel
theorem dX5_pass_3 : decode cX5_pass 3 = .ok (.iload_n 2, 1) := by decide +kernel
theorem dX5_pass_4 : decode cX5_pass 4 = .ok (.istore 5, 2) := by decide +kernel
theorem dX5_pass_6 : decode cX5_pass 6 = .ok (.iload 5, 2) := by decide +kernel
theorem dX5_pass_8 : decode cX5_pass 8 = .ok (.iload_n 3, 1) := by decide +kernel
theorem dX5_pass_9 : decode cX5_pass 9 = .ok (.if_icmp .ge 44, 3) := by decide +kernel
theorem dX5_pass_12 : decode cX5_pass 12 = .ok (.iload 4, 2) := by decide +kernel
theorem dX5_pass_14 : decode cX5_pass 14 = .ok (.iconst (-1), 1) := by decide +kernel
theorem dX5_pass_15 : decode cX5_pass 15 = .ok (.if_icmp .eq 38, 3) := by decide +kernel
theorem dX5_pass_18 : decode cX5_pass 18 = .ok (.aload_n 0, 1) := by decide +kernel
theorem dX5_pass_19 : decode cX5_pass 19 = .ok (.iload 5, 2) := by decide +kernel
theorem dX5_pass_21 : decode cX5_pass 21 = .ok (.iload 4, 2) := by decide +kernel
theorem dX5_pass_23 : decode cX5_pass 23 = .ok (.invokevirtual 179, 3) := by decide +kernel
theorem dX5_pass_26 : decode cX5_pass 26 = .ok (.istore 4, 2) := by decide +kernel
theorem dX5_pass_28 : decode cX5_pass 28 = .ok (.iload 4, 2) := by decide +kernel
theorem dX5_pass_30 : decode cX5_pass 30 = .ok (.iconst (-1), 1) := by decide +kernel
theorem dX5_pass_31 : decode cX5_pass 31 = .ok (.if_icmp .eq 16, 3) := by decide +kernel
theorem dX5_pass_34 : decode cX5_pass 34 = .ok (.aload_n 0, 1) := by decide +kernel
theorem dX5_pass_35 : decode cX5_pass 35 = .ok (.getfield 28, 3) := by decide +kernel
theorem dX5_pass_38 : decode cX5_pass 38 = .ok (.dup, 1) := by decide +kernel
theorem dX5_pass_39 : decode cX5_pass 39 = .ok (.getfield 140, 3) := by decide +kernel
theorem dX5_pass_42 : decode cX5_pass 42 = .ok (.iconst 1, 1) := by decide +kernel
theorem dX5_pass_43 : decode cX5_pass 43 = .ok (.iadd, 1) := by decide +kernel
theorem dX5_pass_44 : decode cX5_pass 44 = .ok (.putfield 140, 3) := by decide +kernel
theorem dX5_pass_47 : decode cX5_pass 47 = .ok (.iinc 5 1, 3) := by decide +kernel
theorem dX5_pass_50 : decode cX5_pass 50 = .ok (.goto (-44), 3) := by decide +kernel
theorem dX5_pass_53 : decode cX5_pass 53 = .ok (.iload 4, 2) := by decide +kernel
theorem dX5_pass_55 : decode cX5_pass 55 = .ok (.ireturn, 1) := by decide +kernel
theorem dX5_through_0 : decode cX5_through 0 = .ok (.iload_n 2, 1) := by decide +kernel
theorem dX5_through_1 : decode cX5_through 1 = .ok (.invokestatic 175, 3) := by decide +kernel
theorem dX5_through_4 : decode cX5_through 4 = .ok (.istore_n 3, 1) := by decide +kernel
theorem dX5_through_5 : decode cX5_through 5 = .ok (.iload_n 2, 1) := by decide +kernel
theorem dX5_through_6 : decode cX5_through 6 = .ok (.invokestatic 183, 3) := by decide +kernel
theorem dX5_through_9 : decode cX5_through 9 = .ok (.istore 4, 2) := by decide +kernel
theorem dX5_through_11 : decode cX5_through 11 = .ok (.aload_n 0, 1) := by decide +kernel
theorem dX5_through_12 : decode cX5_through 12 = .ok (.getfield 21, 3) := by decide +kernel
theorem dX5_through_15 : decode cX5_through 15 = .ok (.iload_n 2, 1) := by decide +kernel
theorem dX5_through_16 : decode cX5_through 16 = .ok (.bipush 20, 2) := by decide +kernel
theorem dX5_through_18 : decode cX5_through 18 = .ok (.ishr, 1) := by decide +kernel
theorem dX5_through_19 : decode cX5_through 19 = .ok (.invokevirtual 186, 3) := by decide +kernel
theorem dX5_through_22 : decode cX5_through 22 = .ok (.istore 5, 2) := by decide +kernel
theorem dX5_through_24 : decode cX5_through 24 = .ok (.aload_n 0, 1) := by decide +kernel
theorem dX5_through_25 : decode cX5_through 25 = .ok (.getfield 12, 3) := by decide +kernel
theorem dX5_through_28 : decode cX5_through 28 = .ok (.getfield 151, 3) := by decide +kernel
theorem dX5_through_31 : decode cX5_through 31 = .ok (.iload_n 1, 1) := by decide +kernel
theorem dX5_through_32 : decode cX5_through 32 = .ok (.iaload, 1) := by decide +kernel
theorem dX5_through_33 : decode cX5_through 33 = .ok (.tableswitch 162 1 7 #[43, 60, 77, 162, 107, 125, 136], 43) := by decide +kernel
theorem dX5_through_76 : decode cX5_through 76 = .ok (.iload_n 3, 1) := by decide +kernel
theorem dX5_through_77 : decode cX5_through 77 = .ok (.iconst (-1), 1) := by decide +kernel
theorem dX5_through_78 : decode cX5_through 78 = .ok (.if_icmp .eq 13, 3) := by decide +kernel
theorem dX5_through_81 : decode cX5_through 81 = .ok (.iload_n 3, 1) := by decide +kernel
theorem dX5_through_82 : decode cX5_through 82 = .ok (.iload 5, 2) := by decide +kernel
theorem dX5_through_84 : decode cX5_through 84 = .ok (.if_icmp .ne 7, 3) := by decide +kernel
theorem dX5_through_87 : decode cX5_through 87 = .ok (.iload_n 2, 1) := by decide +kernel
theorem dX5_through_88 : decode cX5_through 88 = .ok (.goto 4, 3) := by decide +kernel
theorem dX5_through_91 : decode cX5_through 91 = .ok (.iconst (-1), 1) := by decide +kernel
theorem dX5_through_92 : decode cX5_through 92 = .ok (.ireturn, 1) := by decide +kernel
theorem dX5_through_93 : decode cX5_through 93 = .ok (.iload_n 3, 1) := by decide +kernel
theorem dX5_through_94 : decode cX5_through 94 = .ok (.iconst (-1), 1) := by decide +kernel
theorem dX5_through_95 : decode cX5_through 95 = .ok (.if_icmp .eq 13, 3) := by decide +kernel
theorem dX5_through_98 : decode cX5_through 98 = .ok (.iload_n 3, 1) := by decide +kernel
theorem dX5_through_99 : decode cX5_through 99 = .ok (.iload 5, 2) := by decide +kernel
theorem dX5_through_101 : decode cX5_through 101 = .ok (.if_icmp .ge 7, 3) := by decide +kernel
theorem dX5_through_104 : decode cX5_through 104 = .ok (.iload_n 2, 1) := by decide +kernel
theorem dX5_through_105 : decode cX5_through 105 = .ok (.goto 4, 3) := by decide +kernel
theorem dX5_through_108 : decode cX5_through 108 = .ok (.iconst (-1), 1) := by decide +kernel
theorem dX5_through_109 : decode cX5_through 109 = .ok (.ireturn, 1) := by decide +kernel
theorem dX5_through_110 : decode cX5_through 110 = .ok (.iload_n 3, 1) := by decide +kernel
theorem dX5_through_111 : decode cX5_through 111 = .ok (.iload 4, 2) := by decide +kernel
theorem dX5_through_113 : decode cX5_through 113 = .ok (.iconst (-1), 1) := by decide +kernel
theorem dX5_through_114 : decode cX5_through 114 = .ok (.if_icmp .eq 9, 3) := by decide +kernel
theorem dX5_through_117 : decode cX5_through 117 = .ok (.iload 5, 2) := by decide +kernel
theorem dX5_through_119 : decode cX5_through 119 = .ok (.iconst (-1), 1) := by decide +kernel
theorem dX5_through_120 : decode cX5_through 120 = .ok (.if_icmp .ne 7, 3) := by decide +kernel
theorem dX5_through_123 : decode cX5_through 123 = .ok (.iconst (-1), 1) := by decide +kernel
theorem dX5_through_124 : decode cX5_through 124 = .ok (.goto 8, 3) := by decide +kernel
theorem dX5_through_127 : decode cX5_through 127 = .ok (.iload 4, 2) := by decide +kernel
theorem dX5_through_129 : decode cX5_through 129 = .ok (.iload 5, 2) := by decide +kernel
theorem dX5_through_131 : decode cX5_through 131 = .ok (.iadd, 1) := by decide +kernel
theorem dX5_through_132 : decode cX5_through 132 = .ok (.iload_n 2, 1) := by decide +kernel
theorem dX5_through_133 : decode cX5_through 133 = .ok (.bipush 20, 2) := by decide +kernel
theorem dX5_through_135 : decode cX5_through 135 = .ok (.ishr, 1) := by decide +kernel
theorem dX5_through_136 : decode cX5_through 136 = .ok (.invokestatic 143, 3) := by decide +kernel
theorem dX5_through_139 : decode cX5_through 139 = .ok (.ireturn, 1) := by decide +kernel
theorem dX5_through_140 : decode cX5_through 140 = .ok (.aload_n 0, 1) := by decide +kernel
theorem dX5_through_141 : decode cX5_through 141 = .ok (.getfield 40, 3) := by decide +kernel
theorem dX5_through_144 : decode cX5_through 144 = .ok (.iload_n 1, 1) := by decide +kernel
theorem dX5_through_145 : decode cX5_through 145 = .ok (.iload_n 2, 1) := by decide +kernel
theorem dX5_through_146 : decode cX5_through 146 = .ok (.invokevirtual 189, 3) := by decide +kernel
theorem dX5_through_149 : decode cX5_through 149 = .ok (.ifCond .eq 7, 3) := by decide +kernel
theorem dX5_through_152 : decode cX5_through 152 = .ok (.iload_n 2, 1) := by decide +kernel
theorem dX5_through_153 : decode cX5_through 153 = .ok (.goto 4, 3) := by decide +kernel
theorem dX5_through_156 : decode cX5_through 156 = .ok (.iconst (-1), 1) := by decide +kernel
theorem dX5_through_157 : decode cX5_through 157 = .ok (.ireturn, 1) := by decide +kernel
theorem dX5_through_158 : decode cX5_through 158 = .ok (.aload_n 0, 1) := by decide +kernel
theorem dX5_through_159 : decode cX5_through 159 = .ok (.getfield 40, 3) := by decide +kernel
theorem dX5_through_162 : decode cX5_through 162 = .ok (.iload_n 1, 1) := by decide +kernel
theorem dX5_through_163 : decode cX5_through 163 = .ok (.iload_n 2, 1) := by decide +kernel
theorem dX5_through_164 : decode cX5_through 164 = .ok (.invokevirtual 192, 3) := by decide +kernel
theorem dX5_through_167 : decode cX5_through 167 = .ok (.iconst (-1), 1) := by decide +kernel
theorem dX5_through_168 : decode cX5_through 168 = .ok (.ireturn, 1) := by decide +kernel
theorem dX5_through_169 : decode cX5_through 169 = .ok (.iload 4, 2) := by decide +kernel
theorem dX5_through_171 : decode cX5_through 171 = .ok (.iconst (-1), 1) := by decide +kernel
theorem dX5_through_172 : decode cX5_through 172 = .ok (.if_icmp .eq 21, 3) := by decide +kernel
theorem dX5_through_175 : decode cX5_through 175 = .ok (.iload 4, 2) := by decide +kernel
theorem dX5_through_177 : decode cX5_through 177 = .ok (.aload_n 0, 1) := by decide +kernel
theorem dX5_through_178 : decode cX5_through 178 = .ok (.getfield 12, 3) := by decide +kernel
theorem dX5_through_181 : decode cX5_through 181 = .ok (.getfield 195, 3) := by decide +kernel
theorem dX5_through_184 : decode cX5_through 184 = .ok (.iload_n 1, 1) := by decide +kernel
theorem dX5_through_185 : decode cX5_through 185 = .ok (.iaload, 1) := by decide +kernel
theorem dX5_through_186 : decode cX5_through 186 = .ok (.if_icmp .lt 7, 3) := by decide +kernel
theorem dX5_through_189 : decode cX5_through 189 = .ok (.iload_n 2, 1) := by decide +kernel
theorem dX5_through_190 : decode cX5_through 190 = .ok (.goto 4, 3) := by decide +kernel
theorem dX5_through_193 : decode cX5_through 193 = .ok (.iconst (-1), 1) := by decide +kernel
theorem dX5_through_194 : decode cX5_through 194 = .ok (.ireturn, 1) := by decide +kernel
theorem dX5_through_195 : decode cX5_through 195 = .ok (.iload_n 2, 1) := by decide +kernel
theorem dX5_through_196 : decode cX5_through 196 = .ok (.ireturn, 1) := by decide +kernel
theorem dX5_arrive_0 : decode cX5_arrive 0 = .ok (.iload_n 1, 1) := by decide +kernel
theorem dX5_arrive_1 : decode cX5_arrive 1 = .ok (.bipush 20, 2) := by decide +kernel
theorem dX5_arrive_3 : decode cX5_arrive 3 = .ok (.ishr, 1) := by decide +kernel
theorem dX5_arrive_4 : decode cX5_arrive 4 = .ok (.istore_n 2, 1) := by decide +kernel
