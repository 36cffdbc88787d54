theorem dX12_plans_4 : decode cX12_plans 4 = .ok (.istore_n 1, 1) := by decide +kernel
theorem dX12_plans_5 : decode cX12_plans 5 = .ok (.aload_n 0, 1) := by decide +kernel
theorem dX12_plans_6 : decode cX12_plans 6 = .ok (.iconst 0, 1) := by decide +kernel
theorem dX12_plans_7 : decode cX12_plans 7 = .ok (.putfield 261, 3) := by decide +kernel
theorem dX12_plans_10 : decode cX12_plans 10 = .ok (.aload_n 0, 1) := by decide +kernel
theorem dX12_plans_11 : decode cX12_plans 11 = .ok (.getfield 85, 3) := by decide +kernel
theorem dX12_plans_14 : decode cX12_plans 14 = .ok (.aload_n 0, 1) := by decide +kernel
theorem dX12_plans_15 : decode cX12_plans 15 = .ok (.getfield 261, 3) := by decide +kernel
theorem dX12_plans_18 : decode cX12_plans 18 = .ok (.iconst 0, 1) := by decide +kernel
theorem dX12_plans_19 : decode cX12_plans 19 = .ok (.iastore, 1) := by decide +kernel
theorem dX12_plans_20 : decode cX12_plans 20 = .ok (.aload_n 0, 1) := by decide +kernel
theorem dX12_plans_21 : decode cX12_plans 21 = .ok (.dup, 1) := by decide +kernel
theorem dX12_plans_22 : decode cX12_plans 22 = .ok (.getfield 261, 3) := by decide +kernel
theorem dX12_plans_25 : decode cX12_plans 25 = .ok (.iconst 1, 1) := by decide +kernel
theorem dX12_plans_26 : decode cX12_plans 26 = .ok (.iadd, 1) := by decide +kernel
theorem dX12_plans_27 : decode cX12_plans 27 = .ok (.putfield 261, 3) := by decide +kernel
theorem dX12_plans_30 : decode cX12_plans 30 = .ok (.iconst 0, 1) := by decide +kernel
theorem dX12_plans_31 : decode cX12_plans 31 = .ok (.istore_n 2, 1) := by decide +kernel
theorem dX12_plans_32 : decode cX12_plans 32 = .ok (.iload_n 2, 1) := by decide +kernel
theorem dX12_plans_33 : decode cX12_plans 33 = .ok (.aload_n 0, 1) := by decide +kernel
theorem dX12_plans_34 : decode cX12_plans 34 = .ok (.getfield 145, 3) := by decide +kernel
theorem dX12_plans_37 : decode cX12_plans 37 = .ok (.if_icmp .gt 110, 3) := by decide +kernel
theorem dX12_plans_40 : decode cX12_plans 40 = .ok (.iload_n 2, 1) := by decide +kernel
theorem dX12_plans_41 : decode cX12_plans 41 = .ok (.aload_n 0, 1) := by decide +kernel
theorem dX12_plans_42 : decode cX12_plans 42 = .ok (.getfield 145, 3) := by decide +kernel
theorem dX12_plans_45 : decode cX12_plans 45 = .ok (.if_icmp .ge 17, 3) := by decide +kernel
theorem dX12_plans_48 : decode cX12_plans 48 = .ok (.aload_n 0, 1) := by decide +kernel
theorem dX12_plans_49 : decode cX12_plans 49 = .ok (.getfield 28, 3) := by decide +kernel
theorem dX12_plans_52 : decode cX12_plans 52 = .ok (.iload_n 2, 1) := by decide +kernel
theorem dX12_plans_53 : decode cX12_plans 53 = .ok (.iaload, 1) := by decide +kernel
theorem dX12_plans_54 : decode cX12_plans 54 = .ok (.iconst 1, 1) := by decide +kernel
theorem dX12_plans_55 : decode cX12_plans 55 = .ok (.if_icmp .ne 7, 3) := by decide +kernel
theorem dX12_plans_58 : decode cX12_plans 58 = .ok (.iconst 1, 1) := by decide +kernel
theorem dX12_plans_59 : decode cX12_plans 59 = .ok (.goto 4, 3) := by decide +kernel
theorem dX12_plans_62 : decode cX12_plans 62 = .ok (.iconst 0, 1) := by decide +kernel
theorem dX12_plans_63 : decode cX12_plans 63 = .ok (.istore_n 3, 1) := by decide +kernel
theorem dX12_plans_64 : decode cX12_plans 64 = .ok (.iload_n 2, 1) := by decide +kernel
theorem dX12_plans_65 : decode cX12_plans 65 = .ok (.iload_n 1, 1) := by decide +kernel
theorem dX12_plans_66 : decode cX12_plans 66 = .ok (.if_icmp .ne 28, 3) := by decide +kernel
theorem dX12_plans_69 : decode cX12_plans 69 = .ok (.iload_n 3, 1) := by decide +kernel
theorem dX12_plans_70 : decode cX12_plans 70 = .ok (.ifCond .ne 24, 3) := by decide +kernel
theorem dX12_plans_73 : decode cX12_plans 73 = .ok (.aload_n 0, 1) := by decide +kernel
theorem dX12_plans_74 : decode cX12_plans 74 = .ok (.getfield 85, 3) := by decide +kernel
theorem dX12_plans_77 : decode cX12_plans 77 = .ok (.aload_n 0, 1) := by decide +kernel
theorem dX12_plans_78 : decode cX12_plans 78 = .ok (.getfield 261, 3) := by decide +kernel
theorem dX12_plans_81 : decode cX12_plans 81 = .ok (.bipush 8, 2) := by decide +kernel
theorem dX12_plans_83 : decode cX12_plans 83 = .ok (.iastore, 1) := by decide +kernel
theorem dX12_plans_84 : decode cX12_plans 84 = .ok (.aload_n 0, 1) := by decide +kernel
theorem dX12_plans_85 : decode cX12_plans 85 = .ok (.dup, 1) := by decide +kernel
theorem dX12_plans_86 : decode cX12_plans 86 = .ok (.getfield 261, 3) := by decide +kernel
theorem dX12_plans_89 : decode cX12_plans 89 = .ok (.iconst 1, 1) := by decide +kernel
theorem dX12_plans_90 : decode cX12_plans 90 = .ok (.iadd, 1) := by decide +kernel
theorem dX12_plans_91 : decode cX12_plans 91 = .ok (.putfield 261, 3) := by decide +kernel
theorem dX12_plans_94 : decode cX12_plans 94 = .ok (.iload_n 2, 1) := by decide +kernel
theorem dX12_plans_95 : decode cX12_plans 95 = .ok (.aload_n 0, 1) := by decide +kernel
theorem dX12_plans_96 : decode cX12_plans 96 = .ok (.getfield 145, 3) := by decide +kernel
theorem dX12_plans_99 : decode cX12_plans 99 = .ok (.if_icmp .ge 42, 3) := by decide +kernel
theorem dX12_plans_102 : decode cX12_plans 102 = .ok (.aload_n 0, 1) := by decide +kernel
theorem dX12_plans_103 : decode cX12_plans 103 = .ok (.getfield 85, 3) := by decide +kernel
theorem dX12_plans_106 : decode cX12_plans 106 = .ok (.aload_n 0, 1) := by decide +kernel
theorem dX12_plans_107 : decode cX12_plans 107 = .ok (.getfield 261, 3) := by decide +kernel
theorem dX12_plans_110 : decode cX12_plans 110 = .ok (.iload_n 2, 1) := by decide +kernel
theorem dX12_plans_111 : decode cX12_plans 111 = .ok (.iload_n 1, 1) := by decide +kernel
theorem dX12_plans_112 : decode cX12_plans 112 = .ok (.if_icmp .ne 12, 3) := by decide +kernel
theorem dX12_plans_115 : decode cX12_plans 115 = .ok (.iload_n 3, 1) := by decide +kernel
theorem dX12_plans_116 : decode cX12_plans 116 = .ok (.ifCond .eq 8, 3) := by decide +kernel
theorem dX12_plans_119 : decode cX12_plans 119 = .ok (.bipush 9, 2) := by decide +kernel
theorem dX12_plans_121 : decode cX12_plans 121 = .ok (.goto 9, 3) := by decide +kernel
theorem dX12_plans_124 : decode cX12_plans 124 = .ok (.aload_n 0, 1) := by decide +kernel
theorem dX12_plans_125 : decode cX12_plans 125 = .ok (.getfield 28, 3) := by decide +kernel
theorem dX12_plans_128 : decode cX12_plans 128 = .ok (.iload_n 2, 1) := by decide +kernel
theorem dX12_plans_129 : decode cX12_plans 129 = .ok (.iaload, 1) := by decide +kernel
theorem dX12_plans_130 : decode cX12_plans 130 = .ok (.iastore, 1) := by decide +kernel
theorem dX12_plans_131 : decode cX12_plans 131 = .ok (.aload_n 0, 1) := by decide +kernel
theorem dX12_plans_132 : decode cX12_plans 132 = .ok (.dup, 1) := by decide +kernel
theorem dX12_plans_133 : decode cX12_plans 133 = .ok (.getfield 261, 3) := by decide +kernel
theorem dX12_plans_136 : decode cX12_plans 136 = .ok (.iconst 1, 1) := by decide +kernel
theorem dX12_plans_137 : decode cX12_plans 137 = .ok (.iadd, 1) := by decide +kernel
theorem dX12_plans_138 : decode cX12_plans 138 = .ok (.putfield 261, 3) := by decide +kernel
theorem dX12_plans_141 : decode cX12_plans 141 = .ok (.iinc 2 1, 3) := by decide +kernel
theorem dX12_plans_144 : decode cX12_plans 144 = .ok (.goto (-112), 3) := by decide +kernel
theorem dX12_plans_147 : decode cX12_plans 147 = .ok (.return_, 1) := by decide +kernel
theorem dX12_isLike_0 : decode cX12_isLike 0 = .ok (.iconst 0, 1) := by decide +kernel
theorem dX12_isLike_1 : decode cX12_isLike 1 = .ok (.istore_n 2, 1) := by decide +kernel
theorem dX12_isLike_2 : decode cX12_isLike 2 = .ok (.iconst 0, 1) := by decide +kernel
theorem dX12_isLike_3 : decode cX12_isLike 3 = .ok (.istore_n 3, 1) := by decide +kernel
theorem dX12_isLike_4 : decode cX12_isLike 4 = .ok (.iload_n 3, 1) := by decide +kernel
theorem dX12_isLike_5 : decode cX12_isLike 5 = .ok (.aload_n 0, 1) := by decide +kernel
theorem dX12_isLike_6 : decode cX12_isLike 6 = .ok (.getfield 178, 3) := by decide +kernel
theorem dX12_isLike_9 : decode cX12_isLike 9 = .ok (.if_icmp .ge 64, 3) := by decide +kernel
theorem dX12_isLike_12 : decode cX12_isLike 12 = .ok (.iload_n 2, 1) := by decide +kernel
theorem dX12_isLike_13 : decode cX12_isLike 13 = .ok (.ifCond .ne 48, 3) := by decide +kernel
theorem dX12_isLike_16 : decode cX12_isLike 16 = .ok (.aload_n 0, 1) := by decide +kernel
theorem dX12_isLike_17 : decode cX12_isLike 17 = .ok (.getfield 58, 3) := by decide +kernel
theorem dX12_isLike_20 : decode cX12_isLike 20 = .ok (.iload_n 3, 1) := by decide +kernel
theorem dX12_isLike_21 : decode cX12_isLike 21 = .ok (.iaload, 1) := by decide +kernel
theorem dX12_isLike_22 : decode cX12_isLike 22 = .ok (.aload_n 0, 1) := by decide +kernel
theorem dX12_isLike_23 : decode cX12_isLike 23 = .ok (.getfield 49, 3) := by decide +kernel
theorem dX12_isLike_26 : decode cX12_isLike 26 = .ok (.iload_n 1, 1) := by decide +kernel
theorem dX12_isLike_27 : decode cX12_isLike 27 = .ok (.iaload, 1) := by decide +kernel
theorem dX12_isLike_28 : decode cX12_isLike 28 = .ok (.if_icmp .ne 37, 3) := by decide +kernel
theorem dX12_isLike_31 : decode cX12_isLike 31 = .ok (.aload_n 0, 1) := by decide +kernel
theorem dX12_isLike_32 : decode cX12_isLike 32 = .ok (.getfield 61, 3) := by decide +kernel
theorem dX12_isLike_35 : decode cX12_isLike 35 = .ok (.iload_n 3, 1) := by decide +kernel
theorem dX12_isLike_36 : decode cX12_isLike 36 = .ok (.iaload, 1) := by decide +kernel
theorem dX12_isLike_37 : decode cX12_isLike 37 = .ok (.aload_n 0, 1) := by decide +kernel
theorem dX12_isLike_38 : decode cX12_isLike 38 = .ok (.getfield 52, 3) := by decide +kernel
theorem dX12_isLike_41 : decode cX12_isLike 41 = .ok (.iload_n 1, 1) := by decide +kernel
theorem dX12_isLike_42 : decode cX12_isLike 42 = .ok (.iaload, 1) := by decide +kernel
theorem dX12_isLike_43 : decode cX12_isLike 43 = .ok (.if_icmp .ne 22, 3) := by decide +kernel
theorem dX12_isLike_46 : decode cX12_isLike 46 = .ok (.aload_n 0, 1) := by decide +kernel
theorem dX12_isLike_47 : decode cX12_isLike 47 = .ok (.getfield 64, 3) := by decide +kernel
theorem dX12_isLike_50 : decode cX12_isLike 50 = .ok (.iload_n 3, 1) := by decide +kernel
theorem dX12_isLike_51 : decode cX12_isLike 51 = .ok (.iaload, 1) := by decide +kernel
theorem dX12_isLike_52 : decode cX12_isLike 52 = .ok (.aload_n 0, 1) := by decide +kernel
theorem dX12_isLike_53 : decode cX12_isLike 53 = .ok (.getfield 55, 3) := by decide +kernel
theorem dX12_isLike_56 : decode cX12_isLike 56 = .ok (.iload_n 1, 1) := by decide +kernel
theorem dX12_isLike_57 : decode cX12_isLike 57 = .ok (.iaload, 1) := by decide +kernel
theorem dX12_isLike_58 : decode cX12_isLike 58 = .ok (.if_icmp .ne 7, 3) := by decide +kernel
theorem dX12_isLike_61 : decode cX12_isLike 61 = .ok (.iconst 1, 1) := by decide +kernel
theorem dX12_isLike_62 : decode cX12_isLike 62 = .ok (.goto 4, 3) := by decide +kernel
theorem dX12_isLike_65 : decode cX12_isLike 65 = .ok (.iconst 0, 1) := by decide +kernel
theorem dX12_isLike_66 : decode cX12_isLike 66 = .ok (.istore_n 2, 1) := by decide +kernel
theorem dX12_isLike_67 : decode cX12_isLike 67 = .ok (.iinc 3 1, 3) := by decide +kernel
theorem dX12_isLike_70 : decode cX12_isLike 70 = .ok (.goto (-66), 3) := by decide +kernel
theorem dX12_isLike_73 : decode cX12_isLike 73 = .ok (.iload_n 2, 1) := by decide +kernel
theorem dX12_isLike_74 : decode cX12_isLike 74 = .ok (.ireturn, 1) := by decide +kernel
theorem dX12_joins_0 : decode cX12_joins 0 = .ok (.iconst 0, 1) := by decide +kernel
theorem dX12_joins_1 : decode cX12_joins 1 = .ok (.istore_n 2, 1) := by decide +kernel
theorem dX12_joins_2 : decode cX12_joins 2 = .ok (.iload_n 2, 1) := by decide +kernel
theorem dX12_joins_3 : decode cX12_joins 3 = .ok (.aload_n 0, 1) := by decide +kernel
theorem dX12_joins_4 : decode cX12_joins 4 = .ok (.getfield 181, 3) := by decide +kernel
theorem dX12_joins_7 : decode cX12_joins 7 = .ok (.if_icmp .ge 69, 3) := by decide +kernel
theorem dX12_joins_10 : decode cX12_joins 10 = .ok (.iconst 0, 1) := by decide +kernel
theorem dX12_joins_11 : decode cX12_joins 11 = .ok (.istore_n 3, 1) := by decide +kernel
theorem dX12_joins_12 : decode cX12_joins 12 = .ok (.iload_n 3, 1) := by decide +kernel
theorem dX12_joins_13 : decode cX12_joins 13 = .ok (.aload_n 0, 1) := by decide +kernel
theorem dX12_joins_14 : decode cX12_joins 14 = .ok (.getfield 244, 3) := by decide +kernel
theorem dX12_joins_17 : decode cX12_joins 17 = .ok (.if_icmp .ge 53, 3) := by decide +kernel
theorem dX12_joins_20 : decode cX12_joins 20 = .ok (.iload_n 1, 1) := by decide +kernel
theorem dX12_joins_21 : decode cX12_joins 21 = .ok (.ifCond .eq 26, 3) := by decide +kernel
theorem dX12_joins_24 : decode cX12_joins 24 = .ok (.iconst 1, 1) := by decide +kernel
theorem dX12_joins_25 : decode cX12_joins 25 = .ok (.iconst 0, 1) := by decide +kernel
theorem dX12_joins_26 : decode cX12_joins 26 = .ok (.aload_n 0, 1) := by decide +kernel
theorem dX12_joins_27 : decode cX12_joins 27 = .ok (.getfield 49, 3) := by decide +kernel
theorem dX12_joins_30 : decode cX12_joins 30 = .ok (.iload_n 2, 1) := by decide +kernel
theorem dX12_joins_31 : decode cX12_joins 31 = .ok (.iaload, 1) := by decide +kernel
theorem dX12_joins_32 : decode cX12_joins 32 = .ok (.iconst 0, 1) := by decide +kernel
theorem dX12_joins_33 : decode cX12_joins 33 = .ok (.aload_n 0, 1) := by decide +kernel
theorem dX12_joins_34 : decode cX12_joins 34 = .ok (.getfield 76, 3) := by decide +kernel
theorem dX12_joins_37 : decode cX12_joins 37 = .ok (.iload_n 3, 1) := by decide +kernel
theorem dX12_joins_38 : decode cX12_joins 38 = .ok (.iaload, 1) := by decide +kernel
theorem dX12_joins_39 : decode cX12_joins 39 = .ok (.invokestatic 193, 3) := by decide +kernel
theorem dX12_joins_42 : decode cX12_joins 42 = .ok (.bipush (-2), 2) := by decide +kernel
theorem dX12_joins_44 : decode cX12_joins 44 = .ok (.if_icmp .eq 20, 3) := by decide +kernel
theorem dX12_joins_47 : decode cX12_joins 47 = .ok (.aload_n 0, 1) := by decide +kernel
theorem dX12_joins_48 : decode cX12_joins 48 = .ok (.aload_n 0, 1) := by decide +kernel
theorem dX12_joins_49 : decode cX12_joins 49 = .ok (.getfield 49, 3) := by decide +kernel
theorem dX12_joins_52 : decode cX12_joins 52 = .ok (.iload_n 2, 1) := by decide +kernel
theorem dX12_joins_53 : decode cX12_joins 53 = .ok (.iaload, 1) := by decide +kernel
theorem dX12_joins_54 : decode cX12_joins 54 = .ok (.aload_n 0, 1) := by decide +kernel
theorem dX12_joins_55 : decode cX12_joins 55 = .ok (.getfield 52, 3) := by decide +kernel
theorem dX12_joins_58 : decode cX12_joins 58 = .ok (.iload_n 2, 1) := by decide +kernel
theorem dX12_joins_59 : decode cX12_joins 59 = .ok (.iaload, 1) := by decide +kernel
theorem dX12_joins_60 : decode cX12_joins 60 = .ok (.iload_n 3, 1) := by decide +kernel
theorem dX12_joins_61 : decode cX12_joins 61 = .ok (.invokevirtual 203, 3) := by decide +kernel
theorem dX12_joins_64 : decode cX12_joins 64 = .ok (.iinc 3 1, 3) := by decide +kernel
theorem dX12_joins_67 : decode cX12_joins 67 = .ok (.goto (-55), 3) := by decide +kernel
theorem dX12_joins_70 : decode cX12_joins 70 = .ok (.iinc 2 1, 3) := by decide +kernel
theorem dX12_joins_73 : decode cX12_joins 73 = .ok (.goto (-71), 3) := by decide +kernel
theorem dX12_joins_76 : decode cX12_joins 76 = .ok (.aload_n 0, 1) := by decide +kernel
theorem dX12_joins_77 : decode cX12_joins 77 = .ok (.dup, 1) := by decide +kernel
theorem dX12_joins_78 : decode cX12_joins 78 = .ok (.getfield 200, 3) := by decide +kernel
theorem dX12_joins_81 : decode cX12_joins 81 = .ok (.aload_n 0, 1) := by decide +kernel
theorem dX12_joins_82 : decode cX12_joins 82 = .ok (.getfield 178, 3) := by decide +kernel
theorem dX12_joins_85 : decode cX12_joins 85 = .ok (.iadd, 1) := by decide +kernel
theorem dX12_joins_86 : decode cX12_joins 86 = .ok (.putfield 200, 3) := by decide +kernel
theorem dX12_joins_89 : decode cX12_joins 89 = .ok (.return_, 1) := by decide +kernel
theorem dX12_does_0 : decode cX12_does 0 = .ok (.aload_n 0, 1) := by decide +kernel
theorem dX12_does_1 : decode cX12_does 1 = .ok (.getfield 28, 3) := by decide +kernel
theorem dX12_does_4 : decode cX12_does 4 = .ok (.iload_n 1, 1) := by decide +kernel
theorem dX12_does_5 : decode cX12_does 5 = .ok (.iaload, 1) := by decide +kernel
theorem dX12_does_6 : decode cX12_does 6 = .ok (.istore_n 2, 1) := by decide +kernel
theorem dX12_does_7 : decode cX12_does 7 = .ok (.iconst 0, 1) := by decide +kernel
theorem dX12_does_8 : decode cX12_does 8 = .ok (.istore_n 3, 1) := by decide +kernel
theorem dX12_does_9 : decode cX12_does 9 = .ok (.iload_n 3, 1) := by decide +kernel
theorem dX12_does_10 : decode cX12_does 10 = .ok (.aload_n 0, 1) := by decide +kernel
theorem dX12_does_11 : decode cX12_does 11 = .ok (.getfield 181, 3) := by decide +kernel
theorem dX12_does_14 : decode cX12_does 14 = .ok (.if_icmp .ge 100, 3) := by decide +kernel
theorem dX12_does_17 : decode cX12_does 17 = .ok (.aload_n 0, 1) := by decide +kernel
theorem dX12_does_18 : decode cX12_does 18 = .ok (.getfield 55, 3) := by decide +kernel
theorem dX12_does_21 : decode cX12_does 21 = .ok (.iload_n 3, 1) := by decide +kernel
theorem dX12_does_22 : decode cX12_does 22 = .ok (.iaload, 1) := by decide +kernel
theorem dX12_does_23 : decode cX12_does 23 = .ok (.iconst (-1), 1) := by decide +kernel
theorem dX12_does_24 : decode cX12_does 24 = .ok (.if_icmp .ne 7, 3) := by decide +kernel
theorem dX12_does_27 : decode cX12_does 27 = .ok (.iconst (-1), 1) := by decide +kernel
theorem dX12_does_28 : decode cX12_does 28 = .ok (.goto 14, 3) := by decide +kernel
theorem dX12_does_31 : decode cX12_does 31 = .ok (.aload_n 0, 1) := by decide +kernel
theorem dX12_does_32 : decode cX12_does 32 = .ok (.getfield 76, 3) := by decide +kernel
theorem dX12_does_35 : decode cX12_does 35 = .ok (.aload_n 0, 1) := by decide +kernel
theorem dX12_does_36 : decode cX12_does 36 = .ok (.getfield 55, 3) := by decide +kernel
theorem dX12_does_39 : decode cX12_does 39 = .ok (.iload_n 3, 1) := by decide +kernel
theorem dX12_does_40 : decode cX12_does 40 = .ok (.iaload, 1) := by decide +kernel
theorem dX12_does_41 : decode cX12_does 41 = .ok (.iaload, 1) := by decide +kernel
theorem dX12_does_42 : decode cX12_does 42 = .ok (.istore 4, 2) := by decide +kernel
theorem dX12_does_44 : decode cX12_does 44 = .ok (.iload_n 2, 1) := by decide +kernel
theorem dX12_does_45 : decode cX12_does 45 = .ok (.aload_n 0, 1) := by decide +kernel
theorem dX12_does_46 : decode cX12_does 46 = .ok (.getfield 31, 3) := by decide +kernel
theorem dX12_does_49 : decode cX12_does 49 = .ok (.iload_n 1, 1) := by decide +kernel
theorem dX12_does_50 : decode cX12_does 50 = .ok (.iaload, 1) := by decide +kernel
theorem dX12_does_51 : decode cX12_does 51 = .ok (.aload_n 0, 1) := by decide +kernel
theorem dX12_does_52 : decode cX12_does 52 = .ok (.getfield 49, 3) := by decide +kernel
theorem dX12_does_55 : decode cX12_does 55 = .ok (.iload_n 3, 1) := by decide +kernel
theorem dX12_does_56 : decode cX12_does 56 = .ok (.iaload, 1) := by decide +kernel
theorem dX12_does_57 : decode cX12_does 57 = .ok (.aload_n 0, 1) := by decide +kernel
theorem dX12_does_58 : decode cX12_does 58 = .ok (.getfield 52, 3) := by decide +kernel
theorem dX12_does_61 : decode cX12_does 61 = .ok (.iload_n 3, 1) := by decide +kernel
theorem dX12_does_62 : decode cX12_does 62 = .ok (.iaload, 1) := by decide +kernel
theorem dX12_does_63 : decode cX12_does 63 = .ok (.iload 4, 2) := by decide +kernel
theorem dX12_does_65 : decode cX12_does 65 = .ok (.invokestatic 193, 3) := by decide +kernel
theorem dX12_does_68 : decode cX12_does 68 = .ok (.istore 5, 2) := by decide +kernel
theorem dX12_does_70 : decode cX12_does 70 = .ok (.iload 5, 2) := by decide +kernel
theorem dX12_does_72 : decode cX12_does 72 = .ok (.bipush (-2), 2) := by decide +kernel
theorem dX12_does_74 : decode cX12_does 74 = .ok (.if_icmp .eq 34, 3) := by decide +kernel
theorem dX12_does_77 : decode cX12_does 77 = .ok (.iload_n 2, 1) := by decide +kernel
theorem dX12_does_78 : decode cX12_does 78 = .ok (.iconst 5, 1) := by decide +kernel
theorem dX12_does_79 : decode cX12_does 79 = .ok (.if_icmp .ne 11, 3) := by decide +kernel
theorem dX12_does_82 : decode cX12_does 82 = .ok (.aload_n 0, 1) := by decide +kernel
theorem dX12_does_83 : decode cX12_does 83 = .ok (.iload_n 3, 1) := by decide +kernel
theorem dX12_does_84 : decode cX12_does 84 = .ok (.invokevirtual 264, 3) := by decide +kernel
theorem dX12_does_87 : decode cX12_does 87 = .ok (.ifCond .ne 21, 3) := by decide +kernel
theorem dX12_does_90 : decode cX12_does 90 = .ok (.aload_n 0, 1) := by decide +kernel
theorem dX12_does_91 : decode cX12_does 91 = .ok (.aload_n 0, 1) := by decide +kernel
theorem dX12_does_92 : decode cX12_does 92 = .ok (.getfield 49, 3) := by decide +kernel
theorem dX12_does_95 : decode cX12_does 95 = .ok (.iload_n 3, 1) := by decide +kernel
theorem dX12_does_96 : decode cX12_does 96 = .ok (.iaload, 1) := by decide +kernel
theorem dX12_does_97 : decode cX12_does 97 = .ok (.iload 5, 2) := by decide +kernel
theorem dX12_does_99 : decode cX12_does 99 = .ok (.aload_n 0, 1) := by decide +kernel
theorem dX12_does_100 : decode cX12_does 100 = .ok (.getfield 55, 3) := by decide +kernel
theorem dX12_does_103 : decode cX12_does 103 = .ok (.iload_n 3, 1) := by decide +kernel
theorem dX12_does_104 : decode cX12_does 104 = .ok (.iaload, 1) := by decide +kernel
theorem dX12_does_105 : decode cX12_does 105 = .ok (.invokevirtual 203, 3) := by decide +kernel
theorem dX12_does_108 : decode cX12_does 108 = .ok (.iinc 3 1, 3) := by decide +kernel
theorem dX12_does_111 : decode cX12_does 111 = .ok (.goto (-102), 3) := by decide +kernel
theorem dX12_does_114 : decode cX12_does 114 = .ok (.iconst 0, 1) := by decide +kernel
theorem dX12_does_115 : decode cX12_does 115 = .ok (.istore_n 3, 1) := by decide +kernel
theorem dX12_does_116 : decode cX12_does 116 = .ok (.iload_n 3, 1) := by decide +kernel
theorem dX12_does_117 : decode cX12_does 117 = .ok (.aload_n 0, 1) := by decide +kernel
theorem dX12_does_118 : decode cX12_does 118 = .ok (.getfield 244, 3) := by decide +kernel
theorem dX12_does_121 : decode cX12_does 121 = .ok (.if_icmp .ge 31, 3) := by decide +kernel
theorem dX12_does_124 : decode cX12_does 124 = .ok (.iload_n 2, 1) := by decide +kernel
theorem dX12_does_125 : decode cX12_does 125 = .ok (.iconst 4, 1) := by decide +kernel
theorem dX12_does_126 : decode cX12_does 126 = .ok (.if_icmp .ne 26, 3) := by decide +kernel
theorem dX12_does_129 : decode cX12_does 129 = .ok (.aload_n 0, 1) := by decide +kernel
theorem dX12_does_130 : decode cX12_does 130 = .ok (.aload_n 0, 1) := by decide +kernel
theorem dX12_does_131 : decode cX12_does 131 = .ok (.getfield 76, 3) := by decide +kernel
theorem dX12_does_134 : decode cX12_does 134 = .ok (.iload_n 3, 1) := by decide +kernel
theorem dX12_does_135 : decode cX12_does 135 = .ok (.iaload, 1) := by decide +kernel
theorem dX12_does_136 : decode cX12_does 136 = .ok (.aload_n 0, 1) := by decide +kernel
theorem dX12_does_137 : decode cX12_does 137 = .ok (.getfield 79, 3) := by decide +kernel
theorem dX12_does_140 : decode cX12_does 140 = .ok (.iload_n 3, 1) := by decide +kernel
theorem dX12_does_141 : decode cX12_does 141 = .ok (.iaload, 1) := by decide +kernel
theorem dX12_does_142 : decode cX12_does 142 = .ok (.iload_n 3, 1) := by decide +kernel
theorem dX12_does_143 : decode cX12_does 143 = .ok (.invokevirtual 203, 3) := by decide +kernel
theorem dX12_does_146 : decode cX12_does 146 = .ok (.iinc 3 1, 3) := by decide +kernel
theorem dX12_does_149 : decode cX12_does 149 = .ok (.goto (-33), 3) := by decide +kernel
theorem dX12_does_152 : decode cX12_does 152 = .ok (.iload_n 2, 1) := by decide +kernel
theorem dX12_does_153 : decode cX12_does 153 = .ok (.bipush 6, 2) := by decide +kernel
theorem dX12_does_155 : decode cX12_does 155 = .ok (.if_icmp .ne 45, 3) := by decide +kernel
theorem dX12_does_158 : decode cX12_does 158 = .ok (.aload_n 0, 1) := by decide +kernel
theorem dX12_does_159 : decode cX12_does 159 = .ok (.invokevirtual 225, 3) := by decide +kernel
theorem dX12_does_162 : decode cX12_does 162 = .ok (.iconst 0, 1) := by decide +kernel
theorem dX12_does_163 : decode cX12_does 163 = .ok (.istore_n 3, 1) := by decide +kernel
theorem dX12_does_164 : decode cX12_does 164 = .ok (.iload_n 3, 1) := by decide +kernel
theorem dX12_does_165 : decode cX12_does 165 = .ok (.aload_n 0, 1) := by decide +kernel
theorem dX12_does_166 : decode cX12_does 166 = .ok (.getfield 181, 3) := by decide +kernel
theorem dX12_does_169 : decode cX12_does 169 = .ok (.if_icmp .ge 31, 3) := by decide +kernel
theorem dX12_does_172 : decode cX12_does 172 = .ok (.aload_n 0, 1) := by decide +kernel
theorem dX12_does_173 : decode cX12_does 173 = .ok (.aload_n 0, 1) := by decide +kernel
theorem dX12_does_174 : decode cX12_does 174 = .ok (.getfield 49, 3) := by decide +kernel
theorem dX12_does_177 : decode cX12_does 177 = .ok (.iload_n 3, 1) := by decide +kernel
theorem dX12_does_178 : decode cX12_does 178 = .ok (.iaload, 1) := by decide +kernel
theorem dX12_does_179 : decode cX12_does 179 = .ok (.aload_n 0, 1) := by decide +kernel
theorem dX12_does_180 : decode cX12_does 180 = .ok (.getfield 52, 3) := by decide +kernel
theorem dX12_does_183 : decode cX12_does 183 = .ok (.iload_n 3, 1) := by decide +kernel
theorem dX12_does_184 : decode cX12_does 184 = .ok (.iaload, 1) := by decide +kernel
theorem dX12_does_185 : decode cX12_does 185 = .ok (.aload_n 0, 1) := by decide +kernel
theorem dX12_does_186 : decode cX12_does 186 = .ok (.getfield 55, 3) := by decide +kernel
theorem dX12_does_189 : decode cX12_does 189 = .ok (.iload_n 3, 1) := by decide +kernel
theorem dX12_does_190 : decode cX12_does 190 = .ok (.iaload, 1) := by decide +kernel
theorem dX12_does_191 : decode cX12_does 191 = .ok (.invokevirtual 203, 3) := by decide +kernel
theorem dX12_does_194 : decode cX12_does 194 = .ok (.iinc 3 1, 3) := by decide +kernel
theorem dX12_does_197 : decode cX12_does 197 = .ok (.goto (-33), 3) := by decide +kernel
theorem dX12_does_200 : decode cX12_does 200 = .ok (.aload_n 0, 1) := by decide +kernel
theorem dX12_does_201 : decode cX12_does 201 = .ok (.dup, 1) := by decide +kernel
theorem dX12_does_202 : decode cX12_does 202 = .ok (.getfield 200, 3) := by decide +kernel
theorem dX12_does_205 : decode cX12_does 205 = .ok (.aload_n 0, 1) := by decide +kernel
theorem dX12_does_206 : decode cX12_does 206 = .ok (.getfield 178, 3) := by decide +kernel
theorem dX12_does_209 : decode cX12_does 209 = .ok (.iadd, 1) := by decide +kernel
theorem dX12_does_210 : decode cX12_does 210 = .ok (.putfield 200, 3) := by decide +kernel
theorem dX12_does_213 : decode cX12_does 213 = .ok (.return_, 1) := by decide +kernel
theorem dX12_free_0 : decode cX12_free 0 = .ok (.aload_n 0, 1) := by decide +kernel
theorem dX12_free_1 : decode cX12_free 1 = .ok (.iconst 1, 1) := by decide +kernel
theorem dX12_free_2 : decode cX12_free 2 = .ok (.invokevirtual 231, 3) := by decide +kernel
theorem dX12_free_5 : decode cX12_free 5 = .ok (.aload_n 0, 1) := by decide +kernel
theorem dX12_free_6 : decode cX12_free 6 = .ok (.invokevirtual 267, 3) := by decide +kernel
theorem dX12_free_9 : decode cX12_free 9 = .ok (.aload_n 0, 1) := by decide +kernel
theorem dX12_free_10 : decode cX12_free 10 = .ok (.invokevirtual 270, 3) := by decide +kernel
theorem dX12_free_13 : decode cX12_free 13 = .ok (.iconst 0, 1) := by decide +kernel
theorem dX12_free_14 : decode cX12_free 14 = .ok (.istore_n 1, 1) := by decide +kernel
theorem dX12_free_15 : decode cX12_free 15 = .ok (.iload_n 1, 1) := by decide +kernel
theorem dX12_free_16 : decode cX12_free 16 = .ok (.aload_n 0, 1) := by decide +kernel
theorem dX12_free_17 : decode cX12_free 17 = .ok (.getfield 261, 3) := by decide +kernel
theorem dX12_free_20 : decode cX12_free 20 = .ok (.if_icmp .ge 20, 3) := by decide +kernel
theorem dX12_free_23 : decode cX12_free 23 = .ok (.aload_n 0, 1) := by decide +kernel
theorem dX12_free_24 : decode cX12_free 24 = .ok (.iconst 1, 1) := by decide +kernel
theorem dX12_free_25 : decode cX12_free 25 = .ok (.aload_n 0, 1) := by decide +kernel
theorem dX12_free_26 : decode cX12_free 26 = .ok (.getfield 85, 3) := by decide +kernel
theorem dX12_free_29 : decode cX12_free 29 = .ok (.iload_n 1, 1) := by decide +kernel
theorem dX12_free_30 : decode cX12_free 30 = .ok (.iaload, 1) := by decide +kernel
theorem dX12_free_31 : decode cX12_free 31 = .ok (.invokevirtual 235, 3) := by decide +kernel
theorem dX12_free_34 : decode cX12_free 34 = .ok (.iinc 1 1, 3) := by decide +kernel
theorem dX12_free_37 : decode cX12_free 37 = .ok (.goto (-22), 3) := by decide +kernel
theorem dX12_free_40 : decode cX12_free 40 = .ok (.aload_n 0, 1) := by decide +kernel
theorem dX12_free_41 : decode cX12_free 41 = .ok (.invokevirtual 218, 3) := by decide +kernel
theorem dX12_free_44 : decode cX12_free 44 = .ok (.aload_n 0, 1) := by decide +kernel
theorem dX12_free_45 : decode cX12_free 45 = .ok (.aload_n 0, 1) := by decide +kernel
theorem dX12_free_46 : decode cX12_free 46 = .ok (.getfield 181, 3) := by decide +kernel
theorem dX12_free_49 : decode cX12_free 49 = .ok (.putfield 211, 3) := by decide +kernel
theorem dX12_free_52 : decode cX12_free 52 = .ok (.aload_n 0, 1) := by decide +kernel
theorem dX12_free_53 : decode cX12_free 53 = .ok (.aload_n 0, 1) := by decide +kernel
theorem dX12_free_54 : decode cX12_free 54 = .ok (.getfield 181, 3) := by decide +kernel
theorem dX12_free_57 : decode cX12_free 57 = .ok (.putfield 200, 3) := by decide +kernel
theorem dX12_free_60 : decode cX12_free 60 = .ok (.aload_n 0, 1) := by decide +kernel
theorem dX12_free_61 : decode cX12_free 61 = .ok (.invokevirtual 258, 3) := by decide +kernel
theorem dX12_free_64 : decode cX12_free 64 = .ok (.istore_n 1, 1) := by decide +kernel
theorem dX12_free_65 : decode cX12_free 65 = .ok (.iconst 0, 1) := by decide +kernel
theorem dX12_free_66 : decode cX12_free 66 = .ok (.istore_n 2, 1) := by decide +kernel
theorem dX12_free_67 : decode cX12_free 67 = .ok (.iload_n 2, 1) := by decide +kernel
theorem dX12_free_68 : decode cX12_free 68 = .ok (.aload_n 0, 1) := by decide +kernel
theorem dX12_free_69 : decode cX12_free 69 = .ok (.getfield 145, 3) := by decide +kernel
theorem dX12_free_72 : decode cX12_free 72 = .ok (.if_icmp .gt 73, 3) := by decide +kernel
theorem dX12_free_75 : decode cX12_free 75 = .ok (.iload_n 2, 1) := by decide +kernel
theorem dX12_free_76 : decode cX12_free 76 = .ok (.aload_n 0, 1) := by decide +kernel
theorem dX12_free_77 : decode cX12_free 77 = .ok (.getfield 145, 3) := by decide +kernel
theorem dX12_free_80 : decode cX12_free 80 = .ok (.if_icmp .ge 17, 3) := by decide +kernel
theorem dX12_free_83 : decode cX12_free 83 = .ok (.aload_n 0, 1) := by decide +kernel
theorem dX12_free_84 : decode cX12_free 84 = .ok (.getfield 28, 3) := by decide +kernel
theorem dX12_free_87 : decode cX12_free 87 = .ok (.iload_n 2, 1) := by decide +kernel
theorem dX12_free_88 : decode cX12_free 88 = .ok (.iaload, 1) := by decide +kernel
theorem dX12_free_89 : decode cX12_free 89 = .ok (.iconst 1, 1) := by decide +kernel
theorem dX12_free_90 : decode cX12_free 90 = .ok (.if_icmp .ne 7, 3) := by decide +kernel
theorem dX12_free_93 : decode cX12_free 93 = .ok (.iconst 1, 1) := by decide +kernel
theorem dX12_free_94 : decode cX12_free 94 = .ok (.goto 4, 3) := by decide +kernel
theorem dX12_free_97 : decode cX12_free 97 = .ok (.iconst 0, 1) := by decide +kernel
theorem dX12_free_98 : decode cX12_free 98 = .ok (.istore_n 3, 1) := by decide +kernel
theorem dX12_free_99 : decode cX12_free 99 = .ok (.iload_n 2, 1) := by decide +kernel
theorem dX12_free_100 : decode cX12_free 100 = .ok (.iload_n 1, 1) := by decide +kernel
theorem dX12_free_101 : decode cX12_free 101 = .ok (.if_icmp .ne 12, 3) := by decide +kernel
theorem dX12_free_104 : decode cX12_free 104 = .ok (.aload_n 0, 1) := by decide +kernel
theorem dX12_free_105 : decode cX12_free 105 = .ok (.iload_n 3, 1) := by decide +kernel
theorem dX12_free_106 : decode cX12_free 106 = .ok (.invokevirtual 273, 3) := by decide +kernel
theorem dX12_free_109 : decode cX12_free 109 = .ok (.aload_n 0, 1) := by decide +kernel
theorem dX12_free_110 : decode cX12_free 110 = .ok (.invokevirtual 277, 3) := by decide +kernel
theorem dX12_free_113 : decode cX12_free 113 = .ok (.iload_n 2, 1) := by decide +kernel
theorem dX12_free_114 : decode cX12_free 114 = .ok (.aload_n 0, 1) := by decide +kernel
theorem dX12_free_115 : decode cX12_free 115 = .ok (.getfield 145, 3) := by decide +kernel
theorem dX12_free_118 : decode cX12_free 118 = .ok (.if_icmp .ge 21, 3) := by decide +kernel
theorem dX12_free_121 : decode cX12_free 121 = .ok (.iload_n 2, 1) := by decide +kernel
theorem dX12_free_122 : decode cX12_free 122 = .ok (.iload_n 1, 1) := by decide +kernel
theorem dX12_free_123 : decode cX12_free 123 = .ok (.if_icmp .ne 7, 3) := by decide +kernel
theorem dX12_free_126 : decode cX12_free 126 = .ok (.iload_n 3, 1) := by decide +kernel
theorem dX12_free_127 : decode cX12_free 127 = .ok (.ifCond .ne 12, 3) := by decide +kernel
theorem dX12_free_130 : decode cX12_free 130 = .ok (.aload_n 0, 1) := by decide +kernel
theorem dX12_free_131 : decode cX12_free 131 = .ok (.iload_n 2, 1) := by decide +kernel
theorem dX12_free_132 : decode cX12_free 132 = .ok (.invokevirtual 280, 3) := by decide +kernel
theorem dX12_free_135 : decode cX12_free 135 = .ok (.aload_n 0, 1) := by decide +kernel
theorem dX12_free_136 : decode cX12_free 136 = .ok (.invokevirtual 277, 3) := by decide +kernel
theorem dX12_free_139 : decode cX12_free 139 = .ok (.iinc 2 1, 3) := by decide +kernel
theorem dX12_free_142 : decode cX12_free 142 = .ok (.goto (-75), 3) := by decide +kernel
theorem dX12_free_145 : decode cX12_free 145 = .ok (.aload_n 0, 1) := by decide +kernel
theorem dX12_free_146 : decode cX12_free 146 = .ok (.aload_n 0, 1) := by decide +kernel
theorem dX12_free_147 : decode cX12_free 147 = .ok (.getfield 181, 3) := by decide +kernel
theorem dX12_free_150 : decode cX12_free 150 = .ok (.putfield 178, 3) := by decide +kernel
theorem dX12_free_153 : decode cX12_free 153 = .ok (.iconst 0, 1) := by decide +kernel
theorem dX12_free_154 : decode cX12_free 154 = .ok (.istore_n 2, 1) := by decide +kernel
theorem dX12_free_155 : decode cX12_free 155 = .ok (.iload_n 2, 1) := by decide +kernel
theorem dX12_free_156 : decode cX12_free 156 = .ok (.aload_n 0, 1) := by decide +kernel
theorem dX12_free_157 : decode cX12_free 157 = .ok (.getfield 181, 3) := by decide +kernel
theorem dX12_free_160 : decode cX12_free 160 = .ok (.if_icmp .ge 45, 3) := by decide +kernel
theorem dX12_free_163 : decode cX12_free 163 = .ok (.aload_n 0, 1) := by decide +kernel
theorem dX12_free_164 : decode cX12_free 164 = .ok (.getfield 58, 3) := by decide +kernel
theorem dX12_free_167 : decode cX12_free 167 = .ok (.iload_n 2, 1) := by decide +kernel
theorem dX12_free_168 : decode cX12_free 168 = .ok (.aload_n 0, 1) := by decide +kernel
theorem dX12_free_169 : decode cX12_free 169 = .ok (.getfield 49, 3) := by decide +kernel
theorem dX12_free_172 : decode cX12_free 172 = .ok (.iload_n 2, 1) := by decide +kernel
theorem dX12_free_173 : decode cX12_free 173 = .ok (.iaload, 1) := by decide +kernel
theorem dX12_free_174 : decode cX12_free 174 = .ok (.iastore, 1) := by decide +kernel
theorem dX12_free_175 : decode cX12_free 175 = .ok (.aload_n 0, 1) := by decide +kernel
theorem dX12_free_176 : decode cX12_free 176 = .ok (.getfield 61, 3) := by decide +kernel
theorem dX12_free_179 : decode cX12_free 179 = .ok (.iload_n 2, 1) := by decide +kernel
theorem dX12_free_180 : decode cX12_free 180 = .ok (.aload_n 0, 1) := by decide +kernel
theorem dX12_free_181 : decode cX12_free 181 = .ok (.getfield 52, 3) := by decide +kernel
theorem dX12_free_184 : decode cX12_free 184 = .ok (.iload_n 2, 1) := by decide +kernel
theorem dX12_free_185 : decode cX12_free 185 = .ok (.iaload, 1) := by decide +kernel
theorem dX12_free_186 : decode cX12_free 186 = .ok (.iastore, 1) := by decide +kernel
theorem dX12_free_187 : decode cX12_free 187 = .ok (.aload_n 0, 1) := by decide +kernel
theorem dX12_free_188 : decode cX12_free 188 = .ok (.getfield 64, 3) := by decide +kernel
theorem dX12_free_191 : decode cX12_free 191 = .ok (.iload_n 2, 1) := by decide +kernel
theorem dX12_free_192 : decode cX12_free 192 = .ok (.aload_n 0, 1) := by decide +kernel
theorem dX12_free_193 : decode cX12_free 193 = .ok (.getfield 55, 3) := by decide +kernel
theorem dX12_free_196 : decode cX12_free 196 = .ok (.iload_n 2, 1) := by decide +kernel
theorem dX12_free_197 : decode cX12_free 197 = .ok (.iaload, 1) := by decide +kernel
theorem dX12_free_198 : decode cX12_free 198 = .ok (.iastore, 1) := by decide +kernel
theorem dX12_free_199 : decode cX12_free 199 = .ok (.iinc 2 1, 3) := by decide +kernel
theorem dX12_free_202 : decode cX12_free 202 = .ok (.goto (-47), 3) := by decide +kernel
theorem dX12_free_205 : decode cX12_free 205 = .ok (.aload_n 0, 1) := by decide +kernel
theorem dX12_free_206 : decode cX12_free 206 = .ok (.getfield 19, 3) := by decide +kernel
theorem dX12_free_209 : decode cX12_free 209 = .ok (.iconst 0, 1) := by decide +kernel
theorem dX12_free_210 : decode cX12_free 210 = .ok (.iaload, 1) := by decide +kernel
theorem dX12_free_211 : decode cX12_free 211 = .ok (.iconst 1, 1) := by decide +kernel
theorem dX12_free_212 : decode cX12_free 212 = .ok (.isub, 1) := by decide +kernel
theorem dX12_free_213 : decode cX12_free 213 = .ok (.istore_n 2, 1) := by decide +kernel
theorem dX12_free_214 : decode cX12_free 214 = .ok (.iload_n 2, 1) := by decide +kernel
theorem dX12_free_215 : decode cX12_free 215 = .ok (.ifCond .lt 84, 3) := by decide +kernel
theorem dX12_free_218 : decode cX12_free 218 = .ok (.iload_n 1, 1) := by decide +kernel
theorem dX12_free_219 : decode cX12_free 219 = .ok (.iconst (-1), 1) := by decide +kernel
theorem dX12_free_220 : decode cX12_free 220 = .ok (.if_icmp .ne 7, 3) := by decide +kernel
theorem dX12_free_223 : decode cX12_free 223 = .ok (.iconst (-1), 1) := by decide +kernel
theorem dX12_free_224 : decode cX12_free 224 = .ok (.goto 9, 3) := by decide +kernel
theorem dX12_free_227 : decode cX12_free 227 = .ok (.aload_n 0, 1) := by decide +kernel
theorem dX12_free_228 : decode cX12_free 228 = .ok (.getfield 82, 3) := by decide +kernel
theorem dX12_free_231 : decode cX12_free 231 = .ok (.iload_n 2, 1) := by decide +kernel
theorem dX12_free_232 : decode cX12_free 232 = .ok (.iaload, 1) := by decide +kernel
theorem dX12_free_233 : decode cX12_free 233 = .ok (.istore_n 3, 1) := by decide +kernel
theorem dX12_free_234 : decode cX12_free 234 = .ok (.aload_n 0, 1) := by decide +kernel
theorem dX12_free_235 : decode cX12_free 235 = .ok (.getfield 37, 3) := by decide +kernel
theorem dX12_free_238 : decode cX12_free 238 = .ok (.bipush 10, 2) := by decide +kernel
theorem dX12_free_240 : decode cX12_free 240 = .ok (.iload_n 2, 1) := by decide +kernel
theorem dX12_free_241 : decode cX12_free 241 = .ok (.iadd, 1) := by decide +kernel
theorem dX12_free_242 : decode cX12_free 242 = .ok (.aload_n 0, 1) := by decide +kernel
theorem dX12_free_243 : decode cX12_free 243 = .ok (.iload_n 3, 1) := by decide +kernel
theorem dX12_free_244 : decode cX12_free 244 = .ok (.iload_n 3, 1) := by decide +kernel
theorem dX12_free_245 : decode cX12_free 245 = .ok (.iconst (-1), 1) := by decide +kernel
theorem dX12_free_246 : decode cX12_free 246 = .ok (.if_icmp .ne 7, 3) := by decide +kernel
theorem dX12_free_249 : decode cX12_free 249 = .ok (.iconst (-1), 1) := by decide +kernel
theorem dX12_free_250 : decode cX12_free 250 = .ok (.goto 9, 3) := by decide +kernel
theorem dX12_free_253 : decode cX12_free 253 = .ok (.aload_n 0, 1) := by decide +kernel
theorem dX12_free_254 : decode cX12_free 254 = .ok (.getfield 79, 3) := by decide +kernel
theorem dX12_free_257 : decode cX12_free 257 = .ok (.iload_n 3, 1) := by decide +kernel
theorem dX12_free_258 : decode cX12_free 258 = .ok (.iaload, 1) := by decide +kernel
theorem dX12_free_259 : decode cX12_free 259 = .ok (.invokevirtual 241, 3) := by decide +kernel
theorem dX12_free_262 : decode cX12_free 262 = .ok (.iastore, 1) := by decide +kernel
theorem dX12_free_263 : decode cX12_free 263 = .ok (.aload_n 0, 1) := by decide +kernel
theorem dX12_free_264 : decode cX12_free 264 = .ok (.getfield 34, 3) := by decide +kernel
theorem dX12_free_267 : decode cX12_free 267 = .ok (.iconst 1, 1) := by decide +kernel
theorem dX12_free_268 : decode cX12_free 268 = .ok (.aload_n 0, 1) := by decide +kernel
theorem dX12_free_269 : decode cX12_free 269 = .ok (.getfield 37, 3) := by decide +kernel
theorem dX12_free_272 : decode cX12_free 272 = .ok (.bipush 10, 2) := by decide +kernel
theorem dX12_free_274 : decode cX12_free 274 = .ok (.iload_n 2, 1) := by decide +kernel
theorem dX12_free_275 : decode cX12_free 275 = .ok (.iadd, 1) := by decide +kernel
theorem dX12_free_276 : decode cX12_free 276 = .ok (.iaload, 1) := by decide +kernel
theorem dX12_free_277 : decode cX12_free 277 = .ok (.bipush (-2), 2) := by decide +kernel
theorem dX12_free_279 : decode cX12_free 279 = .ok (.if_icmp .ne 7, 3) := by decide +kernel
theorem dX12_free_282 : decode cX12_free 282 = .ok (.iload_n 2, 1) := by decide +kernel
theorem dX12_free_283 : decode cX12_free 283 = .ok (.goto 9, 3) := by decide +kernel
theorem dX12_free_286 : decode cX12_free 286 = .ok (.aload_n 0, 1) := by decide +kernel
theorem dX12_free_287 : decode cX12_free 287 = .ok (.getfield 34, 3) := by decide +kernel
theorem dX12_free_290 : decode cX12_free 290 = .ok (.iconst 1, 1) := by decide +kernel
theorem dX12_free_291 : decode cX12_free 291 = .ok (.iaload, 1) := by decide +kernel
theorem dX12_free_292 : decode cX12_free 292 = .ok (.iastore, 1) := by decide +kernel
theorem dX12_free_293 : decode cX12_free 293 = .ok (.iinc 2 (-1), 3) := by decide +kernel
theorem dX12_free_296 : decode cX12_free 296 = .ok (.goto (-82), 3) := by decide +kernel
theorem dX12_free_299 : decode cX12_free 299 = .ok (.aload_n 0, 1) := by decide +kernel
theorem dX12_free_300 : decode cX12_free 300 = .ok (.getfield 261, 3) := by decide +kernel
theorem dX12_free_303 : decode cX12_free 303 = .ok (.iconst 1, 1) := by decide +kernel
theorem dX12_free_304 : decode cX12_free 304 = .ok (.isub, 1) := by decide +kernel
theorem dX12_free_305 : decode cX12_free 305 = .ok (.istore_n 2, 1) := by decide +kernel
theorem dX12_free_306 : decode cX12_free 306 = .ok (.iload_n 2, 1) := by decide +kernel
theorem dX12_free_307 : decode cX12_free 307 = .ok (.ifCond .lt 23, 3) := by decide +kernel
theorem dX12_free_310 : decode cX12_free 310 = .ok (.aload_n 0, 1) := by decide +kernel
theorem dX12_free_311 : decode cX12_free 311 = .ok (.iconst 1, 1) := by decide +kernel
theorem dX12_free_312 : decode cX12_free 312 = .ok (.bipush 10, 2) := by decide +kernel
theorem dX12_free_314 : decode cX12_free 314 = .ok (.aload_n 0, 1) := by decide +kernel
theorem dX12_free_315 : decode cX12_free 315 = .ok (.getfield 85, 3) := by decide +kernel
theorem dX12_free_318 : decode cX12_free 318 = .ok (.iload_n 2, 1) := by decide +kernel
theorem dX12_free_319 : decode cX12_free 319 = .ok (.iaload, 1) := by decide +kernel
theorem dX12_free_320 : decode cX12_free 320 = .ok (.iadd, 1) := by decide +kernel
theorem dX12_free_321 : decode cX12_free 321 = .ok (.invokevirtual 228, 3) := by decide +kernel
theorem dX12_free_324 : decode cX12_free 324 = .ok (.iinc 2 (-1), 3) := by decide +kernel
theorem dX12_free_327 : decode cX12_free 327 = .ok (.goto (-21), 3) := by decide +kernel
theorem dX12_free_330 : decode cX12_free 330 = .ok (.aload_n 0, 1) := by decide +kernel
theorem dX12_free_331 : decode cX12_free 331 = .ok (.getfield 40, 3) := by decide +kernel
theorem dX12_free_334 : decode cX12_free 334 = .ok (.iconst 5, 1) := by decide +kernel
theorem dX12_free_335 : decode cX12_free 335 = .ok (.aload_n 0, 1) := by decide +kernel
theorem dX12_free_336 : decode cX12_free 336 = .ok (.getfield 211, 3) := by decide +kernel
theorem dX12_free_339 : decode cX12_free 339 = .ok (.iastore, 1) := by decide +kernel
theorem dX12_free_340 : decode cX12_free 340 = .ok (.aload_n 0, 1) := by decide +kernel
theorem dX12_free_341 : decode cX12_free 341 = .ok (.getfield 40, 3) := by decide +kernel
theorem dX12_free_344 : decode cX12_free 344 = .ok (.bipush 6, 2) := by decide +kernel
theorem dX12_free_346 : decode cX12_free 346 = .ok (.aload_n 0, 1) := by decide +kernel
theorem dX12_free_347 : decode cX12_free 347 = .ok (.getfield 200, 3) := by decide +kernel
theorem dX12_free_350 : decode cX12_free 350 = .ok (.iastore, 1) := by decide +kernel
theorem dX12_free_351 : decode cX12_free 351 = .ok (.aload_n 0, 1) := by decide +kernel
theorem dX12_free_352 : decode cX12_free 352 = .ok (.getfield 40, 3) := by decide +kernel
theorem dX12_free_355 : decode cX12_free 355 = .ok (.bipush 8, 2) := by decide +kernel
theorem dX12_free_357 : decode cX12_free 357 = .ok (.aload_n 0, 1) := by decide +kernel
theorem dX12_free_358 : decode cX12_free 358 = .ok (.getfield 261, 3) := by decide +kernel
theorem dX12_free_361 : decode cX12_free 361 = .ok (.iastore, 1) := by decide +kernel
theorem dX12_free_362 : decode cX12_free 362 = .ok (.return_, 1) := by decide +kernel
theorem dX12_runs_0 : decode cX12_runs 0 = .ok (.aload_n 0, 1) := by decide +kernel
theorem dX12_runs_1 : decode cX12_runs 1 = .ok (.invokevirtual 159, 3) := by decide +kernel
theorem dX12_runs_4 : decode cX12_runs 4 = .ok (.aload_n 0, 1) := by decide +kernel
theorem dX12_runs_5 : decode cX12_runs 5 = .ok (.iload_n 1, 1) := by decide +kernel
theorem dX12_runs_6 : decode cX12_runs 6 = .ok (.putfield 184, 3) := by decide +kernel
theorem dX12_runs_9 : decode cX12_runs 9 = .ok (.aload_n 0, 1) := by decide +kernel
theorem dX12_runs_10 : decode cX12_runs 10 = .ok (.iconst (-1), 1) := by decide +kernel
theorem dX12_runs_11 : decode cX12_runs 11 = .ok (.putfield 190, 3) := by decide +kernel
theorem dX12_runs_14 : decode cX12_runs 14 = .ok (.aload_n 0, 1) := by decide +kernel
theorem dX12_runs_15 : decode cX12_runs 15 = .ok (.invokevirtual 283, 3) := by decide +kernel
theorem dX12_runs_18 : decode cX12_runs 18 = .ok (.aload_n 0, 1) := by decide +kernel
theorem dX12_runs_19 : decode cX12_runs 19 = .ok (.invokevirtual 286, 3) := by decide +kernel
theorem dX12_runs_22 : decode cX12_runs 22 = .ok (.return_, 1) := by decide +kernel
theorem dX12_runsTold_0 : decode cX12_runsTold 0 = .ok (.aload_n 0, 1) := by decide +kernel
theorem dX12_runsTold_1 : decode cX12_runsTold 1 = .ok (.aload_n 0, 1) := by decide +kernel
theorem dX12_runsTold_2 : decode cX12_runsTold 2 = .ok (.getfield 175, 3) := by decide +kernel
theorem dX12_runsTold_5 : decode cX12_runsTold 5 = .ok (.invokevirtual 289, 3) := by decide +kernel
theorem dX12_runsTold_8 : decode cX12_runsTold 8 = .ok (.return_, 1) := by decide +kernel
theorem dX12_errorOf_0 : decode cX12_errorOf 0 = .ok (.aload_n 0, 1) := by decide +kernel
theorem dX12_errorOf_1 : decode cX12_errorOf 1 = .ok (.invokevirtual 292, 3) := by decide +kernel
theorem dX12_errorOf_4 : decode cX12_errorOf 4 = .ok (.aload_n 0, 1) := by decide +kernel
theorem dX12_errorOf_5 : decode cX12_errorOf 5 = .ok (.getfield 34, 3) := by decide +kernel
theorem dX12_errorOf_8 : decode cX12_errorOf 8 = .ok (.iload_n 1, 1) := by decide +kernel
theorem dX12_errorOf_9 : decode cX12_errorOf 9 = .ok (.iaload, 1) := by decide +kernel
theorem dX12_errorOf_10 : decode cX12_errorOf 10 = .ok (.ireturn, 1) := by decide +kernel
theorem dX12_error_0 : decode cX12_error 0 = .ok (.iload_n 1, 1) := by decide +kernel
theorem dX12_error_1 : decode cX12_error 1 = .ok (.invokestatic 165, 3) := by decide +kernel
theorem dX12_error_4 : decode cX12_error 4 = .ok (.ifCond .eq 11, 3) := by decide +kernel
theorem dX12_error_7 : decode cX12_error 7 = .ok (.aload_n 0, 1) := by decide +kernel
theorem dX12_error_8 : decode cX12_error 8 = .ok (.iload_n 1, 1) := by decide +kernel
theorem dX12_error_9 : decode cX12_error 9 = .ok (.invokevirtual 295, 3) := by decide +kernel
theorem dX12_error_12 : decode cX12_error 12 = .ok (.goto 5, 3) := by decide +kernel
theorem dX12_error_15 : decode cX12_error 15 = .ok (.bipush (-2), 2) := by decide +kernel
theorem dX12_error_17 : decode cX12_error 17 = .ok (.ireturn, 1) := by decide +kernel
theorem dX12_answerNow_0 : decode cX12_answerNow 0 = .ok (.aload_n 0, 1) := by decide +kernel
theorem dX12_answerNow_1 : decode cX12_answerNow 1 = .ok (.getfield 34, 3) := by decide +kernel
theorem dX12_answerNow_4 : decode cX12_answerNow 4 = .ok (.iload_n 1, 1) := by decide +kernel
theorem dX12_answerNow_5 : decode cX12_answerNow 5 = .ok (.iaload, 1) := by decide +kernel
theorem dX12_answerNow_6 : decode cX12_answerNow 6 = .ok (.iconst (-1), 1) := by decide +kernel
theorem dX12_answerNow_7 : decode cX12_answerNow 7 = .ok (.if_icmp .ne 17, 3) := by decide +kernel
theorem dX12_answerNow_10 : decode cX12_answerNow 10 = .ok (.aload_n 0, 1) := by decide +kernel
theorem dX12_answerNow_11 : decode cX12_answerNow 11 = .ok (.getfield 37, 3) := by decide +kernel
theorem dX12_answerNow_14 : decode cX12_answerNow 14 = .ok (.bipush 10, 2) := by decide +kernel
theorem dX12_answerNow_16 : decode cX12_answerNow 16 = .ok (.iload_n 1, 1) := by decide +kernel
theorem dX12_answerNow_17 : decode cX12_answerNow 17 = .ok (.imul, 1) := by decide +kernel
theorem dX12_answerNow_18 : decode cX12_answerNow 18 = .ok (.iload_n 2, 1) := by decide +kernel
theorem dX12_answerNow_19 : decode cX12_answerNow 19 = .ok (.iadd, 1) := by decide +kernel
theorem dX12_answerNow_20 : decode cX12_answerNow 20 = .ok (.iaload, 1) := by decide +kernel
theorem dX12_answerNow_21 : decode cX12_answerNow 21 = .ok (.goto 5, 3) := by decide +kernel
theorem dX12_answerNow_24 : decode cX12_answerNow 24 = .ok (.bipush (-3), 2) := by decide +kernel
theorem dX12_answerNow_26 : decode cX12_answerNow 26 = .ok (.ireturn, 1) := by decide +kernel
theorem dX12_answerFor_0 : decode cX12_answerFor 0 = .ok (.aload_n 0, 1) := by decide +kernel
theorem dX12_answerFor_1 : decode cX12_answerFor 1 = .ok (.invokevirtual 292, 3) := by decide +kernel
theorem dX12_answerFor_4 : decode cX12_answerFor 4 = .ok (.iload_n 2, 1) := by decide +kernel
theorem dX12_answerFor_5 : decode cX12_answerFor 5 = .ok (.aload_n 0, 1) := by decide +kernel
theorem dX12_answerFor_6 : decode cX12_answerFor 6 = .ok (.getfield 19, 3) := by decide +kernel
theorem dX12_answerFor_9 : decode cX12_answerFor 9 = .ok (.iconst 0, 1) := by decide +kernel
theorem dX12_answerFor_10 : decode cX12_answerFor 10 = .ok (.iaload, 1) := by decide +kernel
theorem dX12_answerFor_11 : decode cX12_answerFor 11 = .ok (.if_icmp .ge 12, 3) := by decide +kernel
theorem dX12_answerFor_14 : decode cX12_answerFor 14 = .ok (.aload_n 0, 1) := by decide +kernel
theorem dX12_answerFor_15 : decode cX12_answerFor 15 = .ok (.iload_n 1, 1) := by decide +kernel
theorem dX12_answerFor_16 : decode cX12_answerFor 16 = .ok (.iload_n 2, 1) := by decide +kernel
theorem dX12_answerFor_17 : decode cX12_answerFor 17 = .ok (.invokevirtual 298, 3) := by decide +kernel
theorem dX12_answerFor_20 : decode cX12_answerFor 20 = .ok (.goto 5, 3) := by decide +kernel
theorem dX12_answerFor_23 : decode cX12_answerFor 23 = .ok (.bipush (-2), 2) := by decide +kernel
theorem dX12_answerFor_25 : decode cX12_answerFor 25 = .ok (.ireturn, 1) := by decide +kernel
theorem dX12_answer_0 : decode cX12_answer 0 = .ok (.iload_n 1, 1) := by decide +kernel
theorem dX12_answer_1 : decode cX12_answer 1 = .ok (.invokestatic 165, 3) := by decide +kernel
theorem dX12_answer_4 : decode cX12_answer 4 = .ok (.ifCond .eq 22, 3) := by decide +kernel
theorem dX12_answer_7 : decode cX12_answer 7 = .ok (.iload_n 2, 1) := by decide +kernel
theorem dX12_answer_8 : decode cX12_answer 8 = .ok (.iconst 0, 1) := by decide +kernel
theorem dX12_answer_9 : decode cX12_answer 9 = .ok (.bipush 9, 2) := by decide +kernel
theorem dX12_answer_11 : decode cX12_answer 11 = .ok (.invokestatic 107, 3) := by decide +kernel
theorem dX12_answer_14 : decode cX12_answer 14 = .ok (.ifCond .eq 12, 3) := by decide +kernel
theorem dX12_answer_17 : decode cX12_answer 17 = .ok (.aload_n 0, 1) := by decide +kernel
theorem dX12_answer_18 : decode cX12_answer 18 = .ok (.iload_n 1, 1) := by decide +kernel
theorem dX12_answer_19 : decode cX12_answer 19 = .ok (.iload_n 2, 1) := by decide +kernel
theorem dX12_answer_20 : decode cX12_answer 20 = .ok (.invokevirtual 301, 3) := by decide +kernel
theorem dX12_answer_23 : decode cX12_answer 23 = .ok (.goto 5, 3) := by decide +kernel
theorem dX12_answer_26 : decode cX12_answer 26 = .ok (.bipush (-2), 2) := by decide +kernel
theorem dX12_answer_28 : decode cX12_answer 28 = .ok (.ireturn, 1) := by decide +kernel
theorem dX12_sameOf_0 : decode cX12_sameOf 0 = .ok (.aload_n 0, 1) := by decide +kernel
theorem dX12_sameOf_1 : decode cX12_sameOf 1 = .ok (.invokevirtual 292, 3) := by decide +kernel
theorem dX12_sameOf_4 : decode cX12_sameOf 4 = .ok (.aload_n 0, 1) := by decide +kernel
theorem dX12_sameOf_5 : decode cX12_sameOf 5 = .ok (.getfield 34, 3) := by decide +kernel
theorem dX12_sameOf_8 : decode cX12_sameOf 8 = .ok (.iconst 0, 1) := by decide +kernel
theorem dX12_sameOf_9 : decode cX12_sameOf 9 = .ok (.iaload, 1) := by decide +kernel
theorem dX12_sameOf_10 : decode cX12_sameOf 10 = .ok (.aload_n 0, 1) := by decide +kernel
theorem dX12_sameOf_11 : decode cX12_sameOf 11 = .ok (.getfield 34, 3) := by decide +kernel
theorem dX12_sameOf_14 : decode cX12_sameOf 14 = .ok (.iconst 1, 1) := by decide +kernel
theorem dX12_sameOf_15 : decode cX12_sameOf 15 = .ok (.iaload, 1) := by decide +kernel
theorem dX12_sameOf_16 : decode cX12_sameOf 16 = .ok (.if_icmp .ne 7, 3) := by decide +kernel
theorem dX12_sameOf_19 : decode cX12_sameOf 19 = .ok (.iconst 1, 1) := by decide +kernel
theorem dX12_sameOf_20 : decode cX12_sameOf 20 = .ok (.goto 4, 3) := by decide +kernel
theorem dX12_sameOf_23 : decode cX12_sameOf 23 = .ok (.iconst 0, 1) := by decide +kernel
theorem dX12_sameOf_24 : decode cX12_sameOf 24 = .ok (.istore_n 1, 1) := by decide +kernel
theorem dX12_sameOf_25 : decode cX12_sameOf 25 = .ok (.iconst 0, 1) := by decide +kernel
theorem dX12_sameOf_26 : decode cX12_sameOf 26 = .ok (.istore_n 2, 1) := by decide +kernel
theorem dX12_sameOf_27 : decode cX12_sameOf 27 = .ok (.iload_n 2, 1) := by decide +kernel
theorem dX12_sameOf_28 : decode cX12_sameOf 28 = .ok (.aload_n 0, 1) := by decide +kernel
theorem dX12_sameOf_29 : decode cX12_sameOf 29 = .ok (.getfield 19, 3) := by decide +kernel
theorem dX12_sameOf_32 : decode cX12_sameOf 32 = .ok (.iconst 0, 1) := by decide +kernel
theorem dX12_sameOf_33 : decode cX12_sameOf 33 = .ok (.iaload, 1) := by decide +kernel
theorem dX12_sameOf_34 : decode cX12_sameOf 34 = .ok (.if_icmp .ge 34, 3) := by decide +kernel
theorem dX12_sameOf_37 : decode cX12_sameOf 37 = .ok (.iload_n 1, 1) := by decide +kernel
theorem dX12_sameOf_38 : decode cX12_sameOf 38 = .ok (.ifCond .eq 22, 3) := by decide +kernel
theorem dX12_sameOf_41 : decode cX12_sameOf 41 = .ok (.aload_n 0, 1) := by decide +kernel
theorem dX12_sameOf_42 : decode cX12_sameOf 42 = .ok (.iconst 0, 1) := by decide +kernel
theorem dX12_sameOf_43 : decode cX12_sameOf 43 = .ok (.iload_n 2, 1) := by decide +kernel
theorem dX12_sameOf_44 : decode cX12_sameOf 44 = .ok (.invokevirtual 298, 3) := by decide +kernel
theorem dX12_sameOf_47 : decode cX12_sameOf 47 = .ok (.aload_n 0, 1) := by decide +kernel
theorem dX12_sameOf_48 : decode cX12_sameOf 48 = .ok (.iconst 1, 1) := by decide +kernel
theorem dX12_sameOf_49 : decode cX12_sameOf 49 = .ok (.iload_n 2, 1) := by decide +kernel
theorem dX12_sameOf_50 : decode cX12_sameOf 50 = .ok (.invokevirtual 298, 3) := by decide +kernel
theorem dX12_sameOf_53 : decode cX12_sameOf 53 = .ok (.if_icmp .ne 7, 3) := by decide +kernel
theorem dX12_sameOf_56 : decode cX12_sameOf 56 = .ok (.iconst 1, 1) := by decide +kernel
theorem dX12_sameOf_57 : decode cX12_sameOf 57 = .ok (.goto 4, 3) := by decide +kernel
theorem dX12_sameOf_60 : decode cX12_sameOf 60 = .ok (.iconst 0, 1) := by decide +kernel
theorem dX12_sameOf_61 : decode cX12_sameOf 61 = .ok (.istore_n 1, 1) := by decide +kernel
theorem dX12_sameOf_62 : decode cX12_sameOf 62 = .ok (.iinc 2 1, 3) := by decide +kernel
theorem dX12_sameOf_65 : decode cX12_sameOf 65 = .ok (.goto (-38), 3) := by decide +kernel
theorem dX12_sameOf_68 : decode cX12_sameOf 68 = .ok (.iload_n 1, 1) := by decide +kernel
theorem dX12_sameOf_69 : decode cX12_sameOf 69 = .ok (.ifCond .eq 7, 3) := by decide +kernel
theorem dX12_sameOf_72 : decode cX12_sameOf 72 = .ok (.iconst 1, 1) := by decide +kernel
theorem dX12_sameOf_73 : decode cX12_sameOf 73 = .ok (.goto 4, 3) := by decide +kernel
theorem dX12_sameOf_76 : decode cX12_sameOf 76 = .ok (.iconst 0, 1) := by decide +kernel
theorem dX12_sameOf_77 : decode cX12_sameOf 77 = .ok (.ireturn, 1) := by decide +kernel
theorem dX12_same_0 : decode cX12_same 0 = .ok (.aload_n 0, 1) := by decide +kernel
theorem dX12_same_1 : decode cX12_same 1 = .ok (.invokevirtual 304, 3) := by decide +kernel
theorem dX12_same_4 : decode cX12_same 4 = .ok (.ireturn, 1) := by decide +kernel
theorem dX12_totalOf_0 : decode cX12_totalOf 0 = .ok (.aload_n 0, 1) := by decide +kernel
theorem dX12_totalOf_1 : decode cX12_totalOf 1 = .ok (.invokevirtual 292, 3) := by decide +kernel
theorem dX12_totalOf_4 : decode cX12_totalOf 4 = .ok (.aload_n 0, 1) := by decide +kernel
theorem dX12_totalOf_5 : decode cX12_totalOf 5 = .ok (.getfield 34, 3) := by decide +kernel
theorem dX12_totalOf_8 : decode cX12_totalOf 8 = .ok (.iconst 0, 1) := by decide +kernel
theorem dX12_totalOf_9 : decode cX12_totalOf 9 = .ok (.iaload, 1) := by decide +kernel
theorem dX12_totalOf_10 : decode cX12_totalOf 10 = .ok (.iconst (-1), 1) := by decide +kernel
theorem dX12_totalOf_11 : decode cX12_totalOf 11 = .ok (.if_icmp .eq 6, 3) := by decide +kernel
theorem dX12_totalOf_14 : decode cX12_totalOf 14 = .ok (.bipush (-3), 2) := by decide +kernel
theorem dX12_totalOf_16 : decode cX12_totalOf 16 = .ok (.ireturn, 1) := by decide +kernel
theorem dX12_totalOf_17 : decode cX12_totalOf 17 = .ok (.iconst 0, 1) := by decide +kernel
theorem dX12_totalOf_18 : decode cX12_totalOf 18 = .ok (.istore_n 1, 1) := by decide +kernel
theorem dX12_totalOf_19 : decode cX12_totalOf 19 = .ok (.iconst 0, 1) := by decide +kernel
theorem dX12_totalOf_20 : decode cX12_totalOf 20 = .ok (.istore_n 2, 1) := by decide +kernel
theorem dX12_totalOf_21 : decode cX12_totalOf 21 = .ok (.iload_n 2, 1) := by decide +kernel
theorem dX12_totalOf_22 : decode cX12_totalOf 22 = .ok (.aload_n 0, 1) := by decide +kernel
theorem dX12_totalOf_23 : decode cX12_totalOf 23 = .ok (.getfield 19, 3) := by decide +kernel
theorem dX12_totalOf_26 : decode cX12_totalOf 26 = .ok (.iconst 0, 1) := by decide +kernel
theorem dX12_totalOf_27 : decode cX12_totalOf 27 = .ok (.iaload, 1) := by decide +kernel
theorem dX12_totalOf_28 : decode cX12_totalOf 28 = .ok (.if_icmp .ge 45, 3) := by decide +kernel
theorem dX12_totalOf_31 : decode cX12_totalOf 31 = .ok (.aload_n 0, 1) := by decide +kernel
theorem dX12_totalOf_32 : decode cX12_totalOf 32 = .ok (.getfield 37, 3) := by decide +kernel
theorem dX12_totalOf_35 : decode cX12_totalOf 35 = .ok (.iload_n 2, 1) := by decide +kernel
theorem dX12_totalOf_36 : decode cX12_totalOf 36 = .ok (.iaload, 1) := by decide +kernel
theorem dX12_totalOf_37 : decode cX12_totalOf 37 = .ok (.istore_n 3, 1) := by decide +kernel
theorem dX12_totalOf_38 : decode cX12_totalOf 38 = .ok (.iload_n 3, 1) := by decide +kernel
theorem dX12_totalOf_39 : decode cX12_totalOf 39 = .ok (.iconst (-1), 1) := by decide +kernel
theorem dX12_totalOf_40 : decode cX12_totalOf 40 = .ok (.if_icmp .ne 7, 3) := by decide +kernel
theorem dX12_totalOf_43 : decode cX12_totalOf 43 = .ok (.iload_n 1, 1) := by decide +kernel
theorem dX12_totalOf_44 : decode cX12_totalOf 44 = .ok (.goto 22, 3) := by decide +kernel
theorem dX12_totalOf_47 : decode cX12_totalOf 47 = .ok (.aload_n 0, 1) := by decide +kernel
theorem dX12_totalOf_48 : decode cX12_totalOf 48 = .ok (.getfield 184, 3) := by decide +kernel
theorem dX12_totalOf_51 : decode cX12_totalOf 51 = .ok (.iconst 4, 1) := by decide +kernel
theorem dX12_totalOf_52 : decode cX12_totalOf 52 = .ok (.if_icmp .ne 11, 3) := by decide +kernel
theorem dX12_totalOf_55 : decode cX12_totalOf 55 = .ok (.iload_n 1, 1) := by decide +kernel
theorem dX12_totalOf_56 : decode cX12_totalOf 56 = .ok (.iload_n 3, 1) := by decide +kernel
theorem dX12_totalOf_57 : decode cX12_totalOf 57 = .ok (.invokestatic 307, 3) := by decide +kernel
theorem dX12_totalOf_60 : decode cX12_totalOf 60 = .ok (.goto 6, 3) := by decide +kernel
theorem dX12_totalOf_63 : decode cX12_totalOf 63 = .ok (.iload_n 1, 1) := by decide +kernel
theorem dX12_totalOf_64 : decode cX12_totalOf 64 = .ok (.iload_n 3, 1) := by decide +kernel
theorem dX12_totalOf_65 : decode cX12_totalOf 65 = .ok (.iadd, 1) := by decide +kernel
theorem dX12_totalOf_66 : decode cX12_totalOf 66 = .ok (.istore_n 1, 1) := by decide +kernel
theorem dX12_totalOf_67 : decode cX12_totalOf 67 = .ok (.iinc 2 1, 3) := by decide +kernel
theorem dX12_totalOf_70 : decode cX12_totalOf 70 = .ok (.goto (-49), 3) := by decide +kernel
theorem dX12_totalOf_73 : decode cX12_totalOf 73 = .ok (.iload_n 1, 1) := by decide +kernel
theorem dX12_totalOf_74 : decode cX12_totalOf 74 = .ok (.ireturn, 1) := by decide +kernel
theorem dX12_total_0 : decode cX12_total 0 = .ok (.aload_n 0, 1) := by decide +kernel
theorem dX12_total_1 : decode cX12_total 1 = .ok (.invokevirtual 310, 3) := by decide +kernel
theorem dX12_total_4 : decode cX12_total 4 = .ok (.ireturn, 1) := by decide +kernel
theorem dX12_speaksOf_0 : decode cX12_speaksOf 0 = .ok (.aload_n 0, 1) := by decide +kernel
theorem dX12_speaksOf_1 : decode cX12_speaksOf 1 = .ok (.invokevirtual 292, 3) := by decide +kernel
theorem dX12_speaksOf_4 : decode cX12_speaksOf 4 = .ok (.aload_n 0, 1) := by decide +kernel
theorem dX12_speaksOf_5 : decode cX12_speaksOf 5 = .ok (.invokevirtual 247, 3) := by decide +kernel
theorem dX12_speaksOf_8 : decode cX12_speaksOf 8 = .ok (.ireturn, 1) := by decide +kernel
theorem dX12_speaks_0 : decode cX12_speaks 0 = .ok (.aload_n 0, 1) := by decide +kernel
theorem dX12_speaks_1 : decode cX12_speaks 1 = .ok (.invokevirtual 313, 3) := by decide +kernel
theorem dX12_speaks_4 : decode cX12_speaks 4 = .ok (.ireturn, 1) := by decide +kernel
theorem dX12_domainOf_0 : decode cX12_domainOf 0 = .ok (.aload_n 0, 1) := by decide +kernel
theorem dX12_domainOf_1 : decode cX12_domainOf 1 = .ok (.invokevirtual 292, 3) := by decide +kernel
theorem dX12_domainOf_4 : decode cX12_domainOf 4 = .ok (.iload_n 1, 1) := by decide +kernel
theorem dX12_domainOf_5 : decode cX12_domainOf 5 = .ok (.iconst (-1), 1) := by decide +kernel
theorem dX12_domainOf_6 : decode cX12_domainOf 6 = .ok (.if_icmp .ne 10, 3) := by decide +kernel
theorem dX12_domainOf_9 : decode cX12_domainOf 9 = .ok (.aload_n 0, 1) := by decide +kernel
theorem dX12_domainOf_10 : decode cX12_domainOf 10 = .ok (.getfield 244, 3) := by decide +kernel
theorem dX12_domainOf_13 : decode cX12_domainOf 13 = .ok (.goto 35, 3) := by decide +kernel
theorem dX12_domainOf_16 : decode cX12_domainOf 16 = .ok (.iload_n 1, 1) := by decide +kernel
theorem dX12_domainOf_17 : decode cX12_domainOf 17 = .ok (.aload_n 0, 1) := by decide +kernel
theorem dX12_domainOf_18 : decode cX12_domainOf 18 = .ok (.getfield 244, 3) := by decide +kernel
theorem dX12_domainOf_21 : decode cX12_domainOf 21 = .ok (.if_icmp .lt 8, 3) := by decide +kernel
theorem dX12_domainOf_24 : decode cX12_domainOf 24 = .ok (.bipush (-3), 2) := by decide +kernel
theorem dX12_domainOf_26 : decode cX12_domainOf 26 = .ok (.goto 22, 3) := by decide +kernel
theorem dX12_domainOf_29 : decode cX12_domainOf 29 = .ok (.iload_n 2, 1) := by decide +kernel
theorem dX12_domainOf_30 : decode cX12_domainOf 30 = .ok (.ifCond .ne 12, 3) := by decide +kernel
theorem dX12_domainOf_33 : decode cX12_domainOf 33 = .ok (.aload_n 0, 1) := by decide +kernel
theorem dX12_domainOf_34 : decode cX12_domainOf 34 = .ok (.getfield 76, 3) := by decide +kernel
theorem dX12_domainOf_37 : decode cX12_domainOf 37 = .ok (.iload_n 1, 1) := by decide +kernel
theorem dX12_domainOf_38 : decode cX12_domainOf 38 = .ok (.iaload, 1) := by decide +kernel
theorem dX12_domainOf_39 : decode cX12_domainOf 39 = .ok (.goto 9, 3) := by decide +kernel
theorem dX12_domainOf_42 : decode cX12_domainOf 42 = .ok (.aload_n 0, 1) := by decide +kernel
theorem dX12_domainOf_43 : decode cX12_domainOf 43 = .ok (.getfield 79, 3) := by decide +kernel
theorem dX12_domainOf_46 : decode cX12_domainOf 46 = .ok (.iload_n 1, 1) := by decide +kernel
theorem dX12_domainOf_47 : decode cX12_domainOf 47 = .ok (.iaload, 1) := by decide +kernel
theorem dX12_domainOf_48 : decode cX12_domainOf 48 = .ok (.ireturn, 1) := by decide +kernel
theorem dX12_domain_0 : decode cX12_domain 0 = .ok (.iload_n 1, 1) := by decide +kernel
theorem dX12_domain_1 : decode cX12_domain 1 = .ok (.iconst (-1), 1) := by decide +kernel
theorem dX12_domain_2 : decode cX12_domain 2 = .ok (.bipush 9, 2) := by decide +kernel
theorem dX12_domain_4 : decode cX12_domain 4 = .ok (.invokestatic 107, 3) := by decide +kernel
theorem dX12_domain_7 : decode cX12_domain 7 = .ok (.ifCond .eq 19, 3) := by decide +kernel
theorem dX12_domain_10 : decode cX12_domain 10 = .ok (.iload_n 2, 1) := by decide +kernel
theorem dX12_domain_11 : decode cX12_domain 11 = .ok (.invokestatic 165, 3) := by decide +kernel
theorem dX12_domain_14 : decode cX12_domain 14 = .ok (.ifCond .eq 12, 3) := by decide +kernel
theorem dX12_domain_17 : decode cX12_domain 17 = .ok (.aload_n 0, 1) := by decide +kernel
theorem dX12_domain_18 : decode cX12_domain 18 = .ok (.iload_n 1, 1) := by decide +kernel
theorem dX12_domain_19 : decode cX12_domain 19 = .ok (.iload_n 2, 1) := by decide +kernel
theorem dX12_domain_20 : decode cX12_domain 20 = .ok (.invokevirtual 316, 3) := by decide +kernel
theorem dX12_domain_23 : decode cX12_domain 23 = .ok (.goto 5, 3) := by decide +kernel
theorem dX12_domain_26 : decode cX12_domain 26 = .ok (.bipush (-2), 2) := by decide +kernel
theorem dX12_domain_28 : decode cX12_domain 28 = .ok (.ireturn, 1) := by decide +kernel
theorem dX12_planOf_0 : decode cX12_planOf 0 = .ok (.aload_n 0, 1) := by decide +kernel
theorem dX12_planOf_1 : decode cX12_planOf 1 = .ok (.invokevirtual 292, 3) := by decide +kernel
theorem dX12_planOf_4 : decode cX12_planOf 4 = .ok (.iload_n 1, 1) := by decide +kernel
theorem dX12_planOf_5 : decode cX12_planOf 5 = .ok (.aload_n 0, 1) := by decide +kernel
theorem dX12_planOf_6 : decode cX12_planOf 6 = .ok (.getfield 261, 3) := by decide +kernel
theorem dX12_planOf_9 : decode cX12_planOf 9 = .ok (.if_icmp .ge 12, 3) := by decide +kernel
theorem dX12_planOf_12 : decode cX12_planOf 12 = .ok (.aload_n 0, 1) := by decide +kernel
theorem dX12_planOf_13 : decode cX12_planOf 13 = .ok (.getfield 85, 3) := by decide +kernel
theorem dX12_planOf_16 : decode cX12_planOf 16 = .ok (.iload_n 1, 1) := by decide +kernel
theorem dX12_planOf_17 : decode cX12_planOf 17 = .ok (.iaload, 1) := by decide +kernel
theorem dX12_planOf_18 : decode cX12_planOf 18 = .ok (.goto 4, 3) := by decide +kernel
theorem dX12_planOf_21 : decode cX12_planOf 21 = .ok (.iconst (-1), 1) := by decide +kernel
theorem dX12_planOf_22 : decode cX12_planOf 22 = .ok (.ireturn, 1) := by decide +kernel
theorem dX12_plan_0 : decode cX12_plan 0 = .ok (.iload_n 1, 1) := by decide +kernel
theorem dX12_plan_1 : decode cX12_plan 1 = .ok (.iconst 0, 1) := by decide +kernel
theorem dX12_plan_2 : decode cX12_plan 2 = .ok (.bipush 19, 2) := by decide +kernel
theorem dX12_plan_4 : decode cX12_plan 4 = .ok (.invokestatic 107, 3) := by decide +kernel
theorem dX12_plan_7 : decode cX12_plan 7 = .ok (.ifCond .eq 11, 3) := by decide +kernel
theorem dX12_plan_10 : decode cX12_plan 10 = .ok (.aload_n 0, 1) := by decide +kernel
theorem dX12_plan_11 : decode cX12_plan 11 = .ok (.iload_n 1, 1) := by decide +kernel
theorem dX12_plan_12 : decode cX12_plan 12 = .ok (.invokevirtual 319, 3) := by decide +kernel
theorem dX12_plan_15 : decode cX12_plan 15 = .ok (.goto 5, 3) := by decide +kernel
theorem dX12_plan_18 : decode cX12_plan 18 = .ok (.bipush (-2), 2) := by decide +kernel
theorem dX12_plan_20 : decode cX12_plan 20 = .ok (.ireturn, 1) := by decide +kernel
theorem dX12_costOf_0 : decode cX12_costOf 0 = .ok (.aload_n 0, 1) := by decide +kernel
theorem dX12_costOf_1 : decode cX12_costOf 1 = .ok (.invokevirtual 292, 3) := by decide +kernel
theorem dX12_costOf_4 : decode cX12_costOf 4 = .ok (.aload_n 0, 1) := by decide +kernel
theorem dX12_costOf_5 : decode cX12_costOf 5 = .ok (.getfield 40, 3) := by decide +kernel
theorem dX12_costOf_8 : decode cX12_costOf 8 = .ok (.iconst 5, 1) := by decide +kernel
theorem dX12_costOf_9 : decode cX12_costOf 9 = .ok (.iload_n 1, 1) := by decide +kernel
theorem dX12_costOf_10 : decode cX12_costOf 10 = .ok (.imul, 1) := by decide +kernel
theorem dX12_costOf_11 : decode cX12_costOf 11 = .ok (.iload_n 2, 1) := by decide +kernel
theorem dX12_costOf_12 : decode cX12_costOf 12 = .ok (.iadd, 1) := by decide +kernel
theorem dX12_costOf_13 : decode cX12_costOf 13 = .ok (.iaload, 1) := by decide +kernel
theorem dX12_costOf_14 : decode cX12_costOf 14 = .ok (.ireturn, 1) := by decide +kernel
theorem dX12_cost_0 : decode cX12_cost 0 = .ok (.iload_n 1, 1) := by decide +kernel
theorem dX12_cost_1 : decode cX12_cost 1 = .ok (.invokestatic 165, 3) := by decide +kernel
theorem dX12_cost_4 : decode cX12_cost 4 = .ok (.ifCond .eq 21, 3) := by decide +kernel
theorem dX12_cost_7 : decode cX12_cost 7 = .ok (.iload_n 2, 1) := by decide +kernel
theorem dX12_cost_8 : decode cX12_cost 8 = .ok (.iconst 0, 1) := by decide +kernel
theorem dX12_cost_9 : decode cX12_cost 9 = .ok (.iconst 4, 1) := by decide +kernel
theorem dX12_cost_10 : decode cX12_cost 10 = .ok (.invokestatic 107, 3) := by decide +kernel
theorem dX12_cost_13 : decode cX12_cost 13 = .ok (.ifCond .eq 12, 3) := by decide +kernel
theorem dX12_cost_16 : decode cX12_cost 16 = .ok (.aload_n 0, 1) := by decide +kernel
theorem dX12_cost_17 : decode cX12_cost 17 = .ok (.iload_n 1, 1) := by decide +kernel
theorem dX12_cost_18 : decode cX12_cost 18 = .ok (.iload_n 2, 1) := by decide +kernel
theorem dX12_cost_19 : decode cX12_cost 19 = .ok (.invokevirtual 322, 3) := by decide +kernel
theorem dX12_cost_22 : decode cX12_cost 22 = .ok (.goto 5, 3) := by decide +kernel
theorem dX12_cost_25 : decode cX12_cost 25 = .ok (.bipush (-2), 2) := by decide +kernel
theorem dX12_cost_27 : decode cX12_cost 27 = .ok (.ireturn, 1) := by decide +kernel
theorem dX12_logOf_0 : decode cX12_logOf 0 = .ok (.aload_n 0, 1) := by decide +kernel
theorem dX12_logOf_1 : decode cX12_logOf 1 = .ok (.invokevirtual 292, 3) := by decide +kernel
theorem dX12_logOf_4 : decode cX12_logOf 4 = .ok (.iload_n 2, 1) := by decide +kernel
theorem dX12_logOf_5 : decode cX12_logOf 5 = .ok (.aload_n 0, 1) := by decide +kernel
theorem dX12_logOf_6 : decode cX12_logOf 6 = .ok (.getfield 43, 3) := by decide +kernel
theorem dX12_logOf_9 : decode cX12_logOf 9 = .ok (.iload_n 1, 1) := by decide +kernel
theorem dX12_logOf_10 : decode cX12_logOf 10 = .ok (.iaload, 1) := by decide +kernel
theorem dX12_logOf_11 : decode cX12_logOf 11 = .ok (.if_icmp .ge 18, 3) := by decide +kernel
theorem dX12_logOf_14 : decode cX12_logOf 14 = .ok (.aload_n 0, 1) := by decide +kernel
theorem dX12_logOf_15 : decode cX12_logOf 15 = .ok (.getfield 46, 3) := by decide +kernel
theorem dX12_logOf_18 : decode cX12_logOf 18 = .ok (.sipush 200, 3) := by decide +kernel
theorem dX12_logOf_21 : decode cX12_logOf 21 = .ok (.iload_n 1, 1) := by decide +kernel
theorem dX12_logOf_22 : decode cX12_logOf 22 = .ok (.imul, 1) := by decide +kernel
theorem dX12_logOf_23 : decode cX12_logOf 23 = .ok (.iload_n 2, 1) := by decide +kernel
theorem dX12_logOf_24 : decode cX12_logOf 24 = .ok (.iadd, 1) := by decide +kernel
theorem dX12_logOf_25 : decode cX12_logOf 25 = .ok (.iaload, 1) := by decide +kernel
theorem dX12_logOf_26 : decode cX12_logOf 26 = .ok (.goto 4, 3) := by decide +kernel
theorem dX12_logOf_29 : decode cX12_logOf 29 = .ok (.iconst (-1), 1) := by decide +kernel
theorem dX12_logOf_30 : decode cX12_logOf 30 = .ok (.ireturn, 1) := by decide +kernel
theorem dX12_log_0 : decode cX12_log 0 = .ok (.iload_n 1, 1) := by decide +kernel
theorem dX12_log_1 : decode cX12_log 1 = .ok (.invokestatic 165, 3) := by decide +kernel
theorem dX12_log_4 : decode cX12_log 4 = .ok (.ifCond .eq 23, 3) := by decide +kernel
theorem dX12_log_7 : decode cX12_log 7 = .ok (.iload_n 2, 1) := by decide +kernel
theorem dX12_log_8 : decode cX12_log 8 = .ok (.iconst 0, 1) := by decide +kernel
theorem dX12_log_9 : decode cX12_log 9 = .ok (.sipush 199, 3) := by decide +kernel
theorem dX12_log_12 : decode cX12_log 12 = .ok (.invokestatic 107, 3) := by decide +kernel
theorem dX12_log_15 : decode cX12_log 15 = .ok (.ifCond .eq 12, 3) := by decide +kernel
theorem dX12_log_18 : decode cX12_log 18 = .ok (.aload_n 0, 1) := by decide +kernel
theorem dX12_log_19 : decode cX12_log 19 = .ok (.iload_n 1, 1) := by decide +kernel
theorem dX12_log_20 : decode cX12_log 20 = .ok (.iload_n 2, 1) := by decide +kernel
theorem dX12_log_21 : decode cX12_log 21 = .ok (.invokevirtual 325, 3) := by decide +kernel
theorem dX12_log_24 : decode cX12_log 24 = .ok (.goto 5, 3) := by decide +kernel
theorem dX12_log_27 : decode cX12_log 27 = .ok (.bipush (-2), 2) := by decide +kernel
theorem dX12_log_29 : decode cX12_log 29 = .ok (.ireturn, 1) := by decide +kernel
theorem dX12_spareOf_0 : decode cX12_spareOf 0 = .ok (.aload_n 0, 1) := by decide +kernel
theorem dX12_spareOf_1 : decode cX12_spareOf 1 = .ok (.invokevirtual 292, 3) := by decide +kernel
theorem dX12_spareOf_4 : decode cX12_spareOf 4 = .ok (.aload_n 0, 1) := by decide +kernel
theorem dX12_spareOf_5 : decode cX12_spareOf 5 = .ok (.getfield 34, 3) := by decide +kernel
theorem dX12_spareOf_8 : decode cX12_spareOf 8 = .ok (.iconst 0, 1) := by decide +kernel
theorem dX12_spareOf_9 : decode cX12_spareOf 9 = .ok (.iaload, 1) := by decide +kernel
theorem dX12_spareOf_10 : decode cX12_spareOf 10 = .ok (.istore_n 1, 1) := by decide +kernel
theorem dX12_spareOf_11 : decode cX12_spareOf 11 = .ok (.iconst 0, 1) := by decide +kernel
theorem dX12_spareOf_12 : decode cX12_spareOf 12 = .ok (.istore_n 2, 1) := by decide +kernel
theorem dX12_spareOf_13 : decode cX12_spareOf 13 = .ok (.iconst 0, 1) := by decide +kernel
theorem dX12_spareOf_14 : decode cX12_spareOf 14 = .ok (.istore_n 3, 1) := by decide +kernel
theorem dX12_spareOf_15 : decode cX12_spareOf 15 = .ok (.iload_n 3, 1) := by decide +kernel
theorem dX12_spareOf_16 : decode cX12_spareOf 16 = .ok (.aload_n 0, 1) := by decide +kernel
theorem dX12_spareOf_17 : decode cX12_spareOf 17 = .ok (.getfield 19, 3) := by decide +kernel
theorem dX12_spareOf_20 : decode cX12_spareOf 20 = .ok (.iconst 0, 1) := by decide +kernel
theorem dX12_spareOf_21 : decode cX12_spareOf 21 = .ok (.iaload, 1) := by decide +kernel
theorem dX12_spareOf_22 : decode cX12_spareOf 22 = .ok (.if_icmp .ge 21, 3) := by decide +kernel
theorem dX12_spareOf_25 : decode cX12_spareOf 25 = .ok (.aload_n 0, 1) := by decide +kernel
theorem dX12_spareOf_26 : decode cX12_spareOf 26 = .ok (.getfield 88, 3) := by decide +kernel
theorem dX12_spareOf_29 : decode cX12_spareOf 29 = .ok (.iload_n 3, 1) := by decide +kernel
theorem dX12_spareOf_30 : decode cX12_spareOf 30 = .ok (.aload_n 0, 1) := by decide +kernel
theorem dX12_spareOf_31 : decode cX12_spareOf 31 = .ok (.getfield 37, 3) := by decide +kernel
theorem dX12_spareOf_34 : decode cX12_spareOf 34 = .ok (.iload_n 3, 1) := by decide +kernel
theorem dX12_spareOf_35 : decode cX12_spareOf 35 = .ok (.iaload, 1) := by decide +kernel
theorem dX12_spareOf_36 : decode cX12_spareOf 36 = .ok (.iastore, 1) := by decide +kernel
theorem dX12_spareOf_37 : decode cX12_spareOf 37 = .ok (.iinc 3 1, 3) := by decide +kernel
theorem dX12_spareOf_40 : decode cX12_spareOf 40 = .ok (.goto (-25), 3) := by decide +kernel
theorem dX12_spareOf_43 : decode cX12_spareOf 43 = .ok (.iconst 0, 1) := by decide +kernel
theorem dX12_spareOf_44 : decode cX12_spareOf 44 = .ok (.istore_n 3, 1) := by decide +kernel
theorem dX12_spareOf_45 : decode cX12_spareOf 45 = .ok (.iload_n 3, 1) := by decide +kernel
theorem dX12_spareOf_46 : decode cX12_spareOf 46 = .ok (.aload_n 0, 1) := by decide +kernel
theorem dX12_spareOf_47 : decode cX12_spareOf 47 = .ok (.getfield 145, 3) := by decide +kernel
theorem dX12_spareOf_50 : decode cX12_spareOf 50 = .ok (.if_icmp .ge 104, 3) := by decide +kernel
theorem dX12_spareOf_53 : decode cX12_spareOf 53 = .ok (.aload_n 0, 1) := by decide +kernel
theorem dX12_spareOf_54 : decode cX12_spareOf 54 = .ok (.iload_n 3, 1) := by decide +kernel
theorem dX12_spareOf_55 : decode cX12_spareOf 55 = .ok (.putfield 190, 3) := by decide +kernel
theorem dX12_spareOf_58 : decode cX12_spareOf 58 = .ok (.aload_n 0, 1) := by decide +kernel
theorem dX12_spareOf_59 : decode cX12_spareOf 59 = .ok (.invokevirtual 283, 3) := by decide +kernel
theorem dX12_spareOf_62 : decode cX12_spareOf 62 = .ok (.aload_n 0, 1) := by decide +kernel
theorem dX12_spareOf_63 : decode cX12_spareOf 63 = .ok (.getfield 34, 3) := by decide +kernel
theorem dX12_spareOf_66 : decode cX12_spareOf 66 = .ok (.iconst 0, 1) := by decide +kernel
theorem dX12_spareOf_67 : decode cX12_spareOf 67 = .ok (.iaload, 1) := by decide +kernel
theorem dX12_spareOf_68 : decode cX12_spareOf 68 = .ok (.iload_n 1, 1) := by decide +kernel
theorem dX12_spareOf_69 : decode cX12_spareOf 69 = .ok (.if_icmp .ne 7, 3) := by decide +kernel
theorem dX12_spareOf_72 : decode cX12_spareOf 72 = .ok (.iconst 1, 1) := by decide +kernel
theorem dX12_spareOf_73 : decode cX12_spareOf 73 = .ok (.goto 4, 3) := by decide +kernel
theorem dX12_spareOf_76 : decode cX12_spareOf 76 = .ok (.iconst 0, 1) := by decide +kernel
theorem dX12_spareOf_77 : decode cX12_spareOf 77 = .ok (.istore 4, 2) := by decide +kernel
theorem dX12_spareOf_79 : decode cX12_spareOf 79 = .ok (.iconst 0, 1) := by decide +kernel
theorem dX12_spareOf_80 : decode cX12_spareOf 80 = .ok (.istore 5, 2) := by decide +kernel
theorem dX12_spareOf_82 : decode cX12_spareOf 82 = .ok (.iload 5, 2) := by decide +kernel
theorem dX12_spareOf_84 : decode cX12_spareOf 84 = .ok (.aload_n 0, 1) := by decide +kernel
theorem dX12_spareOf_85 : decode cX12_spareOf 85 = .ok (.getfield 19, 3) := by decide +kernel
theorem dX12_spareOf_88 : decode cX12_spareOf 88 = .ok (.iconst 0, 1) := by decide +kernel
theorem dX12_spareOf_89 : decode cX12_spareOf 89 = .ok (.iaload, 1) := by decide +kernel
theorem dX12_spareOf_90 : decode cX12_spareOf 90 = .ok (.if_icmp .ge 43, 3) := by decide +kernel
theorem dX12_spareOf_93 : decode cX12_spareOf 93 = .ok (.iload_n 1, 1) := by decide +kernel
theorem dX12_spareOf_94 : decode cX12_spareOf 94 = .ok (.iconst (-1), 1) := by decide +kernel
theorem dX12_spareOf_95 : decode cX12_spareOf 95 = .ok (.if_icmp .ne 38, 3) := by decide +kernel
theorem dX12_spareOf_98 : decode cX12_spareOf 98 = .ok (.iload 4, 2) := by decide +kernel
theorem dX12_spareOf_100 : decode cX12_spareOf 100 = .ok (.ifCond .eq 24, 3) := by decide +kernel
theorem dX12_spareOf_103 : decode cX12_spareOf 103 = .ok (.aload_n 0, 1) := by decide +kernel
theorem dX12_spareOf_104 : decode cX12_spareOf 104 = .ok (.getfield 37, 3) := by decide +kernel
theorem dX12_spareOf_107 : decode cX12_spareOf 107 = .ok (.iload 5, 2) := by decide +kernel
theorem dX12_spareOf_109 : decode cX12_spareOf 109 = .ok (.iaload, 1) := by decide +kernel
theorem dX12_spareOf_110 : decode cX12_spareOf 110 = .ok (.aload_n 0, 1) := by decide +kernel
theorem dX12_spareOf_111 : decode cX12_spareOf 111 = .ok (.getfield 88, 3) := by decide +kernel
theorem dX12_spareOf_114 : decode cX12_spareOf 114 = .ok (.iload 5, 2) := by decide +kernel
theorem dX12_spareOf_116 : decode cX12_spareOf 116 = .ok (.iaload, 1) := by decide +kernel
theorem dX12_spareOf_117 : decode cX12_spareOf 117 = .ok (.if_icmp .ne 7, 3) := by decide +kernel
theorem dX12_spareOf_120 : decode cX12_spareOf 120 = .ok (.iconst 1, 1) := by decide +kernel
theorem dX12_spareOf_121 : decode cX12_spareOf 121 = .ok (.goto 4, 3) := by decide +kernel
theorem dX12_spareOf_124 : decode cX12_spareOf 124 = .ok (.iconst 0, 1) := by decide +kernel
theorem dX12_spareOf_125 : decode cX12_spareOf 125 = .ok (.istore 4, 2) := by decide +kernel
theorem dX12_spareOf_127 : decode cX12_spareOf 127 = .ok (.iinc 5 1, 3) := by decide +kernel
theorem dX12_spareOf_130 : decode cX12_spareOf 130 = .ok (.goto (-48), 3) := by decide +kernel
theorem dX12_spareOf_133 : decode cX12_spareOf 133 = .ok (.iload_n 2, 1) := by decide +kernel
theorem dX12_spareOf_134 : decode cX12_spareOf 134 = .ok (.iload 4, 2) := by decide +kernel
theorem dX12_spareOf_136 : decode cX12_spareOf 136 = .ok (.ifCond .eq 9, 3) := by decide +kernel
theorem dX12_spareOf_139 : decode cX12_spareOf 139 = .ok (.iconst 1, 1) := by decide +kernel
theorem dX12_spareOf_140 : decode cX12_spareOf 140 = .ok (.iload_n 3, 1) := by decide +kernel
theorem dX12_spareOf_141 : decode cX12_spareOf 141 = .ok (.ishl, 1) := by decide +kernel
theorem dX12_spareOf_142 : decode cX12_spareOf 142 = .ok (.goto 4, 3) := by decide +kernel
theorem dX12_spareOf_145 : decode cX12_spareOf 145 = .ok (.iconst 0, 1) := by decide +kernel
theorem dX12_spareOf_146 : decode cX12_spareOf 146 = .ok (.ior, 1) := by decide +kernel
theorem dX12_spareOf_147 : decode cX12_spareOf 147 = .ok (.istore_n 2, 1) := by decide +kernel
theorem dX12_spareOf_148 : decode cX12_spareOf 148 = .ok (.iinc 3 1, 3) := by decide +kernel
theorem dX12_spareOf_151 : decode cX12_spareOf 151 = .ok (.goto (-106), 3) := by decide +kernel
theorem dX12_spareOf_154 : decode cX12_spareOf 154 = .ok (.iload_n 2, 1) := by decide +kernel
theorem dX12_spareOf_155 : decode cX12_spareOf 155 = .ok (.ireturn, 1) := by decide +kernel
theorem dX12_spare_0 : decode cX12_spare 0 = .ok (.aload_n 0, 1) := by decide +kernel
theorem dX12_spare_1 : decode cX12_spare 1 = .ok (.invokevirtual 328, 3) := by decide +kernel
theorem dX12_spare_4 : decode cX12_spare 4 = .ok (.ireturn, 1) := by decide +kernel
theorem dX12_meets_0 : decode cX12_meets 0 = .ok (.aload_n 0, 1) := by decide +kernel
theorem dX12_meets_1 : decode cX12_meets 1 = .ok (.iload_n 1, 1) := by decide +kernel
theorem dX12_meets_2 : decode cX12_meets 2 = .ok (.putfield 331, 3) := by decide +kernel
theorem dX12_meets_5 : decode cX12_meets 5 = .ok (.bipush (-10), 2) := by decide +kernel
theorem dX12_meets_7 : decode cX12_meets 7 = .ok (.iload_n 1, 1) := by decide +kernel
theorem dX12_meets_8 : decode cX12_meets 8 = .ok (.isub, 1) := by decide +kernel
theorem dX12_meets_9 : decode cX12_meets 9 = .ok (.ireturn, 1) := by decide +kernel
theorem dX12_isSheet_0 : decode cX12_isSheet 0 = .ok (.iload_n 0, 1) := by decide +kernel
theorem dX12_isSheet_1 : decode cX12_isSheet 1 = .ok (.iconst 0, 1) := by decide +kernel
theorem dX12_isSheet_2 : decode cX12_isSheet 2 = .ok (.iconst 3, 1) := by decide +kernel
theorem dX12_isSheet_3 : decode cX12_isSheet 3 = .ok (.invokestatic 107, 3) := by decide +kernel
theorem dX12_isSheet_6 : decode cX12_isSheet 6 = .ok (.ireturn, 1) := by decide +kernel
theorem dX12_sheet_0 : decode cX12_sheet 0 = .ok (.iload_n 1, 1) := by decide +kernel
theorem dX12_sheet_1 : decode cX12_sheet 1 = .ok (.invokestatic 129, 3) := by decide +kernel
theorem dX12_sheet_4 : decode cX12_sheet 4 = .ok (.ifCond .eq 18, 3) := by decide +kernel
theorem dX12_sheet_7 : decode cX12_sheet 7 = .ok (.iload_n 2, 1) := by decide +kernel
theorem dX12_sheet_8 : decode cX12_sheet 8 = .ok (.iconst 0, 1) := by decide +kernel
theorem dX12_sheet_9 : decode cX12_sheet 9 = .ok (.iconst 2, 1) := by decide +kernel
theorem dX12_sheet_10 : decode cX12_sheet 10 = .ok (.invokestatic 107, 3) := by decide +kernel
theorem dX12_sheet_13 : decode cX12_sheet 13 = .ok (.ifCond .eq 9, 3) := by decide +kernel
theorem dX12_sheet_16 : decode cX12_sheet 16 = .ok (.iload_n 3, 1) := by decide +kernel
theorem dX12_sheet_17 : decode cX12_sheet 17 = .ok (.bipush 60, 2) := by decide +kernel
theorem dX12_sheet_19 : decode cX12_sheet 19 = .ok (.if_icmp .le 6, 3) := by decide +kernel
theorem dX12_sheet_22 : decode cX12_sheet 22 = .ok (.bipush (-2), 2) := by decide +kernel
theorem dX12_sheet_24 : decode cX12_sheet 24 = .ok (.ireturn, 1) := by decide +kernel
theorem dX12_sheet_25 : decode cX12_sheet 25 = .ok (.iload_n 3, 1) := by decide +kernel
theorem dX12_sheet_26 : decode cX12_sheet 26 = .ok (.ifCond .ge 9, 3) := by decide +kernel
theorem dX12_sheet_29 : decode cX12_sheet 29 = .ok (.aload_n 0, 1) := by decide +kernel
theorem dX12_sheet_30 : decode cX12_sheet 30 = .ok (.iconst 5, 1) := by decide +kernel
theorem dX12_sheet_31 : decode cX12_sheet 31 = .ok (.invokevirtual 132, 3) := by decide +kernel
theorem dX12_sheet_34 : decode cX12_sheet 34 = .ok (.ireturn, 1) := by decide +kernel
theorem dX12_sheet_35 : decode cX12_sheet 35 = .ok (.aload_n 0, 1) := by decide +kernel
theorem dX12_sheet_36 : decode cX12_sheet 36 = .ok (.getfield 91, 3) := by decide +kernel
theorem dX12_sheet_39 : decode cX12_sheet 39 = .ok (.iload_n 1, 1) := by decide +kernel
theorem dX12_sheet_40 : decode cX12_sheet 40 = .ok (.iconst 1, 1) := by decide +kernel
theorem dX12_sheet_41 : decode cX12_sheet 41 = .ok (.bastore, 1) := by decide +kernel
theorem dX12_sheet_42 : decode cX12_sheet 42 = .ok (.aload_n 0, 1) := by decide +kernel
theorem dX12_sheet_43 : decode cX12_sheet 43 = .ok (.getfield 95, 3) := by decide +kernel
theorem dX12_sheet_46 : decode cX12_sheet 46 = .ok (.iload_n 1, 1) := by decide +kernel
theorem dX12_sheet_47 : decode cX12_sheet 47 = .ok (.iload_n 2, 1) := by decide +kernel
theorem dX12_sheet_48 : decode cX12_sheet 48 = .ok (.iastore, 1) := by decide +kernel
theorem dX12_sheet_49 : decode cX12_sheet 49 = .ok (.aload_n 0, 1) := by decide +kernel
theorem dX12_sheet_50 : decode cX12_sheet 50 = .ok (.getfield 98, 3) := by decide +kernel
theorem dX12_sheet_53 : decode cX12_sheet 53 = .ok (.iload_n 1, 1) := by decide +kernel
theorem dX12_sheet_54 : decode cX12_sheet 54 = .ok (.iload_n 3, 1) := by decide +kernel
theorem dX12_sheet_55 : decode cX12_sheet 55 = .ok (.iastore, 1) := by decide +kernel
theorem dX12_sheet_56 : decode cX12_sheet 56 = .ok (.iconst 0, 1) := by decide +kernel
theorem dX12_sheet_57 : decode cX12_sheet 57 = .ok (.istore 4, 2) := by decide +kernel
theorem dX12_sheet_59 : decode cX12_sheet 59 = .ok (.iload 4, 2) := by decide +kernel
theorem dX12_sheet_61 : decode cX12_sheet 61 = .ok (.bipush 60, 2) := by decide +kernel
theorem dX12_sheet_63 : decode cX12_sheet 63 = .ok (.if_icmp .ge 22, 3) := by decide +kernel
theorem dX12_sheet_66 : decode cX12_sheet 66 = .ok (.aload_n 0, 1) := by decide +kernel
theorem dX12_sheet_67 : decode cX12_sheet 67 = .ok (.getfield 101, 3) := by decide +kernel
theorem dX12_sheet_70 : decode cX12_sheet 70 = .ok (.bipush 60, 2) := by decide +kernel
theorem dX12_sheet_72 : decode cX12_sheet 72 = .ok (.iload_n 1, 1) := by decide +kernel
theorem dX12_sheet_73 : decode cX12_sheet 73 = .ok (.imul, 1) := by decide +kernel
theorem dX12_sheet_74 : decode cX12_sheet 74 = .ok (.iload 4, 2) := by decide +kernel
theorem dX12_sheet_76 : decode cX12_sheet 76 = .ok (.iadd, 1) := by decide +kernel
theorem dX12_sheet_77 : decode cX12_sheet 77 = .ok (.iconst 0, 1) := by decide +kernel
theorem dX12_sheet_78 : decode cX12_sheet 78 = .ok (.iastore, 1) := by decide +kernel
theorem dX12_sheet_79 : decode cX12_sheet 79 = .ok (.iinc 4 1, 3) := by decide +kernel
theorem dX12_sheet_82 : decode cX12_sheet 82 = .ok (.goto (-23), 3) := by decide +kernel
theorem dX12_sheet_85 : decode cX12_sheet 85 = .ok (.iload_n 3, 1) := by decide +kernel
theorem dX12_sheet_86 : decode cX12_sheet 86 = .ok (.ireturn, 1) := by decide +kernel
theorem dX12_lose_0 : decode cX12_lose 0 = .ok (.iload_n 1, 1) := by decide +kernel
theorem dX12_lose_1 : decode cX12_lose 1 = .ok (.invokestatic 129, 3) := by decide +kernel
theorem dX12_lose_4 : decode cX12_lose 4 = .ok (.ifCond .ne 6, 3) := by decide +kernel
theorem dX12_lose_7 : decode cX12_lose 7 = .ok (.bipush (-2), 2) := by decide +kernel
theorem dX12_lose_9 : decode cX12_lose 9 = .ok (.ireturn, 1) := by decide +kernel
theorem dX12_lose_10 : decode cX12_lose 10 = .ok (.aload_n 0, 1) := by decide +kernel
theorem dX12_lose_11 : decode cX12_lose 11 = .ok (.getfield 91, 3) := by decide +kernel
theorem dX12_lose_14 : decode cX12_lose 14 = .ok (.iload_n 1, 1) := by decide +kernel
theorem dX12_lose_15 : decode cX12_lose 15 = .ok (.baload, 1) := by decide +kernel
theorem dX12_lose_16 : decode cX12_lose 16 = .ok (.ifCond .ne 9, 3) := by decide +kernel
theorem dX12_lose_19 : decode cX12_lose 19 = .ok (.aload_n 0, 1) := by decide +kernel
theorem dX12_lose_20 : decode cX12_lose 20 = .ok (.iconst 1, 1) := by decide +kernel
theorem dX12_lose_21 : decode cX12_lose 21 = .ok (.invokevirtual 132, 3) := by decide +kernel
theorem dX12_lose_24 : decode cX12_lose 24 = .ok (.ireturn, 1) := by decide +kernel
theorem dX12_lose_25 : decode cX12_lose 25 = .ok (.aload_n 0, 1) := by decide +kernel
theorem dX12_lose_26 : decode cX12_lose 26 = .ok (.getfield 91, 3) := by decide +kernel
theorem dX12_lose_29 : decode cX12_lose 29 = .ok (.iload_n 1, 1) := by decide +kernel
theorem dX12_lose_30 : decode cX12_lose 30 = .ok (.iconst 0, 1) := by decide +kernel
theorem dX12_lose_31 : decode cX12_lose 31 = .ok (.bastore, 1) := by decide +kernel
theorem dX12_lose_32 : decode cX12_lose 32 = .ok (.aload_n 0, 1) := by decide +kernel
theorem dX12_lose_33 : decode cX12_lose 33 = .ok (.getfield 98, 3) := by decide +kernel
theorem dX12_lose_36 : decode cX12_lose 36 = .ok (.iload_n 1, 1) := by decide +kernel
theorem dX12_lose_37 : decode cX12_lose 37 = .ok (.iaload, 1) := by decide +kernel
theorem dX12_lose_38 : decode cX12_lose 38 = .ok (.ireturn, 1) := by decide +kernel
theorem dX12_lacks_0 : decode cX12_lacks 0 = .ok (.aload_n 0, 1) := by decide +kernel
theorem dX12_lacks_1 : decode cX12_lacks 1 = .ok (.getfield 91, 3) := by decide +kernel
theorem dX12_lacks_4 : decode cX12_lacks 4 = .ok (.iload_n 1, 1) := by decide +kernel
theorem dX12_lacks_5 : decode cX12_lacks 5 = .ok (.baload, 1) := by decide +kernel
theorem dX12_lacks_6 : decode cX12_lacks 6 = .ok (.ifCond .ne 7, 3) := by decide +kernel
theorem dX12_lacks_9 : decode cX12_lacks 9 = .ok (.iconst 1, 1) := by decide +kernel
theorem dX12_lacks_10 : decode cX12_lacks 10 = .ok (.goto 38, 3) := by decide +kernel
theorem dX12_lacks_13 : decode cX12_lacks 13 = .ok (.aload_n 0, 1) := by decide +kernel
theorem dX12_lacks_14 : decode cX12_lacks 14 = .ok (.getfield 95, 3) := by decide +kernel
theorem dX12_lacks_17 : decode cX12_lacks 17 = .ok (.iload_n 1, 1) := by decide +kernel
theorem dX12_lacks_18 : decode cX12_lacks 18 = .ok (.iaload, 1) := by decide +kernel
theorem dX12_lacks_19 : decode cX12_lacks 19 = .ok (.iload_n 2, 1) := by decide +kernel
theorem dX12_lacks_20 : decode cX12_lacks 20 = .ok (.if_icmp .eq 7, 3) := by decide +kernel
theorem dX12_lacks_23 : decode cX12_lacks 23 = .ok (.iconst 3, 1) := by decide +kernel
theorem dX12_lacks_24 : decode cX12_lacks 24 = .ok (.goto 24, 3) := by decide +kernel
theorem dX12_lacks_27 : decode cX12_lacks 27 = .ok (.iload_n 3, 1) := by decide +kernel
theorem dX12_lacks_28 : decode cX12_lacks 28 = .ok (.iconst 0, 1) := by decide +kernel
theorem dX12_lacks_29 : decode cX12_lacks 29 = .ok (.aload_n 0, 1) := by decide +kernel
theorem dX12_lacks_30 : decode cX12_lacks 30 = .ok (.getfield 98, 3) := by decide +kernel
theorem dX12_lacks_33 : decode cX12_lacks 33 = .ok (.iload_n 1, 1) := by decide +kernel
theorem dX12_lacks_34 : decode cX12_lacks 34 = .ok (.iaload, 1) := by decide +kernel
theorem dX12_lacks_35 : decode cX12_lacks 35 = .ok (.iconst 1, 1) := by decide +kernel
theorem dX12_lacks_36 : decode cX12_lacks 36 = .ok (.isub, 1) := by decide +kernel
theorem dX12_lacks_37 : decode cX12_lacks 37 = .ok (.invokestatic 107, 3) := by decide +kernel
theorem dX12_lacks_40 : decode cX12_lacks 40 = .ok (.ifCond .eq 7, 3) := by decide +kernel
theorem dX12_lacks_43 : decode cX12_lacks 43 = .ok (.iconst 0, 1) := by decide +kernel
theorem dX12_lacks_44 : decode cX12_lacks 44 = .ok (.goto 4, 3) := by decide +kernel
theorem dX12_lacks_47 : decode cX12_lacks 47 = .ok (.iconst 2, 1) := by decide +kernel
theorem dX12_lacks_48 : decode cX12_lacks 48 = .ok (.ireturn, 1) := by decide +kernel
theorem dX12_keep_0 : decode cX12_keep 0 = .ok (.aload_n 0, 1) := by decide +kernel
theorem dX12_keep_1 : decode cX12_keep 1 = .ok (.getfield 101, 3) := by decide +kernel
theorem dX12_keep_4 : decode cX12_keep 4 = .ok (.bipush 60, 2) := by decide +kernel
theorem dX12_keep_6 : decode cX12_keep 6 = .ok (.iload_n 1, 1) := by decide +kernel
theorem dX12_keep_7 : decode cX12_keep 7 = .ok (.imul, 1) := by decide +kernel
theorem dX12_keep_8 : decode cX12_keep 8 = .ok (.iload_n 2, 1) := by decide +kernel
theorem dX12_keep_9 : decode cX12_keep 9 = .ok (.iadd, 1) := by decide +kernel
theorem dX12_keep_10 : decode cX12_keep 10 = .ok (.aload_n 0, 1) := by decide +kernel
theorem dX12_keep_11 : decode cX12_keep 11 = .ok (.getfield 95, 3) := by decide +kernel
theorem dX12_keep_14 : decode cX12_keep 14 = .ok (.iload_n 1, 1) := by decide +kernel
theorem dX12_keep_15 : decode cX12_keep 15 = .ok (.iaload, 1) := by decide +kernel
theorem dX12_keep_16 : decode cX12_keep 16 = .ok (.ifCond .ne 8, 3) := by decide +kernel
theorem dX12_keep_19 : decode cX12_keep 19 = .ok (.iload_n 3, 1) := by decide +kernel
theorem dX12_keep_20 : decode cX12_keep 20 = .ok (.i2b, 1) := by decide +kernel
theorem dX12_keep_21 : decode cX12_keep 21 = .ok (.goto 19, 3) := by decide +kernel
theorem dX12_keep_24 : decode cX12_keep 24 = .ok (.aload_n 0, 1) := by decide +kernel
theorem dX12_keep_25 : decode cX12_keep 25 = .ok (.getfield 95, 3) := by decide +kernel
theorem dX12_keep_28 : decode cX12_keep 28 = .ok (.iload_n 1, 1) := by decide +kernel
theorem dX12_keep_29 : decode cX12_keep 29 = .ok (.iaload, 1) := by decide +kernel
theorem dX12_keep_30 : decode cX12_keep 30 = .ok (.iconst 1, 1) := by decide +kernel
theorem dX12_keep_31 : decode cX12_keep 31 = .ok (.if_icmp .ne 8, 3) := by decide +kernel
theorem dX12_keep_34 : decode cX12_keep 34 = .ok (.iload_n 3, 1) := by decide +kernel
theorem dX12_keep_35 : decode cX12_keep 35 = .ok (.i2s, 1) := by decide +kernel
theorem dX12_keep_36 : decode cX12_keep 36 = .ok (.goto 4, 3) := by decide +kernel
theorem dX12_keep_39 : decode cX12_keep 39 = .ok (.iload_n 3, 1) := by decide +kernel
theorem dX12_keep_40 : decode cX12_keep 40 = .ok (.iastore, 1) := by decide +kernel
theorem dX12_keep_41 : decode cX12_keep 41 = .ok (.return_, 1) := by decide +kernel
theorem dX12_put_0 : decode cX12_put 0 = .ok (.iload_n 1, 1) := by decide +kernel
theorem dX12_put_1 : decode cX12_put 1 = .ok (.invokestatic 129, 3) := by decide +kernel
theorem dX12_put_4 : decode cX12_put 4 = .ok (.ifCond .eq 12, 3) := by decide +kernel
theorem dX12_put_7 : decode cX12_put 7 = .ok (.iload_n 2, 1) := by decide +kernel
theorem dX12_put_8 : decode cX12_put 8 = .ok (.iconst 0, 1) := by decide +kernel
theorem dX12_put_9 : decode cX12_put 9 = .ok (.iconst 2, 1) := by decide +kernel
theorem dX12_put_10 : decode cX12_put 10 = .ok (.invokestatic 107, 3) := by decide +kernel
theorem dX12_put_13 : decode cX12_put 13 = .ok (.ifCond .ne 6, 3) := by decide +kernel
theorem dX12_put_16 : decode cX12_put 16 = .ok (.bipush (-2), 2) := by decide +kernel
theorem dX12_put_18 : decode cX12_put 18 = .ok (.ireturn, 1) := by decide +kernel
theorem dX12_put_19 : decode cX12_put 19 = .ok (.aload_n 0, 1) := by decide +kernel
theorem dX12_put_20 : decode cX12_put 20 = .ok (.iload_n 1, 1) := by decide +kernel
theorem dX12_put_21 : decode cX12_put 21 = .ok (.iload_n 2, 1) := by decide +kernel
theorem dX12_put_22 : decode cX12_put 22 = .ok (.iload_n 3, 1) := by decide +kernel
theorem dX12_put_23 : decode cX12_put 23 = .ok (.invokevirtual 334, 3) := by decide +kernel
theorem dX12_put_26 : decode cX12_put 26 = .ok (.istore 5, 2) := by decide +kernel
theorem dX12_put_28 : decode cX12_put 28 = .ok (.iload 5, 2) := by decide +kernel
theorem dX12_put_30 : decode cX12_put 30 = .ok (.ifCond .le 10, 3) := by decide +kernel
theorem dX12_put_33 : decode cX12_put 33 = .ok (.aload_n 0, 1) := by decide +kernel
theorem dX12_put_34 : decode cX12_put 34 = .ok (.iload 5, 2) := by decide +kernel
theorem dX12_put_36 : decode cX12_put 36 = .ok (.invokevirtual 132, 3) := by decide +kernel
theorem dX12_put_39 : decode cX12_put 39 = .ok (.ireturn, 1) := by decide +kernel
theorem dX12_put_40 : decode cX12_put 40 = .ok (.aload_n 0, 1) := by decide +kernel
theorem dX12_put_41 : decode cX12_put 41 = .ok (.iload_n 1, 1) := by decide +kernel
theorem dX12_put_42 : decode cX12_put 42 = .ok (.iload_n 3, 1) := by decide +kernel
theorem dX12_put_43 : decode cX12_put 43 = .ok (.iload 4, 2) := by decide +kernel
theorem dX12_put_45 : decode cX12_put 45 = .ok (.invokevirtual 337, 3) := by decide +kernel
theorem dX12_put_48 : decode cX12_put 48 = .ok (.iconst 1, 1) := by decide +kernel
theorem dX12_put_49 : decode cX12_put 49 = .ok (.ireturn, 1) := by decide +kernel
theorem dX12_get_0 : decode cX12_get 0 = .ok (.iload_n 1, 1) := by decide +kernel
theorem dX12_get_1 : decode cX12_get 1 = .ok (.invokestatic 129, 3) := by decide +kernel
theorem dX12_get_4 : decode cX12_get 4 = .ok (.ifCond .eq 12, 3) := by decide +kernel
theorem dX12_get_7 : decode cX12_get 7 = .ok (.iload_n 2, 1) := by decide +kernel
theorem dX12_get_8 : decode cX12_get 8 = .ok (.iconst 0, 1) := by decide +kernel
theorem dX12_get_9 : decode cX12_get 9 = .ok (.iconst 2, 1) := by decide +kernel
theorem dX12_get_10 : decode cX12_get 10 = .ok (.invokestatic 107, 3) := by decide +kernel
theorem dX12_get_13 : decode cX12_get 13 = .ok (.ifCond .ne 7, 3) := by decide +kernel
theorem dX12_get_16 : decode cX12_get 16 = .ok (.ldc_w 340, 3) := by decide +kernel
theorem dX12_get_19 : decode cX12_get 19 = .ok (.ireturn, 1) := by decide +kernel
theorem dX12_get_20 : decode cX12_get 20 = .ok (.aload_n 0, 1) := by decide +kernel
theorem dX12_get_21 : decode cX12_get 21 = .ok (.iload_n 1, 1) := by decide +kernel
theorem dX12_get_22 : decode cX12_get 22 = .ok (.iload_n 2, 1) := by decide +kernel
theorem dX12_get_23 : decode cX12_get 23 = .ok (.iload_n 3, 1) := by decide +kernel
theorem dX12_get_24 : decode cX12_get 24 = .ok (.invokevirtual 334, 3) := by decide +kernel
theorem dX12_get_27 : decode cX12_get 27 = .ok (.istore 4, 2) := by decide +kernel
theorem dX12_get_29 : decode cX12_get 29 = .ok (.iload 4, 2) := by decide +kernel
theorem dX12_get_31 : decode cX12_get 31 = .ok (.ifCond .le 13, 3) := by decide +kernel
theorem dX12_get_34 : decode cX12_get 34 = .ok (.aload_n 0, 1) := by decide +kernel
theorem dX12_get_35 : decode cX12_get 35 = .ok (.iload 4, 2) := by decide +kernel
theorem dX12_get_37 : decode cX12_get 37 = .ok (.putfield 331, 3) := by decide +kernel
theorem dX12_get_40 : decode cX12_get 40 = .ok (.ldc_w 340, 3) := by decide +kernel
theorem dX12_get_43 : decode cX12_get 43 = .ok (.ireturn, 1) := by decide +kernel
theorem dX12_get_44 : decode cX12_get 44 = .ok (.aload_n 0, 1) := by decide +kernel
theorem dX12_get_45 : decode cX12_get 45 = .ok (.getfield 101, 3) := by decide +kernel
theorem dX12_get_48 : decode cX12_get 48 = .ok (.bipush 60, 2) := by decide +kernel
theorem dX12_get_50 : decode cX12_get 50 = .ok (.iload_n 1, 1) := by decide +kernel
theorem dX12_get_51 : decode cX12_get 51 = .ok (.imul, 1) := by decide +kernel
theorem dX12_get_52 : decode cX12_get 52 = .ok (.iload_n 3, 1) := by decide +kernel
theorem dX12_get_53 : decode cX12_get 53 = .ok (.iadd, 1) := by decide +kernel
theorem dX12_get_54 : decode cX12_get 54 = .ok (.iaload, 1) := by decide +kernel
theorem dX12_get_55 : decode cX12_get 55 = .ok (.ireturn, 1) := by decide +kernel
theorem dX12_copy_0 : decode cX12_copy 0 = .ok (.iload_n 1, 1) := by decide +kernel
theorem dX12_copy_1 : decode cX12_copy 1 = .ok (.invokestatic 129, 3) := by decide +kernel
theorem dX12_copy_4 : decode cX12_copy 4 = .ok (.ifCond .eq 10, 3) := by decide +kernel
theorem dX12_copy_7 : decode cX12_copy 7 = .ok (.iload_n 3, 1) := by decide +kernel
theorem dX12_copy_8 : decode cX12_copy 8 = .ok (.invokestatic 129, 3) := by decide +kernel
theorem dX12_copy_11 : decode cX12_copy 11 = .ok (.ifCond .ne 6, 3) := by decide +kernel
theorem dX12_copy_14 : decode cX12_copy 14 = .ok (.bipush (-2), 2) := by decide +kernel
theorem dX12_copy_16 : decode cX12_copy 16 = .ok (.ireturn, 1) := by decide +kernel
theorem dX12_copy_17 : decode cX12_copy 17 = .ok (.aload_n 0, 1) := by decide +kernel
theorem dX12_copy_18 : decode cX12_copy 18 = .ok (.getfield 91, 3) := by decide +kernel
theorem dX12_copy_21 : decode cX12_copy 21 = .ok (.iload_n 1, 1) := by decide +kernel
theorem dX12_copy_22 : decode cX12_copy 22 = .ok (.baload, 1) := by decide +kernel
theorem dX12_copy_23 : decode cX12_copy 23 = .ok (.ifCond .eq 12, 3) := by decide +kernel
theorem dX12_copy_26 : decode cX12_copy 26 = .ok (.aload_n 0, 1) := by decide +kernel
theorem dX12_copy_27 : decode cX12_copy 27 = .ok (.getfield 91, 3) := by decide +kernel
theorem dX12_copy_30 : decode cX12_copy 30 = .ok (.iload_n 3, 1) := by decide +kernel
theorem dX12_copy_31 : decode cX12_copy 31 = .ok (.baload, 1) := by decide +kernel
theorem dX12_copy_32 : decode cX12_copy 32 = .ok (.ifCond .ne 9, 3) := by decide +kernel
theorem dX12_copy_35 : decode cX12_copy 35 = .ok (.aload_n 0, 1) := by decide +kernel
theorem dX12_copy_36 : decode cX12_copy 36 = .ok (.iconst 1, 1) := by decide +kernel
theorem dX12_copy_37 : decode cX12_copy 37 = .ok (.invokevirtual 132, 3) := by decide +kernel
theorem dX12_copy_40 : decode cX12_copy 40 = .ok (.ireturn, 1) := by decide +kernel
theorem dX12_copy_41 : decode cX12_copy 41 = .ok (.aload_n 0, 1) := by decide +kernel
theorem dX12_copy_42 : decode cX12_copy 42 = .ok (.getfield 95, 3) := by decide +kernel
theorem dX12_copy_45 : decode cX12_copy 45 = .ok (.iload_n 1, 1) := by decide +kernel
theorem dX12_copy_46 : decode cX12_copy 46 = .ok (.iaload, 1) := by decide +kernel
theorem dX12_copy_47 : decode cX12_copy 47 = .ok (.aload_n 0, 1) := by decide +kernel
theorem dX12_copy_48 : decode cX12_copy 48 = .ok (.getfield 95, 3) := by decide +kernel
theorem dX12_copy_51 : decode cX12_copy 51 = .ok (.iload_n 3, 1) := by decide +kernel
theorem dX12_copy_52 : decode cX12_copy 52 = .ok (.iaload, 1) := by decide +kernel
theorem dX12_copy_53 : decode cX12_copy 53 = .ok (.if_icmp .eq 9, 3) := by decide +kernel
theorem dX12_copy_56 : decode cX12_copy 56 = .ok (.aload_n 0, 1) := by decide +kernel
theorem dX12_copy_57 : decode cX12_copy 57 = .ok (.iconst 4, 1) := by decide +kernel
theorem dX12_copy_58 : decode cX12_copy 58 = .ok (.invokevirtual 132, 3) := by decide +kernel
theorem dX12_copy_61 : decode cX12_copy 61 = .ok (.ireturn, 1) := by decide +kernel
theorem dX12_copy_62 : decode cX12_copy 62 = .ok (.iload_n 2, 1) := by decide +kernel
theorem dX12_copy_63 : decode cX12_copy 63 = .ok (.ifCond .lt 48, 3) := by decide +kernel
theorem dX12_copy_66 : decode cX12_copy 66 = .ok (.iload 4, 2) := by decide +kernel
theorem dX12_copy_68 : decode cX12_copy 68 = .ok (.ifCond .lt 43, 3) := by decide +kernel
theorem dX12_copy_71 : decode cX12_copy 71 = .ok (.iload 5, 2) := by decide +kernel
theorem dX12_copy_73 : decode cX12_copy 73 = .ok (.ifCond .lt 38, 3) := by decide +kernel
theorem dX12_copy_76 : decode cX12_copy 76 = .ok (.iload_n 2, 1) := by decide +kernel
theorem dX12_copy_77 : decode cX12_copy 77 = .ok (.i2l, 1) := by decide +kernel
theorem dX12_copy_78 : decode cX12_copy 78 = .ok (.iload 5, 2) := by decide +kernel
theorem dX12_copy_80 : decode cX12_copy 80 = .ok (.i2l, 1) := by decide +kernel
theorem dX12_copy_81 : decode cX12_copy 81 = .ok (.ladd, 1) := by decide +kernel
theorem dX12_copy_82 : decode cX12_copy 82 = .ok (.aload_n 0, 1) := by decide +kernel
theorem dX12_copy_83 : decode cX12_copy 83 = .ok (.getfield 98, 3) := by decide +kernel
theorem dX12_copy_86 : decode cX12_copy 86 = .ok (.iload_n 1, 1) := by decide +kernel
theorem dX12_copy_87 : decode cX12_copy 87 = .ok (.iaload, 1) := by decide +kernel
theorem dX12_copy_88 : decode cX12_copy 88 = .ok (.i2l, 1) := by decide +kernel
theorem dX12_copy_89 : decode cX12_copy 89 = .ok (.lcmp, 1) := by decide +kernel
theorem dX12_copy_90 : decode cX12_copy 90 = .ok (.ifCond .gt 21, 3) := by decide +kernel
theorem dX12_copy_93 : decode cX12_copy 93 = .ok (.iload 4, 2) := by decide +kernel
theorem dX12_copy_95 : decode cX12_copy 95 = .ok (.i2l, 1) := by decide +kernel
theorem dX12_copy_96 : decode cX12_copy 96 = .ok (.iload 5, 2) := by decide +kernel
theorem dX12_copy_98 : decode cX12_copy 98 = .ok (.i2l, 1) := by decide +kernel
theorem dX12_copy_99 : decode cX12_copy 99 = .ok (.ladd, 1) := by decide +kernel
theorem dX12_copy_100 : decode cX12_copy 100 = .ok (.aload_n 0, 1) := by decide +kernel
theorem dX12_copy_101 : decode cX12_copy 101 = .ok (.getfield 98, 3) := by decide +kernel
theorem dX12_copy_104 : decode cX12_copy 104 = .ok (.iload_n 3, 1) := by decide +kernel
theorem dX12_copy_105 : decode cX12_copy 105 = .ok (.iaload, 1) := by decide +kernel
theorem dX12_copy_106 : decode cX12_copy 106 = .ok (.i2l, 1) := by decide +kernel
theorem dX12_copy_107 : decode cX12_copy 107 = .ok (.lcmp, 1) := by decide +kernel
theorem dX12_copy_108 : decode cX12_copy 108 = .ok (.ifCond .le 9, 3) := by decide +kernel
theorem dX12_copy_111 : decode cX12_copy 111 = .ok (.aload_n 0, 1) := by decide +kernel
theorem dX12_copy_112 : decode cX12_copy 112 = .ok (.iconst 2, 1) := by decide +kernel
theorem dX12_copy_113 : decode cX12_copy 113 = .ok (.invokevirtual 132, 3) := by decide +kernel
theorem dX12_copy_116 : decode cX12_copy 116 = .ok (.ireturn, 1) := by decide +kernel
theorem dX12_copy_117 : decode cX12_copy 117 = .ok (.iconst 0, 1) := by decide +kernel
theorem dX12_copy_118 : decode cX12_copy 118 = .ok (.istore 6, 2) := by decide +kernel
theorem dX12_copy_120 : decode cX12_copy 120 = .ok (.iload 6, 2) := by decide +kernel
theorem dX12_copy_122 : decode cX12_copy 122 = .ok (.iload 5, 2) := by decide +kernel
theorem dX12_copy_124 : decode cX12_copy 124 = .ok (.if_icmp .ge 30, 3) := by decide +kernel
theorem dX12_copy_127 : decode cX12_copy 127 = .ok (.aload_n 0, 1) := by decide +kernel
theorem dX12_copy_128 : decode cX12_copy 128 = .ok (.getfield 104, 3) := by decide +kernel
theorem dX12_copy_131 : decode cX12_copy 131 = .ok (.iload 6, 2) := by decide +kernel
theorem dX12_copy_133 : decode cX12_copy 133 = .ok (.aload_n 0, 1) := by decide +kernel
theorem dX12_copy_134 : decode cX12_copy 134 = .ok (.getfield 101, 3) := by decide +kernel
theorem dX12_copy_137 : decode cX12_copy 137 = .ok (.bipush 60, 2) := by decide +kernel
theorem dX12_copy_139 : decode cX12_copy 139 = .ok (.iload_n 1, 1) := by decide +kernel
theorem dX12_copy_140 : decode cX12_copy 140 = .ok (.imul, 1) := by decide +kernel
theorem dX12_copy_141 : decode cX12_copy 141 = .ok (.iload_n 2, 1) := by decide +kernel
theorem dX12_copy_142 : decode cX12_copy 142 = .ok (.iadd, 1) := by decide +kernel
theorem dX12_copy_143 : decode cX12_copy 143 = .ok (.iload 6, 2) := by decide +kernel
theorem dX12_copy_145 : decode cX12_copy 145 = .ok (.iadd, 1) := by decide +kernel
theorem dX12_copy_146 : decode cX12_copy 146 = .ok (.iaload, 1) := by decide +kernel
theorem dX12_copy_147 : decode cX12_copy 147 = .ok (.iastore, 1) := by decide +kernel
theorem dX12_copy_148 : decode cX12_copy 148 = .ok (.iinc 6 1, 3) := by decide +kernel
theorem dX12_copy_151 : decode cX12_copy 151 = .ok (.goto (-31), 3) := by decide +kernel
theorem dX12_copy_154 : decode cX12_copy 154 = .ok (.iconst 0, 1) := by decide +kernel
theorem dX12_copy_155 : decode cX12_copy 155 = .ok (.istore 6, 2) := by decide +kernel
theorem dX12_copy_157 : decode cX12_copy 157 = .ok (.iload 6, 2) := by decide +kernel
theorem dX12_copy_159 : decode cX12_copy 159 = .ok (.iload 5, 2) := by decide +kernel
theorem dX12_copy_161 : decode cX12_copy 161 = .ok (.if_icmp .ge 31, 3) := by decide +kernel
theorem dX12_copy_164 : decode cX12_copy 164 = .ok (.aload_n 0, 1) := by decide +kernel
theorem dX12_copy_165 : decode cX12_copy 165 = .ok (.getfield 101, 3) := by decide +kernel
theorem dX12_copy_168 : decode cX12_copy 168 = .ok (.bipush 60, 2) := by decide +kernel
theorem dX12_copy_170 : decode cX12_copy 170 = .ok (.iload_n 3, 1) := by decide +kernel
theorem dX12_copy_171 : decode cX12_copy 171 = .ok (.imul, 1) := by decide +kernel
theorem dX12_copy_172 : decode cX12_copy 172 = .ok (.iload 4, 2) := by decide +kernel
theorem dX12_copy_174 : decode cX12_copy 174 = .ok (.iadd, 1) := by decide +kernel
theorem dX12_copy_175 : decode cX12_copy 175 = .ok (.iload 6, 2) := by decide +kernel
theorem dX12_copy_177 : decode cX12_copy 177 = .ok (.iadd, 1) := by decide +kernel
theorem dX12_copy_178 : decode cX12_copy 178 = .ok (.aload_n 0, 1) := by decide +kernel
theorem dX12_copy_179 : decode cX12_copy 179 = .ok (.getfield 104, 3) := by decide +kernel
theorem dX12_copy_182 : decode cX12_copy 182 = .ok (.iload 6, 2) := by decide +kernel
theorem dX12_copy_184 : decode cX12_copy 184 = .ok (.iaload, 1) := by decide +kernel
theorem dX12_copy_185 : decode cX12_copy 185 = .ok (.iastore, 1) := by decide +kernel
theorem dX12_copy_186 : decode cX12_copy 186 = .ok (.iinc 6 1, 3) := by decide +kernel
theorem dX12_copy_189 : decode cX12_copy 189 = .ok (.goto (-32), 3) := by decide +kernel
theorem dX12_copy_192 : decode cX12_copy 192 = .ok (.iconst 1, 1) := by decide +kernel
theorem dX12_copy_193 : decode cX12_copy 193 = .ok (.ireturn, 1) := by decide +kernel
theorem dX12_write_0 : decode cX12_write 0 = .ok (.iload_n 1, 1) := by decide +kernel
theorem dX12_write_1 : decode cX12_write 1 = .ok (.invokestatic 165, 3) := by decide +kernel
theorem dX12_write_4 : decode cX12_write 4 = .ok (.ifCond .eq 10, 3) := by decide +kernel
theorem dX12_write_7 : decode cX12_write 7 = .ok (.iload_n 2, 1) := by decide +kernel
theorem dX12_write_8 : decode cX12_write 8 = .ok (.invokestatic 129, 3) := by decide +kernel
theorem dX12_write_11 : decode cX12_write 11 = .ok (.ifCond .ne 6, 3) := by decide +kernel
theorem dX12_write_14 : decode cX12_write 14 = .ok (.bipush (-2), 2) := by decide +kernel
theorem dX12_write_16 : decode cX12_write 16 = .ok (.ireturn, 1) := by decide +kernel
theorem dX12_write_17 : decode cX12_write 17 = .ok (.aload_n 0, 1) := by decide +kernel
theorem dX12_write_18 : decode cX12_write 18 = .ok (.getfield 91, 3) := by decide +kernel
theorem dX12_write_21 : decode cX12_write 21 = .ok (.iload_n 2, 1) := by decide +kernel
theorem dX12_write_22 : decode cX12_write 22 = .ok (.baload, 1) := by decide +kernel
theorem dX12_write_23 : decode cX12_write 23 = .ok (.ifCond .ne 9, 3) := by decide +kernel
theorem dX12_write_26 : decode cX12_write 26 = .ok (.aload_n 0, 1) := by decide +kernel
theorem dX12_write_27 : decode cX12_write 27 = .ok (.iconst 1, 1) := by decide +kernel
theorem dX12_write_28 : decode cX12_write 28 = .ok (.invokevirtual 132, 3) := by decide +kernel
theorem dX12_write_31 : decode cX12_write 31 = .ok (.ireturn, 1) := by decide +kernel
theorem dX12_write_32 : decode cX12_write 32 = .ok (.aload_n 0, 1) := by decide +kernel
theorem dX12_write_33 : decode cX12_write 33 = .ok (.invokevirtual 292, 3) := by decide +kernel
theorem dX12_write_36 : decode cX12_write 36 = .ok (.aload_n 0, 1) := by decide +kernel
theorem dX12_write_37 : decode cX12_write 37 = .ok (.getfield 34, 3) := by decide +kernel
theorem dX12_write_40 : decode cX12_write 40 = .ok (.iload_n 1, 1) := by decide +kernel
theorem dX12_write_41 : decode cX12_write 41 = .ok (.iaload, 1) := by decide +kernel
theorem dX12_write_42 : decode cX12_write 42 = .ok (.iconst (-1), 1) := by decide +kernel
theorem dX12_write_43 : decode cX12_write 43 = .ok (.if_icmp .eq 6, 3) := by decide +kernel
theorem dX12_write_46 : decode cX12_write 46 = .ok (.bipush (-3), 2) := by decide +kernel
theorem dX12_write_48 : decode cX12_write 48 = .ok (.ireturn, 1) := by decide +kernel
theorem dX12_write_49 : decode cX12_write 49 = .ok (.iconst 0, 1) := by decide +kernel
theorem dX12_write_50 : decode cX12_write 50 = .ok (.istore_n 3, 1) := by decide +kernel
theorem dX12_write_51 : decode cX12_write 51 = .ok (.iload_n 3, 1) := by decide +kernel
theorem dX12_write_52 : decode cX12_write 52 = .ok (.aload_n 0, 1) := by decide +kernel
theorem dX12_write_53 : decode cX12_write 53 = .ok (.getfield 98, 3) := by decide +kernel
theorem dX12_write_56 : decode cX12_write 56 = .ok (.iload_n 2, 1) := by decide +kernel
theorem dX12_write_57 : decode cX12_write 57 = .ok (.iaload, 1) := by decide +kernel
theorem dX12_write_58 : decode cX12_write 58 = .ok (.if_icmp .ge 36, 3) := by decide +kernel
theorem dX12_write_61 : decode cX12_write 61 = .ok (.iload_n 3, 1) := by decide +kernel
theorem dX12_write_62 : decode cX12_write 62 = .ok (.aload_n 0, 1) := by decide +kernel
theorem dX12_write_63 : decode cX12_write 63 = .ok (.getfield 19, 3) := by decide +kernel
theorem dX12_write_66 : decode cX12_write 66 = .ok (.iconst 0, 1) := by decide +kernel
theorem dX12_write_67 : decode cX12_write 67 = .ok (.iaload, 1) := by decide +kernel
theorem dX12_write_68 : decode cX12_write 68 = .ok (.if_icmp .ge 26, 3) := by decide +kernel
theorem dX12_write_71 : decode cX12_write 71 = .ok (.aload_n 0, 1) := by decide +kernel
theorem dX12_write_72 : decode cX12_write 72 = .ok (.iload_n 2, 1) := by decide +kernel
theorem dX12_write_73 : decode cX12_write 73 = .ok (.iload_n 3, 1) := by decide +kernel
theorem dX12_write_74 : decode cX12_write 74 = .ok (.aload_n 0, 1) := by decide +kernel
theorem dX12_write_75 : decode cX12_write 75 = .ok (.getfield 37, 3) := by decide +kernel
theorem dX12_write_78 : decode cX12_write 78 = .ok (.bipush 10, 2) := by decide +kernel
theorem dX12_write_80 : decode cX12_write 80 = .ok (.iload_n 1, 1) := by decide +kernel
theorem dX12_write_81 : decode cX12_write 81 = .ok (.imul, 1) := by decide +kernel
theorem dX12_write_82 : decode cX12_write 82 = .ok (.iload_n 3, 1) := by decide +kernel
theorem dX12_write_83 : decode cX12_write 83 = .ok (.iadd, 1) := by decide +kernel
theorem dX12_write_84 : decode cX12_write 84 = .ok (.iaload, 1) := by decide +kernel
theorem dX12_write_85 : decode cX12_write 85 = .ok (.invokevirtual 337, 3) := by decide +kernel
theorem dX12_write_88 : decode cX12_write 88 = .ok (.iinc 3 1, 3) := by decide +kernel
theorem dX12_write_91 : decode cX12_write 91 = .ok (.goto (-40), 3) := by decide +kernel
theorem dX12_write_94 : decode cX12_write 94 = .ok (.iload_n 3, 1) := by decide +kernel
theorem dX12_write_95 : decode cX12_write 95 = .ok (.ireturn, 1) := by decide +kernel
theorem dX12_tellOf_0 : decode cX12_tellOf 0 = .ok (.aload_n 0, 1) := by decide +kernel
theorem dX12_tellOf_1 : decode cX12_tellOf 1 = .ok (.invokevirtual 292, 3) := by decide +kernel
theorem dX12_tellOf_4 : decode cX12_tellOf 4 = .ok (.iload_n 1, 1) := by decide +kernel
theorem dX12_tellOf_5 : decode cX12_tellOf 5 = .ok (.iconst 2, 1) := by decide +kernel
theorem dX12_tellOf_6 : decode cX12_tellOf 6 = .ok (.if_icmp .ge 12, 3) := by decide +kernel
theorem dX12_tellOf_9 : decode cX12_tellOf 9 = .ok (.aload_n 0, 1) := by decide +kernel
theorem dX12_tellOf_10 : decode cX12_tellOf 10 = .ok (.getfield 19, 3) := by decide +kernel
theorem dX12_tellOf_13 : decode cX12_tellOf 13 = .ok (.iload_n 1, 1) := by decide +kernel
theorem dX12_tellOf_14 : decode cX12_tellOf 14 = .ok (.iaload, 1) := by decide +kernel
theorem dX12_tellOf_15 : decode cX12_tellOf 15 = .ok (.goto 31, 3) := by decide +kernel
