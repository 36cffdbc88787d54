theorem dX12_readsTable_107 : decode cX12_readsTable 107 = .ok (.iaload, 1) := by decide +kernel
theorem dX12_readsTable_108 : decode cX12_readsTable 108 = .ok (.if_icmp .ne 12, 3) := by decide +kernel
theorem dX12_readsTable_111 : decode cX12_readsTable 111 = .ok (.aload_n 0, 1) := by decide +kernel
theorem dX12_readsTable_112 : decode cX12_readsTable 112 = .ok (.getfield 19, 3) := by decide +kernel
theorem dX12_readsTable_115 : decode cX12_readsTable 115 = .ok (.iload_n 1, 1) := by decide +kernel
theorem dX12_readsTable_116 : decode cX12_readsTable 116 = .ok (.iload_n 2, 1) := by decide +kernel
theorem dX12_readsTable_117 : decode cX12_readsTable 117 = .ok (.iastore, 1) := by decide +kernel
theorem dX12_readsTable_118 : decode cX12_readsTable 118 = .ok (.iconst (-1), 1) := by decide +kernel
theorem dX12_readsTable_119 : decode cX12_readsTable 119 = .ok (.ireturn, 1) := by decide +kernel
theorem dX12_readsTable_120 : decode cX12_readsTable 120 = .ok (.aload_n 0, 1) := by decide +kernel
theorem dX12_readsTable_121 : decode cX12_readsTable 121 = .ok (.iload_n 1, 1) := by decide +kernel
theorem dX12_readsTable_122 : decode cX12_readsTable 122 = .ok (.iload_n 3, 1) := by decide +kernel
theorem dX12_readsTable_123 : decode cX12_readsTable 123 = .ok (.invokevirtual 139, 3) := by decide +kernel
theorem dX12_readsTable_126 : decode cX12_readsTable 126 = .ok (.bipush 59, 2) := by decide +kernel
theorem dX12_readsTable_128 : decode cX12_readsTable 128 = .ok (.if_icmp .eq 5, 3) := by decide +kernel
theorem dX12_readsTable_131 : decode cX12_readsTable 131 = .ok (.iload_n 3, 1) := by decide +kernel
theorem dX12_readsTable_132 : decode cX12_readsTable 132 = .ok (.ireturn, 1) := by decide +kernel
theorem dX12_readsTable_133 : decode cX12_readsTable 133 = .ok (.iinc 3 1, 3) := by decide +kernel
theorem dX12_readsTable_136 : decode cX12_readsTable 136 = .ok (.goto (-125), 3) := by decide +kernel
theorem dX12_readsTable_139 : decode cX12_readsTable 139 = .ok (.iconst (-1), 1) := by decide +kernel
theorem dX12_readsTable_140 : decode cX12_readsTable 140 = .ok (.ireturn, 1) := by decide +kernel
theorem dX12_kindOf_0 : decode cX12_kindOf 0 = .ok (.iload_n 0, 1) := by decide +kernel
theorem dX12_kindOf_1 : decode cX12_kindOf 1 = .ok (.bipush 101, 2) := by decide +kernel
theorem dX12_kindOf_3 : decode cX12_kindOf 3 = .ok (.if_icmp .ne 7, 3) := by decide +kernel
theorem dX12_kindOf_6 : decode cX12_kindOf 6 = .ok (.iconst 1, 1) := by decide +kernel
theorem dX12_kindOf_7 : decode cX12_kindOf 7 = .ok (.goto 66, 3) := by decide +kernel
theorem dX12_kindOf_10 : decode cX12_kindOf 10 = .ok (.iload_n 0, 1) := by decide +kernel
theorem dX12_kindOf_11 : decode cX12_kindOf 11 = .ok (.bipush 108, 2) := by decide +kernel
theorem dX12_kindOf_13 : decode cX12_kindOf 13 = .ok (.if_icmp .ne 7, 3) := by decide +kernel
theorem dX12_kindOf_16 : decode cX12_kindOf 16 = .ok (.iconst 2, 1) := by decide +kernel
theorem dX12_kindOf_17 : decode cX12_kindOf 17 = .ok (.goto 56, 3) := by decide +kernel
theorem dX12_kindOf_20 : decode cX12_kindOf 20 = .ok (.iload_n 0, 1) := by decide +kernel
theorem dX12_kindOf_21 : decode cX12_kindOf 21 = .ok (.bipush 109, 2) := by decide +kernel
theorem dX12_kindOf_23 : decode cX12_kindOf 23 = .ok (.if_icmp .ne 7, 3) := by decide +kernel
theorem dX12_kindOf_26 : decode cX12_kindOf 26 = .ok (.iconst 3, 1) := by decide +kernel
theorem dX12_kindOf_27 : decode cX12_kindOf 27 = .ok (.goto 46, 3) := by decide +kernel
theorem dX12_kindOf_30 : decode cX12_kindOf 30 = .ok (.iload_n 0, 1) := by decide +kernel
theorem dX12_kindOf_31 : decode cX12_kindOf 31 = .ok (.bipush 117, 2) := by decide +kernel
theorem dX12_kindOf_33 : decode cX12_kindOf 33 = .ok (.if_icmp .ne 7, 3) := by decide +kernel
theorem dX12_kindOf_36 : decode cX12_kindOf 36 = .ok (.iconst 4, 1) := by decide +kernel
theorem dX12_kindOf_37 : decode cX12_kindOf 37 = .ok (.goto 36, 3) := by decide +kernel
theorem dX12_kindOf_40 : decode cX12_kindOf 40 = .ok (.iload_n 0, 1) := by decide +kernel
theorem dX12_kindOf_41 : decode cX12_kindOf 41 = .ok (.bipush 100, 2) := by decide +kernel
theorem dX12_kindOf_43 : decode cX12_kindOf 43 = .ok (.if_icmp .ne 7, 3) := by decide +kernel
theorem dX12_kindOf_46 : decode cX12_kindOf 46 = .ok (.iconst 5, 1) := by decide +kernel
theorem dX12_kindOf_47 : decode cX12_kindOf 47 = .ok (.goto 26, 3) := by decide +kernel
theorem dX12_kindOf_50 : decode cX12_kindOf 50 = .ok (.iload_n 0, 1) := by decide +kernel
theorem dX12_kindOf_51 : decode cX12_kindOf 51 = .ok (.bipush 103, 2) := by decide +kernel
theorem dX12_kindOf_53 : decode cX12_kindOf 53 = .ok (.if_icmp .ne 8, 3) := by decide +kernel
theorem dX12_kindOf_56 : decode cX12_kindOf 56 = .ok (.bipush 6, 2) := by decide +kernel
theorem dX12_kindOf_58 : decode cX12_kindOf 58 = .ok (.goto 15, 3) := by decide +kernel
theorem dX12_kindOf_61 : decode cX12_kindOf 61 = .ok (.iload_n 0, 1) := by decide +kernel
theorem dX12_kindOf_62 : decode cX12_kindOf 62 = .ok (.bipush 102, 2) := by decide +kernel
theorem dX12_kindOf_64 : decode cX12_kindOf 64 = .ok (.if_icmp .ne 8, 3) := by decide +kernel
theorem dX12_kindOf_67 : decode cX12_kindOf 67 = .ok (.bipush 7, 2) := by decide +kernel
theorem dX12_kindOf_69 : decode cX12_kindOf 69 = .ok (.goto 4, 3) := by decide +kernel
theorem dX12_kindOf_72 : decode cX12_kindOf 72 = .ok (.iconst (-1), 1) := by decide +kernel
theorem dX12_kindOf_73 : decode cX12_kindOf 73 = .ok (.ireturn, 1) := by decide +kernel
theorem dX12_readsSteps_0 : decode cX12_readsSteps 0 = .ok (.aload_n 0, 1) := by decide +kernel
theorem dX12_readsSteps_1 : decode cX12_readsSteps 1 = .ok (.iconst 0, 1) := by decide +kernel
theorem dX12_readsSteps_2 : decode cX12_readsSteps 2 = .ok (.putfield 145, 3) := by decide +kernel
theorem dX12_readsSteps_5 : decode cX12_readsSteps 5 = .ok (.iconst 0, 1) := by decide +kernel
theorem dX12_readsSteps_6 : decode cX12_readsSteps 6 = .ok (.istore_n 1, 1) := by decide +kernel
theorem dX12_readsSteps_7 : decode cX12_readsSteps 7 = .ok (.iconst 0, 1) := by decide +kernel
theorem dX12_readsSteps_8 : decode cX12_readsSteps 8 = .ok (.istore_n 2, 1) := by decide +kernel
theorem dX12_readsSteps_9 : decode cX12_readsSteps 9 = .ok (.iload_n 2, 1) := by decide +kernel
theorem dX12_readsSteps_10 : decode cX12_readsSteps 10 = .ok (.aload_n 0, 1) := by decide +kernel
theorem dX12_readsSteps_11 : decode cX12_readsSteps 11 = .ok (.getfield 7, 3) := by decide +kernel
theorem dX12_readsSteps_14 : decode cX12_readsSteps 14 = .ok (.iconst 2, 1) := by decide +kernel
theorem dX12_readsSteps_15 : decode cX12_readsSteps 15 = .ok (.iaload, 1) := by decide +kernel
theorem dX12_readsSteps_16 : decode cX12_readsSteps 16 = .ok (.if_icmp .ge 87, 3) := by decide +kernel
theorem dX12_readsSteps_19 : decode cX12_readsSteps 19 = .ok (.aload_n 0, 1) := by decide +kernel
theorem dX12_readsSteps_20 : decode cX12_readsSteps 20 = .ok (.iconst 2, 1) := by decide +kernel
theorem dX12_readsSteps_21 : decode cX12_readsSteps 21 = .ok (.iload_n 2, 1) := by decide +kernel
theorem dX12_readsSteps_22 : decode cX12_readsSteps 22 = .ok (.invokevirtual 139, 3) := by decide +kernel
theorem dX12_readsSteps_25 : decode cX12_readsSteps 25 = .ok (.invokestatic 149, 3) := by decide +kernel
theorem dX12_readsSteps_28 : decode cX12_readsSteps 28 = .ok (.istore_n 3, 1) := by decide +kernel
theorem dX12_readsSteps_29 : decode cX12_readsSteps 29 = .ok (.iload_n 3, 1) := by decide +kernel
theorem dX12_readsSteps_30 : decode cX12_readsSteps 30 = .ok (.iconst (-1), 1) := by decide +kernel
theorem dX12_readsSteps_31 : decode cX12_readsSteps 31 = .ok (.if_icmp .ne 5, 3) := by decide +kernel
theorem dX12_readsSteps_34 : decode cX12_readsSteps 34 = .ok (.iload_n 2, 1) := by decide +kernel
theorem dX12_readsSteps_35 : decode cX12_readsSteps 35 = .ok (.ireturn, 1) := by decide +kernel
theorem dX12_readsSteps_36 : decode cX12_readsSteps 36 = .ok (.iinc 2 1, 3) := by decide +kernel
theorem dX12_readsSteps_39 : decode cX12_readsSteps 39 = .ok (.iload_n 3, 1) := by decide +kernel
theorem dX12_readsSteps_40 : decode cX12_readsSteps 40 = .ok (.bipush 7, 2) := by decide +kernel
theorem dX12_readsSteps_42 : decode cX12_readsSteps 42 = .ok (.if_icmp .ne 15, 3) := by decide +kernel
theorem dX12_readsSteps_45 : decode cX12_readsSteps 45 = .ok (.aload_n 0, 1) := by decide +kernel
theorem dX12_readsSteps_46 : decode cX12_readsSteps 46 = .ok (.iconst 2, 1) := by decide +kernel
theorem dX12_readsSteps_47 : decode cX12_readsSteps 47 = .ok (.iload_n 2, 1) := by decide +kernel
theorem dX12_readsSteps_48 : decode cX12_readsSteps 48 = .ok (.invokevirtual 139, 3) := by decide +kernel
theorem dX12_readsSteps_51 : decode cX12_readsSteps 51 = .ok (.bipush 48, 2) := by decide +kernel
theorem dX12_readsSteps_53 : decode cX12_readsSteps 53 = .ok (.isub, 1) := by decide +kernel
theorem dX12_readsSteps_54 : decode cX12_readsSteps 54 = .ok (.goto 4, 3) := by decide +kernel
theorem dX12_readsSteps_57 : decode cX12_readsSteps 57 = .ok (.iconst (-1), 1) := by decide +kernel
theorem dX12_readsSteps_58 : decode cX12_readsSteps 58 = .ok (.istore 4, 2) := by decide +kernel
theorem dX12_readsSteps_60 : decode cX12_readsSteps 60 = .ok (.iload_n 3, 1) := by decide +kernel
theorem dX12_readsSteps_61 : decode cX12_readsSteps 61 = .ok (.bipush 7, 2) := by decide +kernel
theorem dX12_readsSteps_63 : decode cX12_readsSteps 63 = .ok (.if_icmp .ne 19, 3) := by decide +kernel
theorem dX12_readsSteps_66 : decode cX12_readsSteps 66 = .ok (.iload 4, 2) := by decide +kernel
theorem dX12_readsSteps_68 : decode cX12_readsSteps 68 = .ok (.iconst 0, 1) := by decide +kernel
theorem dX12_readsSteps_69 : decode cX12_readsSteps 69 = .ok (.bipush 9, 2) := by decide +kernel
theorem dX12_readsSteps_71 : decode cX12_readsSteps 71 = .ok (.invokestatic 107, 3) := by decide +kernel
theorem dX12_readsSteps_74 : decode cX12_readsSteps 74 = .ok (.ifCond .ne 5, 3) := by decide +kernel
theorem dX12_readsSteps_77 : decode cX12_readsSteps 77 = .ok (.iload_n 2, 1) := by decide +kernel
theorem dX12_readsSteps_78 : decode cX12_readsSteps 78 = .ok (.ireturn, 1) := by decide +kernel
theorem dX12_readsSteps_79 : decode cX12_readsSteps 79 = .ok (.iinc 2 1, 3) := by decide +kernel
theorem dX12_readsSteps_82 : decode cX12_readsSteps 82 = .ok (.aload_n 0, 1) := by decide +kernel
theorem dX12_readsSteps_83 : decode cX12_readsSteps 83 = .ok (.getfield 28, 3) := by decide +kernel
theorem dX12_readsSteps_86 : decode cX12_readsSteps 86 = .ok (.iload_n 1, 1) := by decide +kernel
theorem dX12_readsSteps_87 : decode cX12_readsSteps 87 = .ok (.iload_n 3, 1) := by decide +kernel
theorem dX12_readsSteps_88 : decode cX12_readsSteps 88 = .ok (.iastore, 1) := by decide +kernel
theorem dX12_readsSteps_89 : decode cX12_readsSteps 89 = .ok (.aload_n 0, 1) := by decide +kernel
theorem dX12_readsSteps_90 : decode cX12_readsSteps 90 = .ok (.getfield 31, 3) := by decide +kernel
theorem dX12_readsSteps_93 : decode cX12_readsSteps 93 = .ok (.iload_n 1, 1) := by decide +kernel
theorem dX12_readsSteps_94 : decode cX12_readsSteps 94 = .ok (.iload 4, 2) := by decide +kernel
theorem dX12_readsSteps_96 : decode cX12_readsSteps 96 = .ok (.iastore, 1) := by decide +kernel
theorem dX12_readsSteps_97 : decode cX12_readsSteps 97 = .ok (.iinc 1 1, 3) := by decide +kernel
theorem dX12_readsSteps_100 : decode cX12_readsSteps 100 = .ok (.goto (-91), 3) := by decide +kernel
theorem dX12_readsSteps_103 : decode cX12_readsSteps 103 = .ok (.aload_n 0, 1) := by decide +kernel
theorem dX12_readsSteps_104 : decode cX12_readsSteps 104 = .ok (.iload_n 1, 1) := by decide +kernel
theorem dX12_readsSteps_105 : decode cX12_readsSteps 105 = .ok (.putfield 145, 3) := by decide +kernel
theorem dX12_readsSteps_108 : decode cX12_readsSteps 108 = .ok (.iconst (-1), 1) := by decide +kernel
theorem dX12_readsSteps_109 : decode cX12_readsSteps 109 = .ok (.ireturn, 1) := by decide +kernel
theorem dX12_reads_0 : decode cX12_reads 0 = .ok (.aload_n 0, 1) := by decide +kernel
theorem dX12_reads_1 : decode cX12_reads 1 = .ok (.getfield 16, 3) := by decide +kernel
theorem dX12_reads_4 : decode cX12_reads 4 = .ok (.iconst 0, 1) := by decide +kernel
theorem dX12_reads_5 : decode cX12_reads 5 = .ok (.aload_n 0, 1) := by decide +kernel
theorem dX12_reads_6 : decode cX12_reads 6 = .ok (.iconst 0, 1) := by decide +kernel
theorem dX12_reads_7 : decode cX12_reads 7 = .ok (.invokevirtual 152, 3) := by decide +kernel
theorem dX12_reads_10 : decode cX12_reads 10 = .ok (.iastore, 1) := by decide +kernel
theorem dX12_reads_11 : decode cX12_reads 11 = .ok (.aload_n 0, 1) := by decide +kernel
theorem dX12_reads_12 : decode cX12_reads 12 = .ok (.getfield 16, 3) := by decide +kernel
theorem dX12_reads_15 : decode cX12_reads 15 = .ok (.iconst 1, 1) := by decide +kernel
theorem dX12_reads_16 : decode cX12_reads 16 = .ok (.aload_n 0, 1) := by decide +kernel
theorem dX12_reads_17 : decode cX12_reads 17 = .ok (.iconst 1, 1) := by decide +kernel
theorem dX12_reads_18 : decode cX12_reads 18 = .ok (.invokevirtual 152, 3) := by decide +kernel
theorem dX12_reads_21 : decode cX12_reads 21 = .ok (.iastore, 1) := by decide +kernel
theorem dX12_reads_22 : decode cX12_reads 22 = .ok (.aload_n 0, 1) := by decide +kernel
theorem dX12_reads_23 : decode cX12_reads 23 = .ok (.getfield 16, 3) := by decide +kernel
theorem dX12_reads_26 : decode cX12_reads 26 = .ok (.iconst 2, 1) := by decide +kernel
theorem dX12_reads_27 : decode cX12_reads 27 = .ok (.aload_n 0, 1) := by decide +kernel
theorem dX12_reads_28 : decode cX12_reads 28 = .ok (.invokevirtual 155, 3) := by decide +kernel
theorem dX12_reads_31 : decode cX12_reads 31 = .ok (.iastore, 1) := by decide +kernel
theorem dX12_reads_32 : decode cX12_reads 32 = .ok (.return_, 1) := by decide +kernel
theorem dX12_faultOf_0 : decode cX12_faultOf 0 = .ok (.aload_n 0, 1) := by decide +kernel
theorem dX12_faultOf_1 : decode cX12_faultOf 1 = .ok (.invokevirtual 159, 3) := by decide +kernel
theorem dX12_faultOf_4 : decode cX12_faultOf 4 = .ok (.aload_n 0, 1) := by decide +kernel
theorem dX12_faultOf_5 : decode cX12_faultOf 5 = .ok (.getfield 16, 3) := by decide +kernel
theorem dX12_faultOf_8 : decode cX12_faultOf 8 = .ok (.iload_n 1, 1) := by decide +kernel
theorem dX12_faultOf_9 : decode cX12_faultOf 9 = .ok (.iaload, 1) := by decide +kernel
theorem dX12_faultOf_10 : decode cX12_faultOf 10 = .ok (.ireturn, 1) := by decide +kernel
theorem dX12_fault_0 : decode cX12_fault 0 = .ok (.iload_n 1, 1) := by decide +kernel
theorem dX12_fault_1 : decode cX12_fault 1 = .ok (.invokestatic 121, 3) := by decide +kernel
theorem dX12_fault_4 : decode cX12_fault 4 = .ok (.ifCond .eq 11, 3) := by decide +kernel
theorem dX12_fault_7 : decode cX12_fault 7 = .ok (.aload_n 0, 1) := by decide +kernel
theorem dX12_fault_8 : decode cX12_fault 8 = .ok (.iload_n 1, 1) := by decide +kernel
theorem dX12_fault_9 : decode cX12_fault 9 = .ok (.invokevirtual 162, 3) := by decide +kernel
theorem dX12_fault_12 : decode cX12_fault 12 = .ok (.goto 5, 3) := by decide +kernel
theorem dX12_fault_15 : decode cX12_fault 15 = .ok (.bipush (-2), 2) := by decide +kernel
theorem dX12_fault_17 : decode cX12_fault 17 = .ok (.ireturn, 1) := by decide +kernel
theorem dX12_rowOf_0 : decode cX12_rowOf 0 = .ok (.aload_n 0, 1) := by decide +kernel
theorem dX12_rowOf_1 : decode cX12_rowOf 1 = .ok (.invokevirtual 159, 3) := by decide +kernel
theorem dX12_rowOf_4 : decode cX12_rowOf 4 = .ok (.iload_n 2, 1) := by decide +kernel
theorem dX12_rowOf_5 : decode cX12_rowOf 5 = .ok (.aload_n 0, 1) := by decide +kernel
theorem dX12_rowOf_6 : decode cX12_rowOf 6 = .ok (.getfield 19, 3) := by decide +kernel
theorem dX12_rowOf_9 : decode cX12_rowOf 9 = .ok (.iload_n 1, 1) := by decide +kernel
theorem dX12_rowOf_10 : decode cX12_rowOf 10 = .ok (.iaload, 1) := by decide +kernel
theorem dX12_rowOf_11 : decode cX12_rowOf 11 = .ok (.if_icmp .lt 8, 3) := by decide +kernel
theorem dX12_rowOf_14 : decode cX12_rowOf 14 = .ok (.bipush (-2), 2) := by decide +kernel
theorem dX12_rowOf_16 : decode cX12_rowOf 16 = .ok (.goto 32, 3) := by decide +kernel
theorem dX12_rowOf_19 : decode cX12_rowOf 19 = .ok (.iload_n 3, 1) := by decide +kernel
theorem dX12_rowOf_20 : decode cX12_rowOf 20 = .ok (.ifCond .ne 17, 3) := by decide +kernel
theorem dX12_rowOf_23 : decode cX12_rowOf 23 = .ok (.aload_n 0, 1) := by decide +kernel
theorem dX12_rowOf_24 : decode cX12_rowOf 24 = .ok (.getfield 22, 3) := by decide +kernel
theorem dX12_rowOf_27 : decode cX12_rowOf 27 = .ok (.bipush 10, 2) := by decide +kernel
theorem dX12_rowOf_29 : decode cX12_rowOf 29 = .ok (.iload_n 1, 1) := by decide +kernel
theorem dX12_rowOf_30 : decode cX12_rowOf 30 = .ok (.imul, 1) := by decide +kernel
theorem dX12_rowOf_31 : decode cX12_rowOf 31 = .ok (.iload_n 2, 1) := by decide +kernel
theorem dX12_rowOf_32 : decode cX12_rowOf 32 = .ok (.iadd, 1) := by decide +kernel
theorem dX12_rowOf_33 : decode cX12_rowOf 33 = .ok (.iaload, 1) := by decide +kernel
theorem dX12_rowOf_34 : decode cX12_rowOf 34 = .ok (.goto 14, 3) := by decide +kernel
theorem dX12_rowOf_37 : decode cX12_rowOf 37 = .ok (.aload_n 0, 1) := by decide +kernel
theorem dX12_rowOf_38 : decode cX12_rowOf 38 = .ok (.getfield 25, 3) := by decide +kernel
theorem dX12_rowOf_41 : decode cX12_rowOf 41 = .ok (.bipush 10, 2) := by decide +kernel
theorem dX12_rowOf_43 : decode cX12_rowOf 43 = .ok (.iload_n 1, 1) := by decide +kernel
theorem dX12_rowOf_44 : decode cX12_rowOf 44 = .ok (.imul, 1) := by decide +kernel
theorem dX12_rowOf_45 : decode cX12_rowOf 45 = .ok (.iload_n 2, 1) := by decide +kernel
theorem dX12_rowOf_46 : decode cX12_rowOf 46 = .ok (.iadd, 1) := by decide +kernel
theorem dX12_rowOf_47 : decode cX12_rowOf 47 = .ok (.iaload, 1) := by decide +kernel
theorem dX12_rowOf_48 : decode cX12_rowOf 48 = .ok (.ireturn, 1) := by decide +kernel
theorem dX12_row_0 : decode cX12_row 0 = .ok (.iload_n 1, 1) := by decide +kernel
theorem dX12_row_1 : decode cX12_row 1 = .ok (.invokestatic 165, 3) := by decide +kernel
theorem dX12_row_4 : decode cX12_row 4 = .ok (.ifCond .eq 30, 3) := by decide +kernel
theorem dX12_row_7 : decode cX12_row 7 = .ok (.iload_n 2, 1) := by decide +kernel
theorem dX12_row_8 : decode cX12_row 8 = .ok (.iconst 0, 1) := by decide +kernel
theorem dX12_row_9 : decode cX12_row 9 = .ok (.bipush 9, 2) := by decide +kernel
theorem dX12_row_11 : decode cX12_row 11 = .ok (.invokestatic 107, 3) := by decide +kernel
theorem dX12_row_14 : decode cX12_row 14 = .ok (.ifCond .eq 20, 3) := by decide +kernel
theorem dX12_row_17 : decode cX12_row 17 = .ok (.iload_n 3, 1) := by decide +kernel
theorem dX12_row_18 : decode cX12_row 18 = .ok (.invokestatic 165, 3) := by decide +kernel
theorem dX12_row_21 : decode cX12_row 21 = .ok (.ifCond .eq 13, 3) := by decide +kernel
theorem dX12_row_24 : decode cX12_row 24 = .ok (.aload_n 0, 1) := by decide +kernel
theorem dX12_row_25 : decode cX12_row 25 = .ok (.iload_n 1, 1) := by decide +kernel
theorem dX12_row_26 : decode cX12_row 26 = .ok (.iload_n 2, 1) := by decide +kernel
theorem dX12_row_27 : decode cX12_row 27 = .ok (.iload_n 3, 1) := by decide +kernel
theorem dX12_row_28 : decode cX12_row 28 = .ok (.invokevirtual 168, 3) := by decide +kernel
theorem dX12_row_31 : decode cX12_row 31 = .ok (.goto 5, 3) := by decide +kernel
theorem dX12_row_34 : decode cX12_row 34 = .ok (.bipush (-2), 2) := by decide +kernel
theorem dX12_row_36 : decode cX12_row 36 = .ok (.ireturn, 1) := by decide +kernel
theorem dX12_stepOf_0 : decode cX12_stepOf 0 = .ok (.aload_n 0, 1) := by decide +kernel
theorem dX12_stepOf_1 : decode cX12_stepOf 1 = .ok (.invokevirtual 159, 3) := by decide +kernel
theorem dX12_stepOf_4 : decode cX12_stepOf 4 = .ok (.iload_n 1, 1) := by decide +kernel
theorem dX12_stepOf_5 : decode cX12_stepOf 5 = .ok (.aload_n 0, 1) := by decide +kernel
theorem dX12_stepOf_6 : decode cX12_stepOf 6 = .ok (.getfield 145, 3) := by decide +kernel
theorem dX12_stepOf_9 : decode cX12_stepOf 9 = .ok (.if_icmp .lt 8, 3) := by decide +kernel
theorem dX12_stepOf_12 : decode cX12_stepOf 12 = .ok (.bipush (-2), 2) := by decide +kernel
theorem dX12_stepOf_14 : decode cX12_stepOf 14 = .ok (.goto 22, 3) := by decide +kernel
theorem dX12_stepOf_17 : decode cX12_stepOf 17 = .ok (.iload_n 2, 1) := by decide +kernel
theorem dX12_stepOf_18 : decode cX12_stepOf 18 = .ok (.ifCond .ne 12, 3) := by decide +kernel
theorem dX12_stepOf_21 : decode cX12_stepOf 21 = .ok (.aload_n 0, 1) := by decide +kernel
theorem dX12_stepOf_22 : decode cX12_stepOf 22 = .ok (.getfield 28, 3) := by decide +kernel
theorem dX12_stepOf_25 : decode cX12_stepOf 25 = .ok (.iload_n 1, 1) := by decide +kernel
theorem dX12_stepOf_26 : decode cX12_stepOf 26 = .ok (.iaload, 1) := by decide +kernel
theorem dX12_stepOf_27 : decode cX12_stepOf 27 = .ok (.goto 9, 3) := by decide +kernel
theorem dX12_stepOf_30 : decode cX12_stepOf 30 = .ok (.aload_n 0, 1) := by decide +kernel
theorem dX12_stepOf_31 : decode cX12_stepOf 31 = .ok (.getfield 31, 3) := by decide +kernel
theorem dX12_stepOf_34 : decode cX12_stepOf 34 = .ok (.iload_n 1, 1) := by decide +kernel
theorem dX12_stepOf_35 : decode cX12_stepOf 35 = .ok (.iaload, 1) := by decide +kernel
theorem dX12_stepOf_36 : decode cX12_stepOf 36 = .ok (.ireturn, 1) := by decide +kernel
theorem dX12_step_0 : decode cX12_step 0 = .ok (.iload_n 1, 1) := by decide +kernel
theorem dX12_step_1 : decode cX12_step 1 = .ok (.iconst 0, 1) := by decide +kernel
theorem dX12_step_2 : decode cX12_step 2 = .ok (.bipush 11, 2) := by decide +kernel
theorem dX12_step_4 : decode cX12_step 4 = .ok (.invokestatic 107, 3) := by decide +kernel
theorem dX12_step_7 : decode cX12_step 7 = .ok (.ifCond .eq 19, 3) := by decide +kernel
theorem dX12_step_10 : decode cX12_step 10 = .ok (.iload_n 2, 1) := by decide +kernel
theorem dX12_step_11 : decode cX12_step 11 = .ok (.invokestatic 165, 3) := by decide +kernel
theorem dX12_step_14 : decode cX12_step 14 = .ok (.ifCond .eq 12, 3) := by decide +kernel
theorem dX12_step_17 : decode cX12_step 17 = .ok (.aload_n 0, 1) := by decide +kernel
theorem dX12_step_18 : decode cX12_step 18 = .ok (.iload_n 1, 1) := by decide +kernel
theorem dX12_step_19 : decode cX12_step 19 = .ok (.iload_n 2, 1) := by decide +kernel
theorem dX12_step_20 : decode cX12_step 20 = .ok (.invokevirtual 172, 3) := by decide +kernel
theorem dX12_step_23 : decode cX12_step 23 = .ok (.goto 5, 3) := by decide +kernel
theorem dX12_step_26 : decode cX12_step 26 = .ok (.bipush (-2), 2) := by decide +kernel
theorem dX12_step_28 : decode cX12_step 28 = .ok (.ireturn, 1) := by decide +kernel
theorem dX12_end_0 : decode cX12_end 0 = .ok (.iload_n 1, 1) := by decide +kernel
theorem dX12_end_1 : decode cX12_end 1 = .ok (.iconst 0, 1) := by decide +kernel
theorem dX12_end_2 : decode cX12_end 2 = .ok (.bipush 8, 2) := by decide +kernel
theorem dX12_end_4 : decode cX12_end 4 = .ok (.invokestatic 107, 3) := by decide +kernel
theorem dX12_end_7 : decode cX12_end 7 = .ok (.ifCond .ne 6, 3) := by decide +kernel
theorem dX12_end_10 : decode cX12_end 10 = .ok (.bipush (-2), 2) := by decide +kernel
theorem dX12_end_12 : decode cX12_end 12 = .ok (.ireturn, 1) := by decide +kernel
theorem dX12_end_13 : decode cX12_end 13 = .ok (.aload_n 0, 1) := by decide +kernel
theorem dX12_end_14 : decode cX12_end 14 = .ok (.getfield 175, 3) := by decide +kernel
theorem dX12_end_17 : decode cX12_end 17 = .ok (.istore_n 2, 1) := by decide +kernel
theorem dX12_end_18 : decode cX12_end 18 = .ok (.aload_n 0, 1) := by decide +kernel
theorem dX12_end_19 : decode cX12_end 19 = .ok (.iload_n 1, 1) := by decide +kernel
theorem dX12_end_20 : decode cX12_end 20 = .ok (.putfield 175, 3) := by decide +kernel
theorem dX12_end_23 : decode cX12_end 23 = .ok (.iload_n 2, 1) := by decide +kernel
theorem dX12_end_24 : decode cX12_end 24 = .ok (.ireturn, 1) := by decide +kernel
theorem dX12_logs_0 : decode cX12_logs 0 = .ok (.aload_n 0, 1) := by decide +kernel
theorem dX12_logs_1 : decode cX12_logs 1 = .ok (.getfield 43, 3) := by decide +kernel
theorem dX12_logs_4 : decode cX12_logs 4 = .ok (.iload_n 1, 1) := by decide +kernel
theorem dX12_logs_5 : decode cX12_logs 5 = .ok (.iaload, 1) := by decide +kernel
theorem dX12_logs_6 : decode cX12_logs 6 = .ok (.sipush 200, 3) := by decide +kernel
theorem dX12_logs_9 : decode cX12_logs 9 = .ok (.if_icmp .ge 31, 3) := by decide +kernel
theorem dX12_logs_12 : decode cX12_logs 12 = .ok (.aload_n 0, 1) := by decide +kernel
theorem dX12_logs_13 : decode cX12_logs 13 = .ok (.getfield 46, 3) := by decide +kernel
theorem dX12_logs_16 : decode cX12_logs 16 = .ok (.sipush 200, 3) := by decide +kernel
theorem dX12_logs_19 : decode cX12_logs 19 = .ok (.iload_n 1, 1) := by decide +kernel
theorem dX12_logs_20 : decode cX12_logs 20 = .ok (.imul, 1) := by decide +kernel
theorem dX12_logs_21 : decode cX12_logs 21 = .ok (.aload_n 0, 1) := by decide +kernel
theorem dX12_logs_22 : decode cX12_logs 22 = .ok (.getfield 43, 3) := by decide +kernel
theorem dX12_logs_25 : decode cX12_logs 25 = .ok (.iload_n 1, 1) := by decide +kernel
theorem dX12_logs_26 : decode cX12_logs 26 = .ok (.iaload, 1) := by decide +kernel
theorem dX12_logs_27 : decode cX12_logs 27 = .ok (.iadd, 1) := by decide +kernel
theorem dX12_logs_28 : decode cX12_logs 28 = .ok (.iload_n 2, 1) := by decide +kernel
theorem dX12_logs_29 : decode cX12_logs 29 = .ok (.iastore, 1) := by decide +kernel
theorem dX12_logs_30 : decode cX12_logs 30 = .ok (.aload_n 0, 1) := by decide +kernel
theorem dX12_logs_31 : decode cX12_logs 31 = .ok (.getfield 43, 3) := by decide +kernel
theorem dX12_logs_34 : decode cX12_logs 34 = .ok (.iload_n 1, 1) := by decide +kernel
theorem dX12_logs_35 : decode cX12_logs 35 = .ok (.dup2, 1) := by decide +kernel
theorem dX12_logs_36 : decode cX12_logs 36 = .ok (.iaload, 1) := by decide +kernel
theorem dX12_logs_37 : decode cX12_logs 37 = .ok (.iconst 1, 1) := by decide +kernel
theorem dX12_logs_38 : decode cX12_logs 38 = .ok (.iadd, 1) := by decide +kernel
theorem dX12_logs_39 : decode cX12_logs 39 = .ok (.iastore, 1) := by decide +kernel
theorem dX12_logs_40 : decode cX12_logs 40 = .ok (.return_, 1) := by decide +kernel
theorem dX12_puts_0 : decode cX12_puts 0 = .ok (.aload_n 0, 1) := by decide +kernel
theorem dX12_puts_1 : decode cX12_puts 1 = .ok (.getfield 58, 3) := by decide +kernel
theorem dX12_puts_4 : decode cX12_puts 4 = .ok (.aload_n 0, 1) := by decide +kernel
theorem dX12_puts_5 : decode cX12_puts 5 = .ok (.getfield 178, 3) := by decide +kernel
theorem dX12_puts_8 : decode cX12_puts 8 = .ok (.iload_n 1, 1) := by decide +kernel
theorem dX12_puts_9 : decode cX12_puts 9 = .ok (.iastore, 1) := by decide +kernel
theorem dX12_puts_10 : decode cX12_puts 10 = .ok (.aload_n 0, 1) := by decide +kernel
theorem dX12_puts_11 : decode cX12_puts 11 = .ok (.getfield 61, 3) := by decide +kernel
theorem dX12_puts_14 : decode cX12_puts 14 = .ok (.aload_n 0, 1) := by decide +kernel
theorem dX12_puts_15 : decode cX12_puts 15 = .ok (.getfield 178, 3) := by decide +kernel
theorem dX12_puts_18 : decode cX12_puts 18 = .ok (.iload_n 2, 1) := by decide +kernel
theorem dX12_puts_19 : decode cX12_puts 19 = .ok (.iastore, 1) := by decide +kernel
theorem dX12_puts_20 : decode cX12_puts 20 = .ok (.aload_n 0, 1) := by decide +kernel
theorem dX12_puts_21 : decode cX12_puts 21 = .ok (.getfield 64, 3) := by decide +kernel
theorem dX12_puts_24 : decode cX12_puts 24 = .ok (.aload_n 0, 1) := by decide +kernel
theorem dX12_puts_25 : decode cX12_puts 25 = .ok (.getfield 178, 3) := by decide +kernel
theorem dX12_puts_28 : decode cX12_puts 28 = .ok (.iload_n 3, 1) := by decide +kernel
theorem dX12_puts_29 : decode cX12_puts 29 = .ok (.iastore, 1) := by decide +kernel
theorem dX12_puts_30 : decode cX12_puts 30 = .ok (.aload_n 0, 1) := by decide +kernel
theorem dX12_puts_31 : decode cX12_puts 31 = .ok (.dup, 1) := by decide +kernel
theorem dX12_puts_32 : decode cX12_puts 32 = .ok (.getfield 178, 3) := by decide +kernel
theorem dX12_puts_35 : decode cX12_puts 35 = .ok (.iconst 1, 1) := by decide +kernel
theorem dX12_puts_36 : decode cX12_puts 36 = .ok (.iadd, 1) := by decide +kernel
theorem dX12_puts_37 : decode cX12_puts 37 = .ok (.putfield 178, 3) := by decide +kernel
theorem dX12_puts_40 : decode cX12_puts 40 = .ok (.return_, 1) := by decide +kernel
theorem dX12_comesIn_0 : decode cX12_comesIn 0 = .ok (.aload_n 0, 1) := by decide +kernel
theorem dX12_comesIn_1 : decode cX12_comesIn 1 = .ok (.aload_n 0, 1) := by decide +kernel
theorem dX12_comesIn_2 : decode cX12_comesIn 2 = .ok (.getfield 178, 3) := by decide +kernel
theorem dX12_comesIn_5 : decode cX12_comesIn 5 = .ok (.putfield 181, 3) := by decide +kernel
theorem dX12_comesIn_8 : decode cX12_comesIn 8 = .ok (.iconst 0, 1) := by decide +kernel
theorem dX12_comesIn_9 : decode cX12_comesIn 9 = .ok (.istore_n 1, 1) := by decide +kernel
theorem dX12_comesIn_10 : decode cX12_comesIn 10 = .ok (.iload_n 1, 1) := by decide +kernel
theorem dX12_comesIn_11 : decode cX12_comesIn 11 = .ok (.aload_n 0, 1) := by decide +kernel
theorem dX12_comesIn_12 : decode cX12_comesIn 12 = .ok (.getfield 181, 3) := by decide +kernel
theorem dX12_comesIn_15 : decode cX12_comesIn 15 = .ok (.if_icmp .ge 45, 3) := by decide +kernel
theorem dX12_comesIn_18 : decode cX12_comesIn 18 = .ok (.aload_n 0, 1) := by decide +kernel
theorem dX12_comesIn_19 : decode cX12_comesIn 19 = .ok (.getfield 49, 3) := by decide +kernel
theorem dX12_comesIn_22 : decode cX12_comesIn 22 = .ok (.iload_n 1, 1) := by decide +kernel
theorem dX12_comesIn_23 : decode cX12_comesIn 23 = .ok (.aload_n 0, 1) := by decide +kernel
theorem dX12_comesIn_24 : decode cX12_comesIn 24 = .ok (.getfield 58, 3) := by decide +kernel
theorem dX12_comesIn_27 : decode cX12_comesIn 27 = .ok (.iload_n 1, 1) := by decide +kernel
theorem dX12_comesIn_28 : decode cX12_comesIn 28 = .ok (.iaload, 1) := by decide +kernel
theorem dX12_comesIn_29 : decode cX12_comesIn 29 = .ok (.iastore, 1) := by decide +kernel
theorem dX12_comesIn_30 : decode cX12_comesIn 30 = .ok (.aload_n 0, 1) := by decide +kernel
theorem dX12_comesIn_31 : decode cX12_comesIn 31 = .ok (.getfield 52, 3) := by decide +kernel
theorem dX12_comesIn_34 : decode cX12_comesIn 34 = .ok (.iload_n 1, 1) := by decide +kernel
theorem dX12_comesIn_35 : decode cX12_comesIn 35 = .ok (.aload_n 0, 1) := by decide +kernel
theorem dX12_comesIn_36 : decode cX12_comesIn 36 = .ok (.getfield 61, 3) := by decide +kernel
theorem dX12_comesIn_39 : decode cX12_comesIn 39 = .ok (.iload_n 1, 1) := by decide +kernel
theorem dX12_comesIn_40 : decode cX12_comesIn 40 = .ok (.iaload, 1) := by decide +kernel
theorem dX12_comesIn_41 : decode cX12_comesIn 41 = .ok (.iastore, 1) := by decide +kernel
theorem dX12_comesIn_42 : decode cX12_comesIn 42 = .ok (.aload_n 0, 1) := by decide +kernel
theorem dX12_comesIn_43 : decode cX12_comesIn 43 = .ok (.getfield 55, 3) := by decide +kernel
theorem dX12_comesIn_46 : decode cX12_comesIn 46 = .ok (.iload_n 1, 1) := by decide +kernel
theorem dX12_comesIn_47 : decode cX12_comesIn 47 = .ok (.aload_n 0, 1) := by decide +kernel
theorem dX12_comesIn_48 : decode cX12_comesIn 48 = .ok (.getfield 64, 3) := by decide +kernel
theorem dX12_comesIn_51 : decode cX12_comesIn 51 = .ok (.iload_n 1, 1) := by decide +kernel
theorem dX12_comesIn_52 : decode cX12_comesIn 52 = .ok (.iaload, 1) := by decide +kernel
theorem dX12_comesIn_53 : decode cX12_comesIn 53 = .ok (.iastore, 1) := by decide +kernel
theorem dX12_comesIn_54 : decode cX12_comesIn 54 = .ok (.iinc 1 1, 3) := by decide +kernel
theorem dX12_comesIn_57 : decode cX12_comesIn 57 = .ok (.goto (-47), 3) := by decide +kernel
theorem dX12_comesIn_60 : decode cX12_comesIn 60 = .ok (.aload_n 0, 1) := by decide +kernel
theorem dX12_comesIn_61 : decode cX12_comesIn 61 = .ok (.iconst 0, 1) := by decide +kernel
theorem dX12_comesIn_62 : decode cX12_comesIn 62 = .ok (.putfield 178, 3) := by decide +kernel
theorem dX12_comesIn_65 : decode cX12_comesIn 65 = .ok (.return_, 1) := by decide +kernel
theorem dX12_comesOfInner_0 : decode cX12_comesOfInner 0 = .ok (.aload_n 0, 1) := by decide +kernel
theorem dX12_comesOfInner_1 : decode cX12_comesOfInner 1 = .ok (.aload_n 0, 1) := by decide +kernel
theorem dX12_comesOfInner_2 : decode cX12_comesOfInner 2 = .ok (.getfield 19, 3) := by decide +kernel
theorem dX12_comesOfInner_5 : decode cX12_comesOfInner 5 = .ok (.iconst 1, 1) := by decide +kernel
theorem dX12_comesOfInner_6 : decode cX12_comesOfInner 6 = .ok (.iaload, 1) := by decide +kernel
theorem dX12_comesOfInner_7 : decode cX12_comesOfInner 7 = .ok (.putfield 181, 3) := by decide +kernel
theorem dX12_comesOfInner_10 : decode cX12_comesOfInner 10 = .ok (.aload_n 0, 1) := by decide +kernel
theorem dX12_comesOfInner_11 : decode cX12_comesOfInner 11 = .ok (.iconst 0, 1) := by decide +kernel
theorem dX12_comesOfInner_12 : decode cX12_comesOfInner 12 = .ok (.putfield 178, 3) := by decide +kernel
theorem dX12_comesOfInner_15 : decode cX12_comesOfInner 15 = .ok (.iconst 0, 1) := by decide +kernel
theorem dX12_comesOfInner_16 : decode cX12_comesOfInner 16 = .ok (.istore_n 1, 1) := by decide +kernel
theorem dX12_comesOfInner_17 : decode cX12_comesOfInner 17 = .ok (.iload_n 1, 1) := by decide +kernel
theorem dX12_comesOfInner_18 : decode cX12_comesOfInner 18 = .ok (.aload_n 0, 1) := by decide +kernel
theorem dX12_comesOfInner_19 : decode cX12_comesOfInner 19 = .ok (.getfield 181, 3) := by decide +kernel
theorem dX12_comesOfInner_22 : decode cX12_comesOfInner 22 = .ok (.if_icmp .ge 46, 3) := by decide +kernel
theorem dX12_comesOfInner_25 : decode cX12_comesOfInner 25 = .ok (.aload_n 0, 1) := by decide +kernel
theorem dX12_comesOfInner_26 : decode cX12_comesOfInner 26 = .ok (.getfield 49, 3) := by decide +kernel
theorem dX12_comesOfInner_29 : decode cX12_comesOfInner 29 = .ok (.iload_n 1, 1) := by decide +kernel
theorem dX12_comesOfInner_30 : decode cX12_comesOfInner 30 = .ok (.aload_n 0, 1) := by decide +kernel
theorem dX12_comesOfInner_31 : decode cX12_comesOfInner 31 = .ok (.getfield 22, 3) := by decide +kernel
theorem dX12_comesOfInner_34 : decode cX12_comesOfInner 34 = .ok (.bipush 10, 2) := by decide +kernel
theorem dX12_comesOfInner_36 : decode cX12_comesOfInner 36 = .ok (.iload_n 1, 1) := by decide +kernel
theorem dX12_comesOfInner_37 : decode cX12_comesOfInner 37 = .ok (.iadd, 1) := by decide +kernel
theorem dX12_comesOfInner_38 : decode cX12_comesOfInner 38 = .ok (.iaload, 1) := by decide +kernel
theorem dX12_comesOfInner_39 : decode cX12_comesOfInner 39 = .ok (.iastore, 1) := by decide +kernel
theorem dX12_comesOfInner_40 : decode cX12_comesOfInner 40 = .ok (.aload_n 0, 1) := by decide +kernel
theorem dX12_comesOfInner_41 : decode cX12_comesOfInner 41 = .ok (.getfield 52, 3) := by decide +kernel
theorem dX12_comesOfInner_44 : decode cX12_comesOfInner 44 = .ok (.iload_n 1, 1) := by decide +kernel
theorem dX12_comesOfInner_45 : decode cX12_comesOfInner 45 = .ok (.aload_n 0, 1) := by decide +kernel
theorem dX12_comesOfInner_46 : decode cX12_comesOfInner 46 = .ok (.getfield 25, 3) := by decide +kernel
theorem dX12_comesOfInner_49 : decode cX12_comesOfInner 49 = .ok (.bipush 10, 2) := by decide +kernel
theorem dX12_comesOfInner_51 : decode cX12_comesOfInner 51 = .ok (.iload_n 1, 1) := by decide +kernel
theorem dX12_comesOfInner_52 : decode cX12_comesOfInner 52 = .ok (.iadd, 1) := by decide +kernel
theorem dX12_comesOfInner_53 : decode cX12_comesOfInner 53 = .ok (.iaload, 1) := by decide +kernel
theorem dX12_comesOfInner_54 : decode cX12_comesOfInner 54 = .ok (.iastore, 1) := by decide +kernel
theorem dX12_comesOfInner_55 : decode cX12_comesOfInner 55 = .ok (.aload_n 0, 1) := by decide +kernel
theorem dX12_comesOfInner_56 : decode cX12_comesOfInner 56 = .ok (.getfield 55, 3) := by decide +kernel
theorem dX12_comesOfInner_59 : decode cX12_comesOfInner 59 = .ok (.iload_n 1, 1) := by decide +kernel
theorem dX12_comesOfInner_60 : decode cX12_comesOfInner 60 = .ok (.iconst (-1), 1) := by decide +kernel
theorem dX12_comesOfInner_61 : decode cX12_comesOfInner 61 = .ok (.iastore, 1) := by decide +kernel
theorem dX12_comesOfInner_62 : decode cX12_comesOfInner 62 = .ok (.iinc 1 1, 3) := by decide +kernel
theorem dX12_comesOfInner_65 : decode cX12_comesOfInner 65 = .ok (.goto (-48), 3) := by decide +kernel
theorem dX12_comesOfInner_68 : decode cX12_comesOfInner 68 = .ok (.return_, 1) := by decide +kernel
theorem dX12_stays_0 : decode cX12_stays 0 = .ok (.iload_n 2, 1) := by decide +kernel
theorem dX12_stays_1 : decode cX12_stays 1 = .ok (.iconst (-1), 1) := by decide +kernel
theorem dX12_stays_2 : decode cX12_stays 2 = .ok (.if_icmp .eq 13, 3) := by decide +kernel
theorem dX12_stays_5 : decode cX12_stays 5 = .ok (.iload 4, 2) := by decide +kernel
theorem dX12_stays_7 : decode cX12_stays 7 = .ok (.iconst (-1), 1) := by decide +kernel
theorem dX12_stays_8 : decode cX12_stays 8 = .ok (.if_icmp .eq 7, 3) := by decide +kernel
theorem dX12_stays_11 : decode cX12_stays 11 = .ok (.iconst 1, 1) := by decide +kernel
theorem dX12_stays_12 : decode cX12_stays 12 = .ok (.goto 4, 3) := by decide +kernel
theorem dX12_stays_15 : decode cX12_stays 15 = .ok (.iconst 0, 1) := by decide +kernel
theorem dX12_stays_16 : decode cX12_stays 16 = .ok (.istore 5, 2) := by decide +kernel
theorem dX12_stays_18 : decode cX12_stays 18 = .ok (.iload_n 0, 1) := by decide +kernel
theorem dX12_stays_19 : decode cX12_stays 19 = .ok (.tableswitch 114 1 7 #[41, 59, 77, 114, 114, 114, 97], 41) := by decide +kernel
theorem dX12_stays_60 : decode cX12_stays 60 = .ok (.iload 5, 2) := by decide +kernel
theorem dX12_stays_62 : decode cX12_stays 62 = .ok (.ifCond .eq 13, 3) := by decide +kernel
theorem dX12_stays_65 : decode cX12_stays 65 = .ok (.iload_n 2, 1) := by decide +kernel
theorem dX12_stays_66 : decode cX12_stays 66 = .ok (.iload 4, 2) := by decide +kernel
theorem dX12_stays_68 : decode cX12_stays 68 = .ok (.if_icmp .ne 7, 3) := by decide +kernel
theorem dX12_stays_71 : decode cX12_stays 71 = .ok (.iload_n 3, 1) := by decide +kernel
theorem dX12_stays_72 : decode cX12_stays 72 = .ok (.goto 5, 3) := by decide +kernel
theorem dX12_stays_75 : decode cX12_stays 75 = .ok (.bipush (-2), 2) := by decide +kernel
theorem dX12_stays_77 : decode cX12_stays 77 = .ok (.ireturn, 1) := by decide +kernel
theorem dX12_stays_78 : decode cX12_stays 78 = .ok (.iload 5, 2) := by decide +kernel
theorem dX12_stays_80 : decode cX12_stays 80 = .ok (.ifCond .eq 13, 3) := by decide +kernel
theorem dX12_stays_83 : decode cX12_stays 83 = .ok (.iload_n 2, 1) := by decide +kernel
theorem dX12_stays_84 : decode cX12_stays 84 = .ok (.iload 4, 2) := by decide +kernel
theorem dX12_stays_86 : decode cX12_stays 86 = .ok (.if_icmp .ge 7, 3) := by decide +kernel
theorem dX12_stays_89 : decode cX12_stays 89 = .ok (.iload_n 3, 1) := by decide +kernel
theorem dX12_stays_90 : decode cX12_stays 90 = .ok (.goto 5, 3) := by decide +kernel
theorem dX12_stays_93 : decode cX12_stays 93 = .ok (.bipush (-2), 2) := by decide +kernel
theorem dX12_stays_95 : decode cX12_stays 95 = .ok (.ireturn, 1) := by decide +kernel
theorem dX12_stays_96 : decode cX12_stays 96 = .ok (.iload_n 3, 1) := by decide +kernel
theorem dX12_stays_97 : decode cX12_stays 97 = .ok (.iconst (-1), 1) := by decide +kernel
theorem dX12_stays_98 : decode cX12_stays 98 = .ok (.if_icmp .eq 16, 3) := by decide +kernel
theorem dX12_stays_101 : decode cX12_stays 101 = .ok (.iload 4, 2) := by decide +kernel
theorem dX12_stays_103 : decode cX12_stays 103 = .ok (.iconst (-1), 1) := by decide +kernel
theorem dX12_stays_104 : decode cX12_stays 104 = .ok (.if_icmp .eq 10, 3) := by decide +kernel
theorem dX12_stays_107 : decode cX12_stays 107 = .ok (.iload_n 3, 1) := by decide +kernel
theorem dX12_stays_108 : decode cX12_stays 108 = .ok (.iload 4, 2) := by decide +kernel
theorem dX12_stays_110 : decode cX12_stays 110 = .ok (.iadd, 1) := by decide +kernel
theorem dX12_stays_111 : decode cX12_stays 111 = .ok (.goto 4, 3) := by decide +kernel
theorem dX12_stays_114 : decode cX12_stays 114 = .ok (.iconst (-1), 1) := by decide +kernel
theorem dX12_stays_115 : decode cX12_stays 115 = .ok (.ireturn, 1) := by decide +kernel
theorem dX12_stays_116 : decode cX12_stays 116 = .ok (.iload_n 3, 1) := by decide +kernel
theorem dX12_stays_117 : decode cX12_stays 117 = .ok (.iconst (-1), 1) := by decide +kernel
theorem dX12_stays_118 : decode cX12_stays 118 = .ok (.if_icmp .eq 12, 3) := by decide +kernel
theorem dX12_stays_121 : decode cX12_stays 121 = .ok (.iload_n 3, 1) := by decide +kernel
theorem dX12_stays_122 : decode cX12_stays 122 = .ok (.iload_n 1, 1) := by decide +kernel
theorem dX12_stays_123 : decode cX12_stays 123 = .ok (.if_icmp .lt 7, 3) := by decide +kernel
theorem dX12_stays_126 : decode cX12_stays 126 = .ok (.iload_n 3, 1) := by decide +kernel
theorem dX12_stays_127 : decode cX12_stays 127 = .ok (.goto 5, 3) := by decide +kernel
theorem dX12_stays_130 : decode cX12_stays 130 = .ok (.bipush (-2), 2) := by decide +kernel
theorem dX12_stays_132 : decode cX12_stays 132 = .ok (.ireturn, 1) := by decide +kernel
theorem dX12_stays_133 : decode cX12_stays 133 = .ok (.iload_n 3, 1) := by decide +kernel
theorem dX12_stays_134 : decode cX12_stays 134 = .ok (.ireturn, 1) := by decide +kernel
theorem dX12_groups_0 : decode cX12_groups 0 = .ok (.aload_n 0, 1) := by decide +kernel
theorem dX12_groups_1 : decode cX12_groups 1 = .ok (.iconst 0, 1) := by decide +kernel
theorem dX12_groups_2 : decode cX12_groups 2 = .ok (.putfield 181, 3) := by decide +kernel
theorem dX12_groups_5 : decode cX12_groups 5 = .ok (.iconst 0, 1) := by decide +kernel
theorem dX12_groups_6 : decode cX12_groups 6 = .ok (.istore_n 1, 1) := by decide +kernel
theorem dX12_groups_7 : decode cX12_groups 7 = .ok (.iload_n 1, 1) := by decide +kernel
theorem dX12_groups_8 : decode cX12_groups 8 = .ok (.aload_n 0, 1) := by decide +kernel
theorem dX12_groups_9 : decode cX12_groups 9 = .ok (.getfield 178, 3) := by decide +kernel
theorem dX12_groups_12 : decode cX12_groups 12 = .ok (.if_icmp .ge 114, 3) := by decide +kernel
theorem dX12_groups_15 : decode cX12_groups 15 = .ok (.iconst 0, 1) := by decide +kernel
theorem dX12_groups_16 : decode cX12_groups 16 = .ok (.istore_n 2, 1) := by decide +kernel
theorem dX12_groups_17 : decode cX12_groups 17 = .ok (.iload_n 2, 1) := by decide +kernel
theorem dX12_groups_18 : decode cX12_groups 18 = .ok (.aload_n 0, 1) := by decide +kernel
theorem dX12_groups_19 : decode cX12_groups 19 = .ok (.getfield 181, 3) := by decide +kernel
theorem dX12_groups_22 : decode cX12_groups 22 = .ok (.if_icmp .ge 39, 3) := by decide +kernel
theorem dX12_groups_25 : decode cX12_groups 25 = .ok (.aload_n 0, 1) := by decide +kernel
theorem dX12_groups_26 : decode cX12_groups 26 = .ok (.getfield 49, 3) := by decide +kernel
theorem dX12_groups_29 : decode cX12_groups 29 = .ok (.iload_n 2, 1) := by decide +kernel
theorem dX12_groups_30 : decode cX12_groups 30 = .ok (.iaload, 1) := by decide +kernel
theorem dX12_groups_31 : decode cX12_groups 31 = .ok (.aload_n 0, 1) := by decide +kernel
theorem dX12_groups_32 : decode cX12_groups 32 = .ok (.getfield 58, 3) := by decide +kernel
theorem dX12_groups_35 : decode cX12_groups 35 = .ok (.iload_n 1, 1) := by decide +kernel
theorem dX12_groups_36 : decode cX12_groups 36 = .ok (.iaload, 1) := by decide +kernel
theorem dX12_groups_37 : decode cX12_groups 37 = .ok (.if_icmp .ne 18, 3) := by decide +kernel
theorem dX12_groups_40 : decode cX12_groups 40 = .ok (.aload_n 0, 1) := by decide +kernel
theorem dX12_groups_41 : decode cX12_groups 41 = .ok (.getfield 55, 3) := by decide +kernel
theorem dX12_groups_44 : decode cX12_groups 44 = .ok (.iload_n 2, 1) := by decide +kernel
theorem dX12_groups_45 : decode cX12_groups 45 = .ok (.iaload, 1) := by decide +kernel
theorem dX12_groups_46 : decode cX12_groups 46 = .ok (.aload_n 0, 1) := by decide +kernel
theorem dX12_groups_47 : decode cX12_groups 47 = .ok (.getfield 64, 3) := by decide +kernel
theorem dX12_groups_50 : decode cX12_groups 50 = .ok (.iload_n 1, 1) := by decide +kernel
theorem dX12_groups_51 : decode cX12_groups 51 = .ok (.iaload, 1) := by decide +kernel
theorem dX12_groups_52 : decode cX12_groups 52 = .ok (.if_icmp .eq 9, 3) := by decide +kernel
theorem dX12_groups_55 : decode cX12_groups 55 = .ok (.iinc 2 1, 3) := by decide +kernel
theorem dX12_groups_58 : decode cX12_groups 58 = .ok (.goto (-41), 3) := by decide +kernel
theorem dX12_groups_61 : decode cX12_groups 61 = .ok (.iload_n 2, 1) := by decide +kernel
theorem dX12_groups_62 : decode cX12_groups 62 = .ok (.aload_n 0, 1) := by decide +kernel
theorem dX12_groups_63 : decode cX12_groups 63 = .ok (.getfield 181, 3) := by decide +kernel
theorem dX12_groups_66 : decode cX12_groups 66 = .ok (.if_icmp .ne 44, 3) := by decide +kernel
theorem dX12_groups_69 : decode cX12_groups 69 = .ok (.aload_n 0, 1) := by decide +kernel
theorem dX12_groups_70 : decode cX12_groups 70 = .ok (.getfield 49, 3) := by decide +kernel
theorem dX12_groups_73 : decode cX12_groups 73 = .ok (.iload_n 2, 1) := by decide +kernel
theorem dX12_groups_74 : decode cX12_groups 74 = .ok (.aload_n 0, 1) := by decide +kernel
theorem dX12_groups_75 : decode cX12_groups 75 = .ok (.getfield 58, 3) := by decide +kernel
theorem dX12_groups_78 : decode cX12_groups 78 = .ok (.iload_n 1, 1) := by decide +kernel
theorem dX12_groups_79 : decode cX12_groups 79 = .ok (.iaload, 1) := by decide +kernel
theorem dX12_groups_80 : decode cX12_groups 80 = .ok (.iastore, 1) := by decide +kernel
theorem dX12_groups_81 : decode cX12_groups 81 = .ok (.aload_n 0, 1) := by decide +kernel
theorem dX12_groups_82 : decode cX12_groups 82 = .ok (.getfield 55, 3) := by decide +kernel
theorem dX12_groups_85 : decode cX12_groups 85 = .ok (.iload_n 2, 1) := by decide +kernel
theorem dX12_groups_86 : decode cX12_groups 86 = .ok (.aload_n 0, 1) := by decide +kernel
theorem dX12_groups_87 : decode cX12_groups 87 = .ok (.getfield 64, 3) := by decide +kernel
theorem dX12_groups_90 : decode cX12_groups 90 = .ok (.iload_n 1, 1) := by decide +kernel
theorem dX12_groups_91 : decode cX12_groups 91 = .ok (.iaload, 1) := by decide +kernel
theorem dX12_groups_92 : decode cX12_groups 92 = .ok (.iastore, 1) := by decide +kernel
theorem dX12_groups_93 : decode cX12_groups 93 = .ok (.aload_n 0, 1) := by decide +kernel
theorem dX12_groups_94 : decode cX12_groups 94 = .ok (.getfield 52, 3) := by decide +kernel
theorem dX12_groups_97 : decode cX12_groups 97 = .ok (.iload_n 2, 1) := by decide +kernel
theorem dX12_groups_98 : decode cX12_groups 98 = .ok (.iconst 0, 1) := by decide +kernel
theorem dX12_groups_99 : decode cX12_groups 99 = .ok (.iastore, 1) := by decide +kernel
theorem dX12_groups_100 : decode cX12_groups 100 = .ok (.aload_n 0, 1) := by decide +kernel
theorem dX12_groups_101 : decode cX12_groups 101 = .ok (.dup, 1) := by decide +kernel
theorem dX12_groups_102 : decode cX12_groups 102 = .ok (.getfield 181, 3) := by decide +kernel
theorem dX12_groups_105 : decode cX12_groups 105 = .ok (.iconst 1, 1) := by decide +kernel
theorem dX12_groups_106 : decode cX12_groups 106 = .ok (.iadd, 1) := by decide +kernel
theorem dX12_groups_107 : decode cX12_groups 107 = .ok (.putfield 181, 3) := by decide +kernel
theorem dX12_groups_110 : decode cX12_groups 110 = .ok (.aload_n 0, 1) := by decide +kernel
theorem dX12_groups_111 : decode cX12_groups 111 = .ok (.getfield 52, 3) := by decide +kernel
theorem dX12_groups_114 : decode cX12_groups 114 = .ok (.iload_n 2, 1) := by decide +kernel
theorem dX12_groups_115 : decode cX12_groups 115 = .ok (.dup2, 1) := by decide +kernel
theorem dX12_groups_116 : decode cX12_groups 116 = .ok (.iaload, 1) := by decide +kernel
theorem dX12_groups_117 : decode cX12_groups 117 = .ok (.iconst 1, 1) := by decide +kernel
theorem dX12_groups_118 : decode cX12_groups 118 = .ok (.iadd, 1) := by decide +kernel
theorem dX12_groups_119 : decode cX12_groups 119 = .ok (.iastore, 1) := by decide +kernel
theorem dX12_groups_120 : decode cX12_groups 120 = .ok (.iinc 1 1, 3) := by decide +kernel
theorem dX12_groups_123 : decode cX12_groups 123 = .ok (.goto (-116), 3) := by decide +kernel
theorem dX12_groups_126 : decode cX12_groups 126 = .ok (.aload_n 0, 1) := by decide +kernel
theorem dX12_groups_127 : decode cX12_groups 127 = .ok (.iconst 0, 1) := by decide +kernel
theorem dX12_groups_128 : decode cX12_groups 128 = .ok (.putfield 178, 3) := by decide +kernel
theorem dX12_groups_131 : decode cX12_groups 131 = .ok (.return_, 1) := by decide +kernel
theorem dX12_answerOf_0 : decode cX12_answerOf 0 = .ok (.iconst 0, 1) := by decide +kernel
theorem dX12_answerOf_1 : decode cX12_answerOf 1 = .ok (.istore_n 3, 1) := by decide +kernel
theorem dX12_answerOf_2 : decode cX12_answerOf 2 = .ok (.iconst 0, 1) := by decide +kernel
theorem dX12_answerOf_3 : decode cX12_answerOf 3 = .ok (.istore 4, 2) := by decide +kernel
theorem dX12_answerOf_5 : decode cX12_answerOf 5 = .ok (.iconst 0, 1) := by decide +kernel
theorem dX12_answerOf_6 : decode cX12_answerOf 6 = .ok (.istore 5, 2) := by decide +kernel
theorem dX12_answerOf_8 : decode cX12_answerOf 8 = .ok (.iconst (-1), 1) := by decide +kernel
theorem dX12_answerOf_9 : decode cX12_answerOf 9 = .ok (.istore 6, 2) := by decide +kernel
theorem dX12_answerOf_11 : decode cX12_answerOf 11 = .ok (.iconst (-1), 1) := by decide +kernel
theorem dX12_answerOf_12 : decode cX12_answerOf 12 = .ok (.istore 7, 2) := by decide +kernel
theorem dX12_answerOf_14 : decode cX12_answerOf 14 = .ok (.iconst (-1), 1) := by decide +kernel
theorem dX12_answerOf_15 : decode cX12_answerOf 15 = .ok (.istore 8, 2) := by decide +kernel
theorem dX12_answerOf_17 : decode cX12_answerOf 17 = .ok (.iconst 0, 1) := by decide +kernel
theorem dX12_answerOf_18 : decode cX12_answerOf 18 = .ok (.istore 9, 2) := by decide +kernel
theorem dX12_answerOf_20 : decode cX12_answerOf 20 = .ok (.iconst 0, 1) := by decide +kernel
theorem dX12_answerOf_21 : decode cX12_answerOf 21 = .ok (.istore 10, 2) := by decide +kernel
theorem dX12_answerOf_23 : decode cX12_answerOf 23 = .ok (.iload 10, 2) := by decide +kernel
theorem dX12_answerOf_25 : decode cX12_answerOf 25 = .ok (.aload_n 0, 1) := by decide +kernel
theorem dX12_answerOf_26 : decode cX12_answerOf 26 = .ok (.getfield 178, 3) := by decide +kernel
theorem dX12_answerOf_29 : decode cX12_answerOf 29 = .ok (.if_icmp .ge 135, 3) := by decide +kernel
theorem dX12_answerOf_32 : decode cX12_answerOf 32 = .ok (.aload_n 0, 1) := by decide +kernel
theorem dX12_answerOf_33 : decode cX12_answerOf 33 = .ok (.getfield 64, 3) := by decide +kernel
theorem dX12_answerOf_36 : decode cX12_answerOf 36 = .ok (.iload 10, 2) := by decide +kernel
theorem dX12_answerOf_38 : decode cX12_answerOf 38 = .ok (.iaload, 1) := by decide +kernel
theorem dX12_answerOf_39 : decode cX12_answerOf 39 = .ok (.iload_n 1, 1) := by decide +kernel
theorem dX12_answerOf_40 : decode cX12_answerOf 40 = .ok (.if_icmp .ne 118, 3) := by decide +kernel
theorem dX12_answerOf_43 : decode cX12_answerOf 43 = .ok (.aload_n 0, 1) := by decide +kernel
theorem dX12_answerOf_44 : decode cX12_answerOf 44 = .ok (.getfield 61, 3) := by decide +kernel
theorem dX12_answerOf_47 : decode cX12_answerOf 47 = .ok (.iload 10, 2) := by decide +kernel
theorem dX12_answerOf_49 : decode cX12_answerOf 49 = .ok (.iaload, 1) := by decide +kernel
theorem dX12_answerOf_50 : decode cX12_answerOf 50 = .ok (.istore 11, 2) := by decide +kernel
theorem dX12_answerOf_52 : decode cX12_answerOf 52 = .ok (.iinc 3 1, 3) := by decide +kernel
theorem dX12_answerOf_55 : decode cX12_answerOf 55 = .ok (.iload 11, 2) := by decide +kernel
theorem dX12_answerOf_57 : decode cX12_answerOf 57 = .ok (.istore 8, 2) := by decide +kernel
theorem dX12_answerOf_59 : decode cX12_answerOf 59 = .ok (.iload 4, 2) := by decide +kernel
theorem dX12_answerOf_61 : decode cX12_answerOf 61 = .ok (.iload 11, 2) := by decide +kernel
theorem dX12_answerOf_63 : decode cX12_answerOf 63 = .ok (.iconst (-1), 1) := by decide +kernel
theorem dX12_answerOf_64 : decode cX12_answerOf 64 = .ok (.if_icmp .ne 7, 3) := by decide +kernel
theorem dX12_answerOf_67 : decode cX12_answerOf 67 = .ok (.iconst 0, 1) := by decide +kernel
theorem dX12_answerOf_68 : decode cX12_answerOf 68 = .ok (.goto 4, 3) := by decide +kernel
theorem dX12_answerOf_71 : decode cX12_answerOf 71 = .ok (.iconst 1, 1) := by decide +kernel
theorem dX12_answerOf_72 : decode cX12_answerOf 72 = .ok (.iadd, 1) := by decide +kernel
theorem dX12_answerOf_73 : decode cX12_answerOf 73 = .ok (.istore 4, 2) := by decide +kernel
theorem dX12_answerOf_75 : decode cX12_answerOf 75 = .ok (.iload 5, 2) := by decide +kernel
theorem dX12_answerOf_77 : decode cX12_answerOf 77 = .ok (.iload 11, 2) := by decide +kernel
theorem dX12_answerOf_79 : decode cX12_answerOf 79 = .ok (.iconst (-1), 1) := by decide +kernel
theorem dX12_answerOf_80 : decode cX12_answerOf 80 = .ok (.if_icmp .ne 7, 3) := by decide +kernel
theorem dX12_answerOf_83 : decode cX12_answerOf 83 = .ok (.iconst 0, 1) := by decide +kernel
theorem dX12_answerOf_84 : decode cX12_answerOf 84 = .ok (.goto 5, 3) := by decide +kernel
theorem dX12_answerOf_87 : decode cX12_answerOf 87 = .ok (.iload 11, 2) := by decide +kernel
theorem dX12_answerOf_89 : decode cX12_answerOf 89 = .ok (.iadd, 1) := by decide +kernel
theorem dX12_answerOf_90 : decode cX12_answerOf 90 = .ok (.istore 5, 2) := by decide +kernel
theorem dX12_answerOf_92 : decode cX12_answerOf 92 = .ok (.iload 11, 2) := by decide +kernel
theorem dX12_answerOf_94 : decode cX12_answerOf 94 = .ok (.iconst (-1), 1) := by decide +kernel
theorem dX12_answerOf_95 : decode cX12_answerOf 95 = .ok (.if_icmp .eq 21, 3) := by decide +kernel
theorem dX12_answerOf_98 : decode cX12_answerOf 98 = .ok (.iload 6, 2) := by decide +kernel
theorem dX12_answerOf_100 : decode cX12_answerOf 100 = .ok (.iconst (-1), 1) := by decide +kernel
theorem dX12_answerOf_101 : decode cX12_answerOf 101 = .ok (.if_icmp .eq 10, 3) := by decide +kernel
theorem dX12_answerOf_104 : decode cX12_answerOf 104 = .ok (.iload 11, 2) := by decide +kernel
theorem dX12_answerOf_106 : decode cX12_answerOf 106 = .ok (.iload 6, 2) := by decide +kernel
theorem dX12_answerOf_108 : decode cX12_answerOf 108 = .ok (.if_icmp .ge 8, 3) := by decide +kernel
theorem dX12_answerOf_111 : decode cX12_answerOf 111 = .ok (.iload 11, 2) := by decide +kernel
theorem dX12_answerOf_113 : decode cX12_answerOf 113 = .ok (.goto 5, 3) := by decide +kernel
theorem dX12_answerOf_116 : decode cX12_answerOf 116 = .ok (.iload 6, 2) := by decide +kernel
theorem dX12_answerOf_118 : decode cX12_answerOf 118 = .ok (.istore 6, 2) := by decide +kernel
theorem dX12_answerOf_120 : decode cX12_answerOf 120 = .ok (.iload 11, 2) := by decide +kernel
theorem dX12_answerOf_122 : decode cX12_answerOf 122 = .ok (.iload 7, 2) := by decide +kernel
theorem dX12_answerOf_124 : decode cX12_answerOf 124 = .ok (.if_icmp .le 8, 3) := by decide +kernel
theorem dX12_answerOf_127 : decode cX12_answerOf 127 = .ok (.iload 11, 2) := by decide +kernel
theorem dX12_answerOf_129 : decode cX12_answerOf 129 = .ok (.goto 5, 3) := by decide +kernel
theorem dX12_answerOf_132 : decode cX12_answerOf 132 = .ok (.iload 7, 2) := by decide +kernel
theorem dX12_answerOf_134 : decode cX12_answerOf 134 = .ok (.istore 7, 2) := by decide +kernel
theorem dX12_answerOf_136 : decode cX12_answerOf 136 = .ok (.iload 9, 2) := by decide +kernel
theorem dX12_answerOf_138 : decode cX12_answerOf 138 = .ok (.iload 11, 2) := by decide +kernel
theorem dX12_answerOf_140 : decode cX12_answerOf 140 = .ok (.iconst (-1), 1) := by decide +kernel
theorem dX12_answerOf_141 : decode cX12_answerOf 141 = .ok (.if_icmp .eq 13, 3) := by decide +kernel
theorem dX12_answerOf_144 : decode cX12_answerOf 144 = .ok (.iload 11, 2) := by decide +kernel
theorem dX12_answerOf_146 : decode cX12_answerOf 146 = .ok (.iload_n 2, 1) := by decide +kernel
theorem dX12_answerOf_147 : decode cX12_answerOf 147 = .ok (.if_icmp .ne 7, 3) := by decide +kernel
theorem dX12_answerOf_150 : decode cX12_answerOf 150 = .ok (.iconst 1, 1) := by decide +kernel
theorem dX12_answerOf_151 : decode cX12_answerOf 151 = .ok (.goto 4, 3) := by decide +kernel
theorem dX12_answerOf_154 : decode cX12_answerOf 154 = .ok (.iconst 0, 1) := by decide +kernel
theorem dX12_answerOf_155 : decode cX12_answerOf 155 = .ok (.iadd, 1) := by decide +kernel
theorem dX12_answerOf_156 : decode cX12_answerOf 156 = .ok (.istore 9, 2) := by decide +kernel
theorem dX12_answerOf_158 : decode cX12_answerOf 158 = .ok (.iinc 10 1, 3) := by decide +kernel
theorem dX12_answerOf_161 : decode cX12_answerOf 161 = .ok (.goto (-138), 3) := by decide +kernel
theorem dX12_answerOf_164 : decode cX12_answerOf 164 = .ok (.iload 9, 2) := by decide +kernel
theorem dX12_answerOf_166 : decode cX12_answerOf 166 = .ok (.ifCond .le 7, 3) := by decide +kernel
theorem dX12_answerOf_169 : decode cX12_answerOf 169 = .ok (.iconst 1, 1) := by decide +kernel
theorem dX12_answerOf_170 : decode cX12_answerOf 170 = .ok (.goto 23, 3) := by decide +kernel
theorem dX12_answerOf_173 : decode cX12_answerOf 173 = .ok (.iload_n 3, 1) := by decide +kernel
theorem dX12_answerOf_174 : decode cX12_answerOf 174 = .ok (.ifCond .eq 14, 3) := by decide +kernel
theorem dX12_answerOf_177 : decode cX12_answerOf 177 = .ok (.iload_n 2, 1) := by decide +kernel
theorem dX12_answerOf_178 : decode cX12_answerOf 178 = .ok (.iconst (-1), 1) := by decide +kernel
theorem dX12_answerOf_179 : decode cX12_answerOf 179 = .ok (.if_icmp .eq 13, 3) := by decide +kernel
theorem dX12_answerOf_182 : decode cX12_answerOf 182 = .ok (.iload 4, 2) := by decide +kernel
theorem dX12_answerOf_184 : decode cX12_answerOf 184 = .ok (.iload_n 3, 1) := by decide +kernel
theorem dX12_answerOf_185 : decode cX12_answerOf 185 = .ok (.if_icmp .ne 7, 3) := by decide +kernel
theorem dX12_answerOf_188 : decode cX12_answerOf 188 = .ok (.iconst 0, 1) := by decide +kernel
theorem dX12_answerOf_189 : decode cX12_answerOf 189 = .ok (.goto 4, 3) := by decide +kernel
theorem dX12_answerOf_192 : decode cX12_answerOf 192 = .ok (.iconst (-1), 1) := by decide +kernel
theorem dX12_answerOf_193 : decode cX12_answerOf 193 = .ok (.istore 10, 2) := by decide +kernel
theorem dX12_answerOf_195 : decode cX12_answerOf 195 = .ok (.aload_n 0, 1) := by decide +kernel
theorem dX12_answerOf_196 : decode cX12_answerOf 196 = .ok (.getfield 184, 3) := by decide +kernel
theorem dX12_answerOf_199 : decode cX12_answerOf 199 = .ok (.tableswitch 108 0 7 #[45, 47, 59, 62, 65, 82, 95, 105], 45) := by decide +kernel
theorem dX12_answerOf_244 : decode cX12_answerOf 244 = .ok (.iload_n 3, 1) := by decide +kernel
theorem dX12_answerOf_245 : decode cX12_answerOf 245 = .ok (.ireturn, 1) := by decide +kernel
theorem dX12_answerOf_246 : decode cX12_answerOf 246 = .ok (.iload 4, 2) := by decide +kernel
theorem dX12_answerOf_248 : decode cX12_answerOf 248 = .ok (.ifCond .ne 7, 3) := by decide +kernel
theorem dX12_answerOf_251 : decode cX12_answerOf 251 = .ok (.iconst (-1), 1) := by decide +kernel
theorem dX12_answerOf_252 : decode cX12_answerOf 252 = .ok (.goto 5, 3) := by decide +kernel
theorem dX12_answerOf_255 : decode cX12_answerOf 255 = .ok (.iload 5, 2) := by decide +kernel
theorem dX12_answerOf_257 : decode cX12_answerOf 257 = .ok (.ireturn, 1) := by decide +kernel
theorem dX12_answerOf_258 : decode cX12_answerOf 258 = .ok (.iload 6, 2) := by decide +kernel
theorem dX12_answerOf_260 : decode cX12_answerOf 260 = .ok (.ireturn, 1) := by decide +kernel
theorem dX12_answerOf_261 : decode cX12_answerOf 261 = .ok (.iload 7, 2) := by decide +kernel
theorem dX12_answerOf_263 : decode cX12_answerOf 263 = .ok (.ireturn, 1) := by decide +kernel
theorem dX12_answerOf_264 : decode cX12_answerOf 264 = .ok (.iload 4, 2) := by decide +kernel
theorem dX12_answerOf_266 : decode cX12_answerOf 266 = .ok (.ifCond .ne 7, 3) := by decide +kernel
theorem dX12_answerOf_269 : decode cX12_answerOf 269 = .ok (.iconst (-1), 1) := by decide +kernel
theorem dX12_answerOf_270 : decode cX12_answerOf 270 = .ok (.goto 10, 3) := by decide +kernel
theorem dX12_answerOf_273 : decode cX12_answerOf 273 = .ok (.iload 5, 2) := by decide +kernel
theorem dX12_answerOf_275 : decode cX12_answerOf 275 = .ok (.iload 4, 2) := by decide +kernel
theorem dX12_answerOf_277 : decode cX12_answerOf 277 = .ok (.invokestatic 187, 3) := by decide +kernel
theorem dX12_answerOf_280 : decode cX12_answerOf 280 = .ok (.ireturn, 1) := by decide +kernel
theorem dX12_answerOf_281 : decode cX12_answerOf 281 = .ok (.iload_n 3, 1) := by decide +kernel
theorem dX12_answerOf_282 : decode cX12_answerOf 282 = .ok (.iconst 1, 1) := by decide +kernel
theorem dX12_answerOf_283 : decode cX12_answerOf 283 = .ok (.if_icmp .le 8, 3) := by decide +kernel
theorem dX12_answerOf_286 : decode cX12_answerOf 286 = .ok (.bipush (-2), 2) := by decide +kernel
theorem dX12_answerOf_288 : decode cX12_answerOf 288 = .ok (.goto 5, 3) := by decide +kernel
theorem dX12_answerOf_291 : decode cX12_answerOf 291 = .ok (.iload 8, 2) := by decide +kernel
theorem dX12_answerOf_293 : decode cX12_answerOf 293 = .ok (.ireturn, 1) := by decide +kernel
theorem dX12_answerOf_294 : decode cX12_answerOf 294 = .ok (.iload_n 3, 1) := by decide +kernel
theorem dX12_answerOf_295 : decode cX12_answerOf 295 = .ok (.ifCond .le 7, 3) := by decide +kernel
theorem dX12_answerOf_298 : decode cX12_answerOf 298 = .ok (.iconst 1, 1) := by decide +kernel
theorem dX12_answerOf_299 : decode cX12_answerOf 299 = .ok (.goto 4, 3) := by decide +kernel
theorem dX12_answerOf_302 : decode cX12_answerOf 302 = .ok (.iconst 0, 1) := by decide +kernel
theorem dX12_answerOf_303 : decode cX12_answerOf 303 = .ok (.ireturn, 1) := by decide +kernel
theorem dX12_answerOf_304 : decode cX12_answerOf 304 = .ok (.iload 10, 2) := by decide +kernel
theorem dX12_answerOf_306 : decode cX12_answerOf 306 = .ok (.ireturn, 1) := by decide +kernel
theorem dX12_answerOf_307 : decode cX12_answerOf 307 = .ok (.iload 10, 2) := by decide +kernel
theorem dX12_answerOf_309 : decode cX12_answerOf 309 = .ok (.iconst (-1), 1) := by decide +kernel
theorem dX12_answerOf_310 : decode cX12_answerOf 310 = .ok (.if_icmp .ne 7, 3) := by decide +kernel
theorem dX12_answerOf_313 : decode cX12_answerOf 313 = .ok (.iconst (-1), 1) := by decide +kernel
theorem dX12_answerOf_314 : decode cX12_answerOf 314 = .ok (.goto 7, 3) := by decide +kernel
theorem dX12_answerOf_317 : decode cX12_answerOf 317 = .ok (.iconst 1, 1) := by decide +kernel
theorem dX12_answerOf_318 : decode cX12_answerOf 318 = .ok (.iload 10, 2) := by decide +kernel
theorem dX12_answerOf_320 : decode cX12_answerOf 320 = .ok (.isub, 1) := by decide +kernel
theorem dX12_answerOf_321 : decode cX12_answerOf 321 = .ok (.ireturn, 1) := by decide +kernel
theorem dX12_isNew_0 : decode cX12_isNew 0 = .ok (.bipush 40, 2) := by decide +kernel
theorem dX12_isNew_2 : decode cX12_isNew 2 = .ok (.iload_n 1, 1) := by decide +kernel
theorem dX12_isNew_3 : decode cX12_isNew 3 = .ok (.imul, 1) := by decide +kernel
theorem dX12_isNew_4 : decode cX12_isNew 4 = .ok (.istore 4, 2) := by decide +kernel
theorem dX12_isNew_6 : decode cX12_isNew 6 = .ok (.iconst 1, 1) := by decide +kernel
theorem dX12_isNew_7 : decode cX12_isNew 7 = .ok (.istore 5, 2) := by decide +kernel
theorem dX12_isNew_9 : decode cX12_isNew 9 = .ok (.iconst 0, 1) := by decide +kernel
theorem dX12_isNew_10 : decode cX12_isNew 10 = .ok (.istore 6, 2) := by decide +kernel
theorem dX12_isNew_12 : decode cX12_isNew 12 = .ok (.iload 6, 2) := by decide +kernel
theorem dX12_isNew_14 : decode cX12_isNew 14 = .ok (.aload_n 0, 1) := by decide +kernel
theorem dX12_isNew_15 : decode cX12_isNew 15 = .ok (.getfield 67, 3) := by decide +kernel
theorem dX12_isNew_18 : decode cX12_isNew 18 = .ok (.iload_n 1, 1) := by decide +kernel
theorem dX12_isNew_19 : decode cX12_isNew 19 = .ok (.iaload, 1) := by decide +kernel
theorem dX12_isNew_20 : decode cX12_isNew 20 = .ok (.if_icmp .ge 49, 3) := by decide +kernel
theorem dX12_isNew_23 : decode cX12_isNew 23 = .ok (.iload 5, 2) := by decide +kernel
theorem dX12_isNew_25 : decode cX12_isNew 25 = .ok (.ifCond .eq 35, 3) := by decide +kernel
theorem dX12_isNew_28 : decode cX12_isNew 28 = .ok (.aload_n 0, 1) := by decide +kernel
theorem dX12_isNew_29 : decode cX12_isNew 29 = .ok (.getfield 70, 3) := by decide +kernel
theorem dX12_isNew_32 : decode cX12_isNew 32 = .ok (.iload 4, 2) := by decide +kernel
theorem dX12_isNew_34 : decode cX12_isNew 34 = .ok (.iload 6, 2) := by decide +kernel
theorem dX12_isNew_36 : decode cX12_isNew 36 = .ok (.iadd, 1) := by decide +kernel
theorem dX12_isNew_37 : decode cX12_isNew 37 = .ok (.iaload, 1) := by decide +kernel
theorem dX12_isNew_38 : decode cX12_isNew 38 = .ok (.iload_n 2, 1) := by decide +kernel
theorem dX12_isNew_39 : decode cX12_isNew 39 = .ok (.if_icmp .ne 17, 3) := by decide +kernel
theorem dX12_isNew_42 : decode cX12_isNew 42 = .ok (.aload_n 0, 1) := by decide +kernel
theorem dX12_isNew_43 : decode cX12_isNew 43 = .ok (.getfield 73, 3) := by decide +kernel
theorem dX12_isNew_46 : decode cX12_isNew 46 = .ok (.iload 4, 2) := by decide +kernel
theorem dX12_isNew_48 : decode cX12_isNew 48 = .ok (.iload 6, 2) := by decide +kernel
theorem dX12_isNew_50 : decode cX12_isNew 50 = .ok (.iadd, 1) := by decide +kernel
theorem dX12_isNew_51 : decode cX12_isNew 51 = .ok (.iaload, 1) := by decide +kernel
theorem dX12_isNew_52 : decode cX12_isNew 52 = .ok (.iload_n 3, 1) := by decide +kernel
theorem dX12_isNew_53 : decode cX12_isNew 53 = .ok (.if_icmp .eq 7, 3) := by decide +kernel
theorem dX12_isNew_56 : decode cX12_isNew 56 = .ok (.iconst 1, 1) := by decide +kernel
theorem dX12_isNew_57 : decode cX12_isNew 57 = .ok (.goto 4, 3) := by decide +kernel
theorem dX12_isNew_60 : decode cX12_isNew 60 = .ok (.iconst 0, 1) := by decide +kernel
theorem dX12_isNew_61 : decode cX12_isNew 61 = .ok (.istore 5, 2) := by decide +kernel
theorem dX12_isNew_63 : decode cX12_isNew 63 = .ok (.iinc 6 1, 3) := by decide +kernel
theorem dX12_isNew_66 : decode cX12_isNew 66 = .ok (.goto (-54), 3) := by decide +kernel
theorem dX12_isNew_69 : decode cX12_isNew 69 = .ok (.iload 5, 2) := by decide +kernel
theorem dX12_isNew_71 : decode cX12_isNew 71 = .ok (.ifCond .eq 43, 3) := by decide +kernel
theorem dX12_isNew_74 : decode cX12_isNew 74 = .ok (.aload_n 0, 1) := by decide +kernel
theorem dX12_isNew_75 : decode cX12_isNew 75 = .ok (.getfield 70, 3) := by decide +kernel
theorem dX12_isNew_78 : decode cX12_isNew 78 = .ok (.iload 4, 2) := by decide +kernel
theorem dX12_isNew_80 : decode cX12_isNew 80 = .ok (.aload_n 0, 1) := by decide +kernel
theorem dX12_isNew_81 : decode cX12_isNew 81 = .ok (.getfield 67, 3) := by decide +kernel
theorem dX12_isNew_84 : decode cX12_isNew 84 = .ok (.iload_n 1, 1) := by decide +kernel
theorem dX12_isNew_85 : decode cX12_isNew 85 = .ok (.iaload, 1) := by decide +kernel
theorem dX12_isNew_86 : decode cX12_isNew 86 = .ok (.iadd, 1) := by decide +kernel
theorem dX12_isNew_87 : decode cX12_isNew 87 = .ok (.iload_n 2, 1) := by decide +kernel
theorem dX12_isNew_88 : decode cX12_isNew 88 = .ok (.iastore, 1) := by decide +kernel
theorem dX12_isNew_89 : decode cX12_isNew 89 = .ok (.aload_n 0, 1) := by decide +kernel
theorem dX12_isNew_90 : decode cX12_isNew 90 = .ok (.getfield 73, 3) := by decide +kernel
theorem dX12_isNew_93 : decode cX12_isNew 93 = .ok (.iload 4, 2) := by decide +kernel
theorem dX12_isNew_95 : decode cX12_isNew 95 = .ok (.aload_n 0, 1) := by decide +kernel
theorem dX12_isNew_96 : decode cX12_isNew 96 = .ok (.getfield 67, 3) := by decide +kernel
theorem dX12_isNew_99 : decode cX12_isNew 99 = .ok (.iload_n 1, 1) := by decide +kernel
theorem dX12_isNew_100 : decode cX12_isNew 100 = .ok (.iaload, 1) := by decide +kernel
theorem dX12_isNew_101 : decode cX12_isNew 101 = .ok (.iadd, 1) := by decide +kernel
theorem dX12_isNew_102 : decode cX12_isNew 102 = .ok (.iload_n 3, 1) := by decide +kernel
theorem dX12_isNew_103 : decode cX12_isNew 103 = .ok (.iastore, 1) := by decide +kernel
theorem dX12_isNew_104 : decode cX12_isNew 104 = .ok (.aload_n 0, 1) := by decide +kernel
theorem dX12_isNew_105 : decode cX12_isNew 105 = .ok (.getfield 67, 3) := by decide +kernel
theorem dX12_isNew_108 : decode cX12_isNew 108 = .ok (.iload_n 1, 1) := by decide +kernel
theorem dX12_isNew_109 : decode cX12_isNew 109 = .ok (.dup2, 1) := by decide +kernel
theorem dX12_isNew_110 : decode cX12_isNew 110 = .ok (.iaload, 1) := by decide +kernel
theorem dX12_isNew_111 : decode cX12_isNew 111 = .ok (.iconst 1, 1) := by decide +kernel
theorem dX12_isNew_112 : decode cX12_isNew 112 = .ok (.iadd, 1) := by decide +kernel
theorem dX12_isNew_113 : decode cX12_isNew 113 = .ok (.iastore, 1) := by decide +kernel
theorem dX12_isNew_114 : decode cX12_isNew 114 = .ok (.iload 5, 2) := by decide +kernel
theorem dX12_isNew_116 : decode cX12_isNew 116 = .ok (.ireturn, 1) := by decide +kernel
theorem dX12_goes_0 : decode cX12_goes 0 = .ok (.iload 4, 2) := by decide +kernel
theorem dX12_goes_2 : decode cX12_goes 2 = .ok (.istore 7, 2) := by decide +kernel
theorem dX12_goes_4 : decode cX12_goes 4 = .ok (.iload_n 1, 1) := by decide +kernel
theorem dX12_goes_5 : decode cX12_goes 5 = .ok (.istore 8, 2) := by decide +kernel
theorem dX12_goes_7 : decode cX12_goes 7 = .ok (.iload 8, 2) := by decide +kernel
theorem dX12_goes_9 : decode cX12_goes 9 = .ok (.iload_n 2, 1) := by decide +kernel
theorem dX12_goes_10 : decode cX12_goes 10 = .ok (.if_icmp .ge 88, 3) := by decide +kernel
theorem dX12_goes_13 : decode cX12_goes 13 = .ok (.iload 8, 2) := by decide +kernel
theorem dX12_goes_15 : decode cX12_goes 15 = .ok (.aload_n 0, 1) := by decide +kernel
theorem dX12_goes_16 : decode cX12_goes 16 = .ok (.getfield 190, 3) := by decide +kernel
theorem dX12_goes_19 : decode cX12_goes 19 = .ok (.if_icmp .eq 73, 3) := by decide +kernel
theorem dX12_goes_22 : decode cX12_goes 22 = .ok (.aload_n 0, 1) := by decide +kernel
theorem dX12_goes_23 : decode cX12_goes 23 = .ok (.getfield 28, 3) := by decide +kernel
theorem dX12_goes_26 : decode cX12_goes 26 = .ok (.iload 8, 2) := by decide +kernel
theorem dX12_goes_28 : decode cX12_goes 28 = .ok (.iaload, 1) := by decide +kernel
theorem dX12_goes_29 : decode cX12_goes 29 = .ok (.aload_n 0, 1) := by decide +kernel
theorem dX12_goes_30 : decode cX12_goes 30 = .ok (.getfield 31, 3) := by decide +kernel
theorem dX12_goes_33 : decode cX12_goes 33 = .ok (.iload 8, 2) := by decide +kernel
theorem dX12_goes_35 : decode cX12_goes 35 = .ok (.iaload, 1) := by decide +kernel
theorem dX12_goes_36 : decode cX12_goes 36 = .ok (.iload_n 3, 1) := by decide +kernel
theorem dX12_goes_37 : decode cX12_goes 37 = .ok (.iload 7, 2) := by decide +kernel
theorem dX12_goes_39 : decode cX12_goes 39 = .ok (.aload_n 0, 1) := by decide +kernel
theorem dX12_goes_40 : decode cX12_goes 40 = .ok (.getfield 22, 3) := by decide +kernel
theorem dX12_goes_43 : decode cX12_goes 43 = .ok (.iload 5, 2) := by decide +kernel
theorem dX12_goes_45 : decode cX12_goes 45 = .ok (.iaload, 1) := by decide +kernel
theorem dX12_goes_46 : decode cX12_goes 46 = .ok (.invokestatic 193, 3) := by decide +kernel
theorem dX12_goes_49 : decode cX12_goes 49 = .ok (.istore 7, 2) := by decide +kernel
theorem dX12_goes_51 : decode cX12_goes 51 = .ok (.iload 7, 2) := by decide +kernel
theorem dX12_goes_53 : decode cX12_goes 53 = .ok (.bipush (-2), 2) := by decide +kernel
theorem dX12_goes_55 : decode cX12_goes 55 = .ok (.if_icmp .eq 26, 3) := by decide +kernel
theorem dX12_goes_58 : decode cX12_goes 58 = .ok (.aload_n 0, 1) := by decide +kernel
theorem dX12_goes_59 : decode cX12_goes 59 = .ok (.getfield 28, 3) := by decide +kernel
theorem dX12_goes_62 : decode cX12_goes 62 = .ok (.iload 8, 2) := by decide +kernel
theorem dX12_goes_64 : decode cX12_goes 64 = .ok (.iaload, 1) := by decide +kernel
theorem dX12_goes_65 : decode cX12_goes 65 = .ok (.iconst 5, 1) := by decide +kernel
theorem dX12_goes_66 : decode cX12_goes 66 = .ok (.if_icmp .ne 16, 3) := by decide +kernel
theorem dX12_goes_69 : decode cX12_goes 69 = .ok (.aload_n 0, 1) := by decide +kernel
theorem dX12_goes_70 : decode cX12_goes 70 = .ok (.iload 8, 2) := by decide +kernel
theorem dX12_goes_72 : decode cX12_goes 72 = .ok (.iload_n 3, 1) := by decide +kernel
theorem dX12_goes_73 : decode cX12_goes 73 = .ok (.iload 7, 2) := by decide +kernel
theorem dX12_goes_75 : decode cX12_goes 75 = .ok (.invokevirtual 197, 3) := by decide +kernel
theorem dX12_goes_78 : decode cX12_goes 78 = .ok (.ifCond .ne 4, 3) := by decide +kernel
theorem dX12_goes_81 : decode cX12_goes 81 = .ok (.return_, 1) := by decide +kernel
theorem dX12_goes_82 : decode cX12_goes 82 = .ok (.aload_n 0, 1) := by decide +kernel
theorem dX12_goes_83 : decode cX12_goes 83 = .ok (.dup, 1) := by decide +kernel
theorem dX12_goes_84 : decode cX12_goes 84 = .ok (.getfield 200, 3) := by decide +kernel
theorem dX12_goes_87 : decode cX12_goes 87 = .ok (.iconst 1, 1) := by decide +kernel
theorem dX12_goes_88 : decode cX12_goes 88 = .ok (.iadd, 1) := by decide +kernel
theorem dX12_goes_89 : decode cX12_goes 89 = .ok (.putfield 200, 3) := by decide +kernel
theorem dX12_goes_92 : decode cX12_goes 92 = .ok (.iinc 8 1, 3) := by decide +kernel
theorem dX12_goes_95 : decode cX12_goes 95 = .ok (.goto (-88), 3) := by decide +kernel
theorem dX12_goes_98 : decode cX12_goes 98 = .ok (.aload_n 0, 1) := by decide +kernel
theorem dX12_goes_99 : decode cX12_goes 99 = .ok (.iload_n 3, 1) := by decide +kernel
theorem dX12_goes_100 : decode cX12_goes 100 = .ok (.iload 7, 2) := by decide +kernel
theorem dX12_goes_102 : decode cX12_goes 102 = .ok (.iconst (-1), 1) := by decide +kernel
theorem dX12_goes_103 : decode cX12_goes 103 = .ok (.invokevirtual 203, 3) := by decide +kernel
theorem dX12_goes_106 : decode cX12_goes 106 = .ok (.aload_n 0, 1) := by decide +kernel
theorem dX12_goes_107 : decode cX12_goes 107 = .ok (.aload_n 0, 1) := by decide +kernel
theorem dX12_goes_108 : decode cX12_goes 108 = .ok (.getfield 178, 3) := by decide +kernel
theorem dX12_goes_111 : decode cX12_goes 111 = .ok (.iload 6, 2) := by decide +kernel
theorem dX12_goes_113 : decode cX12_goes 113 = .ok (.if_icmp .ne 7, 3) := by decide +kernel
theorem dX12_goes_116 : decode cX12_goes 116 = .ok (.iconst 1, 1) := by decide +kernel
theorem dX12_goes_117 : decode cX12_goes 117 = .ok (.goto 4, 3) := by decide +kernel
theorem dX12_goes_120 : decode cX12_goes 120 = .ok (.iconst 0, 1) := by decide +kernel
theorem dX12_goes_121 : decode cX12_goes 121 = .ok (.putfield 207, 3) := by decide +kernel
theorem dX12_goes_124 : decode cX12_goes 124 = .ok (.return_, 1) := by decide +kernel
theorem dX12_goThrough_0 : decode cX12_goThrough 0 = .ok (.aload_n 0, 1) := by decide +kernel
theorem dX12_goThrough_1 : decode cX12_goThrough 1 = .ok (.iconst 0, 1) := by decide +kernel
theorem dX12_goThrough_2 : decode cX12_goThrough 2 = .ok (.putfield 178, 3) := by decide +kernel
theorem dX12_goThrough_5 : decode cX12_goThrough 5 = .ok (.iconst 0, 1) := by decide +kernel
theorem dX12_goThrough_6 : decode cX12_goThrough 6 = .ok (.istore 5, 2) := by decide +kernel
theorem dX12_goThrough_8 : decode cX12_goThrough 8 = .ok (.iload 5, 2) := by decide +kernel
theorem dX12_goThrough_10 : decode cX12_goThrough 10 = .ok (.aload_n 0, 1) := by decide +kernel
theorem dX12_goThrough_11 : decode cX12_goThrough 11 = .ok (.getfield 181, 3) := by decide +kernel
theorem dX12_goThrough_14 : decode cX12_goThrough 14 = .ok (.if_icmp .ge 67, 3) := by decide +kernel
theorem dX12_goThrough_17 : decode cX12_goThrough 17 = .ok (.aload_n 0, 1) := by decide +kernel
theorem dX12_goThrough_18 : decode cX12_goThrough 18 = .ok (.getfield 207, 3) := by decide +kernel
theorem dX12_goThrough_21 : decode cX12_goThrough 21 = .ok (.ifCond .ne 60, 3) := by decide +kernel
theorem dX12_goThrough_24 : decode cX12_goThrough 24 = .ok (.aload_n 0, 1) := by decide +kernel
theorem dX12_goThrough_25 : decode cX12_goThrough 25 = .ok (.dup, 1) := by decide +kernel
theorem dX12_goThrough_26 : decode cX12_goThrough 26 = .ok (.getfield 200, 3) := by decide +kernel
theorem dX12_goThrough_29 : decode cX12_goThrough 29 = .ok (.iconst 1, 1) := by decide +kernel
theorem dX12_goThrough_30 : decode cX12_goThrough 30 = .ok (.iadd, 1) := by decide +kernel
theorem dX12_goThrough_31 : decode cX12_goThrough 31 = .ok (.putfield 200, 3) := by decide +kernel
theorem dX12_goThrough_34 : decode cX12_goThrough 34 = .ok (.aload_n 0, 1) := by decide +kernel
theorem dX12_goThrough_35 : decode cX12_goThrough 35 = .ok (.dup, 1) := by decide +kernel
theorem dX12_goThrough_36 : decode cX12_goThrough 36 = .ok (.getfield 211, 3) := by decide +kernel
theorem dX12_goThrough_39 : decode cX12_goThrough 39 = .ok (.iload_n 1, 1) := by decide +kernel
theorem dX12_goThrough_40 : decode cX12_goThrough 40 = .ok (.ifCond .ne 7, 3) := by decide +kernel
theorem dX12_goThrough_43 : decode cX12_goThrough 43 = .ok (.iconst 1, 1) := by decide +kernel
theorem dX12_goThrough_44 : decode cX12_goThrough 44 = .ok (.goto 4, 3) := by decide +kernel
theorem dX12_goThrough_47 : decode cX12_goThrough 47 = .ok (.iconst 0, 1) := by decide +kernel
theorem dX12_goThrough_48 : decode cX12_goThrough 48 = .ok (.iadd, 1) := by decide +kernel
theorem dX12_goThrough_49 : decode cX12_goThrough 49 = .ok (.putfield 211, 3) := by decide +kernel
theorem dX12_goThrough_52 : decode cX12_goThrough 52 = .ok (.aload_n 0, 1) := by decide +kernel
theorem dX12_goThrough_53 : decode cX12_goThrough 53 = .ok (.iload_n 1, 1) := by decide +kernel
theorem dX12_goThrough_54 : decode cX12_goThrough 54 = .ok (.iload_n 2, 1) := by decide +kernel
theorem dX12_goThrough_55 : decode cX12_goThrough 55 = .ok (.aload_n 0, 1) := by decide +kernel
theorem dX12_goThrough_56 : decode cX12_goThrough 56 = .ok (.getfield 49, 3) := by decide +kernel
theorem dX12_goThrough_59 : decode cX12_goThrough 59 = .ok (.iload 5, 2) := by decide +kernel
theorem dX12_goThrough_61 : decode cX12_goThrough 61 = .ok (.iaload, 1) := by decide +kernel
theorem dX12_goThrough_62 : decode cX12_goThrough 62 = .ok (.aload_n 0, 1) := by decide +kernel
theorem dX12_goThrough_63 : decode cX12_goThrough 63 = .ok (.getfield 52, 3) := by decide +kernel
theorem dX12_goThrough_66 : decode cX12_goThrough 66 = .ok (.iload 5, 2) := by decide +kernel
theorem dX12_goThrough_68 : decode cX12_goThrough 68 = .ok (.iaload, 1) := by decide +kernel
theorem dX12_goThrough_69 : decode cX12_goThrough 69 = .ok (.iload_n 3, 1) := by decide +kernel
theorem dX12_goThrough_70 : decode cX12_goThrough 70 = .ok (.iload 4, 2) := by decide +kernel
theorem dX12_goThrough_72 : decode cX12_goThrough 72 = .ok (.invokevirtual 214, 3) := by decide +kernel
theorem dX12_goThrough_75 : decode cX12_goThrough 75 = .ok (.iinc 5 1, 3) := by decide +kernel
theorem dX12_goThrough_78 : decode cX12_goThrough 78 = .ok (.goto (-70), 3) := by decide +kernel
theorem dX12_goThrough_81 : decode cX12_goThrough 81 = .ok (.iload_n 1, 1) := by decide +kernel
theorem dX12_goThrough_82 : decode cX12_goThrough 82 = .ok (.istore 5, 2) := by decide +kernel
theorem dX12_goThrough_84 : decode cX12_goThrough 84 = .ok (.iload 5, 2) := by decide +kernel
theorem dX12_goThrough_86 : decode cX12_goThrough 86 = .ok (.iload_n 2, 1) := by decide +kernel
theorem dX12_goThrough_87 : decode cX12_goThrough 87 = .ok (.if_icmp .ge 70, 3) := by decide +kernel
theorem dX12_goThrough_90 : decode cX12_goThrough 90 = .ok (.aload_n 0, 1) := by decide +kernel
theorem dX12_goThrough_91 : decode cX12_goThrough 91 = .ok (.getfield 207, 3) := by decide +kernel
theorem dX12_goThrough_94 : decode cX12_goThrough 94 = .ok (.ifCond .ne 63, 3) := by decide +kernel
theorem dX12_goThrough_97 : decode cX12_goThrough 97 = .ok (.aload_n 0, 1) := by decide +kernel
theorem dX12_goThrough_98 : decode cX12_goThrough 98 = .ok (.getfield 28, 3) := by decide +kernel
theorem dX12_goThrough_101 : decode cX12_goThrough 101 = .ok (.iload 5, 2) := by decide +kernel
theorem dX12_goThrough_103 : decode cX12_goThrough 103 = .ok (.iaload, 1) := by decide +kernel
theorem dX12_goThrough_104 : decode cX12_goThrough 104 = .ok (.iconst 4, 1) := by decide +kernel
theorem dX12_goThrough_105 : decode cX12_goThrough 105 = .ok (.if_icmp .ne 46, 3) := by decide +kernel
theorem dX12_goThrough_108 : decode cX12_goThrough 108 = .ok (.iload 5, 2) := by decide +kernel
theorem dX12_goThrough_110 : decode cX12_goThrough 110 = .ok (.aload_n 0, 1) := by decide +kernel
theorem dX12_goThrough_111 : decode cX12_goThrough 111 = .ok (.getfield 190, 3) := by decide +kernel
theorem dX12_goThrough_114 : decode cX12_goThrough 114 = .ok (.if_icmp .eq 37, 3) := by decide +kernel
theorem dX12_goThrough_117 : decode cX12_goThrough 117 = .ok (.aload_n 0, 1) := by decide +kernel
theorem dX12_goThrough_118 : decode cX12_goThrough 118 = .ok (.dup, 1) := by decide +kernel
theorem dX12_goThrough_119 : decode cX12_goThrough 119 = .ok (.getfield 200, 3) := by decide +kernel
theorem dX12_goThrough_122 : decode cX12_goThrough 122 = .ok (.iconst 1, 1) := by decide +kernel
theorem dX12_goThrough_123 : decode cX12_goThrough 123 = .ok (.iadd, 1) := by decide +kernel
theorem dX12_goThrough_124 : decode cX12_goThrough 124 = .ok (.putfield 200, 3) := by decide +kernel
theorem dX12_goThrough_127 : decode cX12_goThrough 127 = .ok (.aload_n 0, 1) := by decide +kernel
theorem dX12_goThrough_128 : decode cX12_goThrough 128 = .ok (.iload 5, 2) := by decide +kernel
theorem dX12_goThrough_130 : decode cX12_goThrough 130 = .ok (.iconst 1, 1) := by decide +kernel
theorem dX12_goThrough_131 : decode cX12_goThrough 131 = .ok (.iadd, 1) := by decide +kernel
theorem dX12_goThrough_132 : decode cX12_goThrough 132 = .ok (.iload_n 2, 1) := by decide +kernel
theorem dX12_goThrough_133 : decode cX12_goThrough 133 = .ok (.aload_n 0, 1) := by decide +kernel
theorem dX12_goThrough_134 : decode cX12_goThrough 134 = .ok (.getfield 22, 3) := by decide +kernel
theorem dX12_goThrough_137 : decode cX12_goThrough 137 = .ok (.iload_n 3, 1) := by decide +kernel
theorem dX12_goThrough_138 : decode cX12_goThrough 138 = .ok (.iaload, 1) := by decide +kernel
theorem dX12_goThrough_139 : decode cX12_goThrough 139 = .ok (.aload_n 0, 1) := by decide +kernel
theorem dX12_goThrough_140 : decode cX12_goThrough 140 = .ok (.getfield 25, 3) := by decide +kernel
theorem dX12_goThrough_143 : decode cX12_goThrough 143 = .ok (.iload_n 3, 1) := by decide +kernel
theorem dX12_goThrough_144 : decode cX12_goThrough 144 = .ok (.iaload, 1) := by decide +kernel
theorem dX12_goThrough_145 : decode cX12_goThrough 145 = .ok (.iload_n 3, 1) := by decide +kernel
theorem dX12_goThrough_146 : decode cX12_goThrough 146 = .ok (.iload 4, 2) := by decide +kernel
theorem dX12_goThrough_148 : decode cX12_goThrough 148 = .ok (.invokevirtual 214, 3) := by decide +kernel
theorem dX12_goThrough_151 : decode cX12_goThrough 151 = .ok (.iinc 5 1, 3) := by decide +kernel
theorem dX12_goThrough_154 : decode cX12_goThrough 154 = .ok (.goto (-70), 3) := by decide +kernel
theorem dX12_goThrough_157 : decode cX12_goThrough 157 = .ok (.return_, 1) := by decide +kernel
theorem dX12_asksFor_0 : decode cX12_asksFor 0 = .ok (.iconst 0, 1) := by decide +kernel
theorem dX12_asksFor_1 : decode cX12_asksFor 1 = .ok (.istore_n 2, 1) := by decide +kernel
theorem dX12_asksFor_2 : decode cX12_asksFor 2 = .ok (.aload_n 0, 1) := by decide +kernel
theorem dX12_asksFor_3 : decode cX12_asksFor 3 = .ok (.iconst 0, 1) := by decide +kernel
theorem dX12_asksFor_4 : decode cX12_asksFor 4 = .ok (.putfield 207, 3) := by decide +kernel
theorem dX12_asksFor_7 : decode cX12_asksFor 7 = .ok (.aload_n 0, 1) := by decide +kernel
theorem dX12_asksFor_8 : decode cX12_asksFor 8 = .ok (.invokevirtual 218, 3) := by decide +kernel
theorem dX12_asksFor_11 : decode cX12_asksFor 11 = .ok (.iconst 0, 1) := by decide +kernel
theorem dX12_asksFor_12 : decode cX12_asksFor 12 = .ok (.istore_n 3, 1) := by decide +kernel
theorem dX12_asksFor_13 : decode cX12_asksFor 13 = .ok (.iload_n 3, 1) := by decide +kernel
theorem dX12_asksFor_14 : decode cX12_asksFor 14 = .ok (.bipush 12, 2) := by decide +kernel
theorem dX12_asksFor_16 : decode cX12_asksFor 16 = .ok (.if_icmp .ge 16, 3) := by decide +kernel
theorem dX12_asksFor_19 : decode cX12_asksFor 19 = .ok (.aload_n 0, 1) := by decide +kernel
theorem dX12_asksFor_20 : decode cX12_asksFor 20 = .ok (.getfield 67, 3) := by decide +kernel
theorem dX12_asksFor_23 : decode cX12_asksFor 23 = .ok (.iload_n 3, 1) := by decide +kernel
theorem dX12_asksFor_24 : decode cX12_asksFor 24 = .ok (.iconst 0, 1) := by decide +kernel
theorem dX12_asksFor_25 : decode cX12_asksFor 25 = .ok (.iastore, 1) := by decide +kernel
theorem dX12_asksFor_26 : decode cX12_asksFor 26 = .ok (.iinc 3 1, 3) := by decide +kernel
theorem dX12_asksFor_29 : decode cX12_asksFor 29 = .ok (.goto (-16), 3) := by decide +kernel
theorem dX12_asksFor_32 : decode cX12_asksFor 32 = .ok (.iconst 0, 1) := by decide +kernel
theorem dX12_asksFor_33 : decode cX12_asksFor 33 = .ok (.istore_n 3, 1) := by decide +kernel
theorem dX12_asksFor_34 : decode cX12_asksFor 34 = .ok (.iload_n 3, 1) := by decide +kernel
theorem dX12_asksFor_35 : decode cX12_asksFor 35 = .ok (.aload_n 0, 1) := by decide +kernel
theorem dX12_asksFor_36 : decode cX12_asksFor 36 = .ok (.getfield 145, 3) := by decide +kernel
theorem dX12_asksFor_39 : decode cX12_asksFor 39 = .ok (.if_icmp .ge 44, 3) := by decide +kernel
theorem dX12_asksFor_42 : decode cX12_asksFor 42 = .ok (.aload_n 0, 1) := by decide +kernel
theorem dX12_asksFor_43 : decode cX12_asksFor 43 = .ok (.getfield 28, 3) := by decide +kernel
theorem dX12_asksFor_46 : decode cX12_asksFor 46 = .ok (.iload_n 3, 1) := by decide +kernel
theorem dX12_asksFor_47 : decode cX12_asksFor 47 = .ok (.iaload, 1) := by decide +kernel
theorem dX12_asksFor_48 : decode cX12_asksFor 48 = .ok (.bipush 6, 2) := by decide +kernel
theorem dX12_asksFor_50 : decode cX12_asksFor 50 = .ok (.if_icmp .ne 27, 3) := by decide +kernel
theorem dX12_asksFor_53 : decode cX12_asksFor 53 = .ok (.iload_n 3, 1) := by decide +kernel
theorem dX12_asksFor_54 : decode cX12_asksFor 54 = .ok (.aload_n 0, 1) := by decide +kernel
theorem dX12_asksFor_55 : decode cX12_asksFor 55 = .ok (.getfield 190, 3) := by decide +kernel
theorem dX12_asksFor_58 : decode cX12_asksFor 58 = .ok (.if_icmp .eq 19, 3) := by decide +kernel
theorem dX12_asksFor_61 : decode cX12_asksFor 61 = .ok (.aload_n 0, 1) := by decide +kernel
theorem dX12_asksFor_62 : decode cX12_asksFor 62 = .ok (.iload_n 2, 1) := by decide +kernel
theorem dX12_asksFor_63 : decode cX12_asksFor 63 = .ok (.iload_n 3, 1) := by decide +kernel
theorem dX12_asksFor_64 : decode cX12_asksFor 64 = .ok (.iload_n 1, 1) := by decide +kernel
theorem dX12_asksFor_65 : decode cX12_asksFor 65 = .ok (.iconst (-1), 1) := by decide +kernel
theorem dX12_asksFor_66 : decode cX12_asksFor 66 = .ok (.invokevirtual 221, 3) := by decide +kernel
theorem dX12_asksFor_69 : decode cX12_asksFor 69 = .ok (.aload_n 0, 1) := by decide +kernel
theorem dX12_asksFor_70 : decode cX12_asksFor 70 = .ok (.invokevirtual 225, 3) := by decide +kernel
theorem dX12_asksFor_73 : decode cX12_asksFor 73 = .ok (.iload_n 3, 1) := by decide +kernel
theorem dX12_asksFor_74 : decode cX12_asksFor 74 = .ok (.iconst 1, 1) := by decide +kernel
theorem dX12_asksFor_75 : decode cX12_asksFor 75 = .ok (.iadd, 1) := by decide +kernel
theorem dX12_asksFor_76 : decode cX12_asksFor 76 = .ok (.istore_n 2, 1) := by decide +kernel
theorem dX12_asksFor_77 : decode cX12_asksFor 77 = .ok (.iinc 3 1, 3) := by decide +kernel
theorem dX12_asksFor_80 : decode cX12_asksFor 80 = .ok (.goto (-46), 3) := by decide +kernel
theorem dX12_asksFor_83 : decode cX12_asksFor 83 = .ok (.aload_n 0, 1) := by decide +kernel
theorem dX12_asksFor_84 : decode cX12_asksFor 84 = .ok (.iload_n 2, 1) := by decide +kernel
theorem dX12_asksFor_85 : decode cX12_asksFor 85 = .ok (.aload_n 0, 1) := by decide +kernel
theorem dX12_asksFor_86 : decode cX12_asksFor 86 = .ok (.getfield 145, 3) := by decide +kernel
theorem dX12_asksFor_89 : decode cX12_asksFor 89 = .ok (.iload_n 1, 1) := by decide +kernel
theorem dX12_asksFor_90 : decode cX12_asksFor 90 = .ok (.aload_n 0, 1) := by decide +kernel
theorem dX12_asksFor_91 : decode cX12_asksFor 91 = .ok (.getfield 184, 3) := by decide +kernel
theorem dX12_asksFor_94 : decode cX12_asksFor 94 = .ok (.bipush 6, 2) := by decide +kernel
theorem dX12_asksFor_96 : decode cX12_asksFor 96 = .ok (.if_icmp .ne 7, 3) := by decide +kernel
theorem dX12_asksFor_99 : decode cX12_asksFor 99 = .ok (.iconst 1, 1) := by decide +kernel
theorem dX12_asksFor_100 : decode cX12_asksFor 100 = .ok (.goto 16, 3) := by decide +kernel
theorem dX12_asksFor_103 : decode cX12_asksFor 103 = .ok (.aload_n 0, 1) := by decide +kernel
theorem dX12_asksFor_104 : decode cX12_asksFor 104 = .ok (.getfield 184, 3) := by decide +kernel
theorem dX12_asksFor_107 : decode cX12_asksFor 107 = .ok (.iconst 5, 1) := by decide +kernel
theorem dX12_asksFor_108 : decode cX12_asksFor 108 = .ok (.if_icmp .ne 7, 3) := by decide +kernel
theorem dX12_asksFor_111 : decode cX12_asksFor 111 = .ok (.iconst 2, 1) := by decide +kernel
theorem dX12_asksFor_112 : decode cX12_asksFor 112 = .ok (.goto 4, 3) := by decide +kernel
theorem dX12_asksFor_115 : decode cX12_asksFor 115 = .ok (.iconst (-1), 1) := by decide +kernel
theorem dX12_asksFor_116 : decode cX12_asksFor 116 = .ok (.invokevirtual 221, 3) := by decide +kernel
theorem dX12_asksFor_119 : decode cX12_asksFor 119 = .ok (.return_, 1) := by decide +kernel
theorem dX12_opens_0 : decode cX12_opens 0 = .ok (.aload_n 0, 1) := by decide +kernel
theorem dX12_opens_1 : decode cX12_opens 1 = .ok (.iload_n 1, 1) := by decide +kernel
theorem dX12_opens_2 : decode cX12_opens 2 = .ok (.iload_n 2, 1) := by decide +kernel
theorem dX12_opens_3 : decode cX12_opens 3 = .ok (.invokevirtual 228, 3) := by decide +kernel
theorem dX12_opens_6 : decode cX12_opens 6 = .ok (.aload_n 0, 1) := by decide +kernel
theorem dX12_opens_7 : decode cX12_opens 7 = .ok (.getfield 40, 3) := by decide +kernel
theorem dX12_opens_10 : decode cX12_opens 10 = .ok (.iconst 5, 1) := by decide +kernel
theorem dX12_opens_11 : decode cX12_opens 11 = .ok (.iload_n 1, 1) := by decide +kernel
theorem dX12_opens_12 : decode cX12_opens 12 = .ok (.imul, 1) := by decide +kernel
theorem dX12_opens_13 : decode cX12_opens 13 = .ok (.iconst 2, 1) := by decide +kernel
theorem dX12_opens_14 : decode cX12_opens 14 = .ok (.iadd, 1) := by decide +kernel
theorem dX12_opens_15 : decode cX12_opens 15 = .ok (.dup2, 1) := by decide +kernel
theorem dX12_opens_16 : decode cX12_opens 16 = .ok (.iaload, 1) := by decide +kernel
theorem dX12_opens_17 : decode cX12_opens 17 = .ok (.iconst 1, 1) := by decide +kernel
theorem dX12_opens_18 : decode cX12_opens 18 = .ok (.iadd, 1) := by decide +kernel
theorem dX12_opens_19 : decode cX12_opens 19 = .ok (.iastore, 1) := by decide +kernel
theorem dX12_opens_20 : decode cX12_opens 20 = .ok (.return_, 1) := by decide +kernel
theorem dX12_begins_0 : decode cX12_begins 0 = .ok (.aload_n 0, 1) := by decide +kernel
theorem dX12_begins_1 : decode cX12_begins 1 = .ok (.getfield 43, 3) := by decide +kernel
theorem dX12_begins_4 : decode cX12_begins 4 = .ok (.iload_n 1, 1) := by decide +kernel
theorem dX12_begins_5 : decode cX12_begins 5 = .ok (.iconst 0, 1) := by decide +kernel
theorem dX12_begins_6 : decode cX12_begins 6 = .ok (.iastore, 1) := by decide +kernel
theorem dX12_begins_7 : decode cX12_begins 7 = .ok (.aload_n 0, 1) := by decide +kernel
theorem dX12_begins_8 : decode cX12_begins 8 = .ok (.getfield 34, 3) := by decide +kernel
theorem dX12_begins_11 : decode cX12_begins 11 = .ok (.iload_n 1, 1) := by decide +kernel
theorem dX12_begins_12 : decode cX12_begins 12 = .ok (.iconst (-1), 1) := by decide +kernel
theorem dX12_begins_13 : decode cX12_begins 13 = .ok (.iastore, 1) := by decide +kernel
theorem dX12_begins_14 : decode cX12_begins 14 = .ok (.iconst 0, 1) := by decide +kernel
theorem dX12_begins_15 : decode cX12_begins 15 = .ok (.istore_n 2, 1) := by decide +kernel
theorem dX12_begins_16 : decode cX12_begins 16 = .ok (.iload_n 2, 1) := by decide +kernel
theorem dX12_begins_17 : decode cX12_begins 17 = .ok (.iconst 5, 1) := by decide +kernel
theorem dX12_begins_18 : decode cX12_begins 18 = .ok (.if_icmp .ge 20, 3) := by decide +kernel
theorem dX12_begins_21 : decode cX12_begins 21 = .ok (.aload_n 0, 1) := by decide +kernel
theorem dX12_begins_22 : decode cX12_begins 22 = .ok (.getfield 40, 3) := by decide +kernel
theorem dX12_begins_25 : decode cX12_begins 25 = .ok (.iconst 5, 1) := by decide +kernel
theorem dX12_begins_26 : decode cX12_begins 26 = .ok (.iload_n 1, 1) := by decide +kernel
theorem dX12_begins_27 : decode cX12_begins 27 = .ok (.imul, 1) := by decide +kernel
theorem dX12_begins_28 : decode cX12_begins 28 = .ok (.iload_n 2, 1) := by decide +kernel
theorem dX12_begins_29 : decode cX12_begins 29 = .ok (.iadd, 1) := by decide +kernel
theorem dX12_begins_30 : decode cX12_begins 30 = .ok (.iconst 0, 1) := by decide +kernel
theorem dX12_begins_31 : decode cX12_begins 31 = .ok (.iastore, 1) := by decide +kernel
theorem dX12_begins_32 : decode cX12_begins 32 = .ok (.iinc 2 1, 3) := by decide +kernel
theorem dX12_begins_35 : decode cX12_begins 35 = .ok (.goto (-19), 3) := by decide +kernel
theorem dX12_begins_38 : decode cX12_begins 38 = .ok (.aload_n 0, 1) := by decide +kernel
theorem dX12_begins_39 : decode cX12_begins 39 = .ok (.iconst 0, 1) := by decide +kernel
theorem dX12_begins_40 : decode cX12_begins 40 = .ok (.putfield 200, 3) := by decide +kernel
theorem dX12_begins_43 : decode cX12_begins 43 = .ok (.aload_n 0, 1) := by decide +kernel
theorem dX12_begins_44 : decode cX12_begins 44 = .ok (.iconst 0, 1) := by decide +kernel
theorem dX12_begins_45 : decode cX12_begins 45 = .ok (.putfield 211, 3) := by decide +kernel
theorem dX12_begins_48 : decode cX12_begins 48 = .ok (.return_, 1) := by decide +kernel
theorem dX12_rowByRow_0 : decode cX12_rowByRow 0 = .ok (.aload_n 0, 1) := by decide +kernel
theorem dX12_rowByRow_1 : decode cX12_rowByRow 1 = .ok (.iconst 0, 1) := by decide +kernel
theorem dX12_rowByRow_2 : decode cX12_rowByRow 2 = .ok (.invokevirtual 231, 3) := by decide +kernel
theorem dX12_rowByRow_5 : decode cX12_rowByRow 5 = .ok (.iconst 0, 1) := by decide +kernel
theorem dX12_rowByRow_6 : decode cX12_rowByRow 6 = .ok (.istore_n 1, 1) := by decide +kernel
theorem dX12_rowByRow_7 : decode cX12_rowByRow 7 = .ok (.iload_n 1, 1) := by decide +kernel
theorem dX12_rowByRow_8 : decode cX12_rowByRow 8 = .ok (.aload_n 0, 1) := by decide +kernel
theorem dX12_rowByRow_9 : decode cX12_rowByRow 9 = .ok (.getfield 19, 3) := by decide +kernel
theorem dX12_rowByRow_12 : decode cX12_rowByRow 12 = .ok (.iconst 0, 1) := by decide +kernel
theorem dX12_rowByRow_13 : decode cX12_rowByRow 13 = .ok (.iaload, 1) := by decide +kernel
theorem dX12_rowByRow_14 : decode cX12_rowByRow 14 = .ok (.if_icmp .ge 146, 3) := by decide +kernel
theorem dX12_rowByRow_17 : decode cX12_rowByRow 17 = .ok (.aload_n 0, 1) := by decide +kernel
theorem dX12_rowByRow_18 : decode cX12_rowByRow 18 = .ok (.getfield 34, 3) := by decide +kernel
theorem dX12_rowByRow_21 : decode cX12_rowByRow 21 = .ok (.iconst 0, 1) := by decide +kernel
theorem dX12_rowByRow_22 : decode cX12_rowByRow 22 = .ok (.iaload, 1) := by decide +kernel
theorem dX12_rowByRow_23 : decode cX12_rowByRow 23 = .ok (.iconst (-1), 1) := by decide +kernel
theorem dX12_rowByRow_24 : decode cX12_rowByRow 24 = .ok (.if_icmp .ne 136, 3) := by decide +kernel
theorem dX12_rowByRow_27 : decode cX12_rowByRow 27 = .ok (.aload_n 0, 1) := by decide +kernel
theorem dX12_rowByRow_28 : decode cX12_rowByRow 28 = .ok (.iconst 0, 1) := by decide +kernel
theorem dX12_rowByRow_29 : decode cX12_rowByRow 29 = .ok (.iconst 0, 1) := by decide +kernel
theorem dX12_rowByRow_30 : decode cX12_rowByRow 30 = .ok (.invokevirtual 235, 3) := by decide +kernel
theorem dX12_rowByRow_33 : decode cX12_rowByRow 33 = .ok (.iconst 0, 1) := by decide +kernel
theorem dX12_rowByRow_34 : decode cX12_rowByRow 34 = .ok (.istore_n 2, 1) := by decide +kernel
theorem dX12_rowByRow_35 : decode cX12_rowByRow 35 = .ok (.iload_n 2, 1) := by decide +kernel
theorem dX12_rowByRow_36 : decode cX12_rowByRow 36 = .ok (.aload_n 0, 1) := by decide +kernel
theorem dX12_rowByRow_37 : decode cX12_rowByRow 37 = .ok (.getfield 145, 3) := by decide +kernel
theorem dX12_rowByRow_40 : decode cX12_rowByRow 40 = .ok (.if_icmp .ge 20, 3) := by decide +kernel
theorem dX12_rowByRow_43 : decode cX12_rowByRow 43 = .ok (.aload_n 0, 1) := by decide +kernel
theorem dX12_rowByRow_44 : decode cX12_rowByRow 44 = .ok (.iconst 0, 1) := by decide +kernel
theorem dX12_rowByRow_45 : decode cX12_rowByRow 45 = .ok (.aload_n 0, 1) := by decide +kernel
theorem dX12_rowByRow_46 : decode cX12_rowByRow 46 = .ok (.getfield 28, 3) := by decide +kernel
theorem dX12_rowByRow_49 : decode cX12_rowByRow 49 = .ok (.iload_n 2, 1) := by decide +kernel
theorem dX12_rowByRow_50 : decode cX12_rowByRow 50 = .ok (.iaload, 1) := by decide +kernel
theorem dX12_rowByRow_51 : decode cX12_rowByRow 51 = .ok (.invokevirtual 235, 3) := by decide +kernel
theorem dX12_rowByRow_54 : decode cX12_rowByRow 54 = .ok (.iinc 2 1, 3) := by decide +kernel
theorem dX12_rowByRow_57 : decode cX12_rowByRow 57 = .ok (.goto (-22), 3) := by decide +kernel
theorem dX12_rowByRow_60 : decode cX12_rowByRow 60 = .ok (.aload_n 0, 1) := by decide +kernel
theorem dX12_rowByRow_61 : decode cX12_rowByRow 61 = .ok (.iload_n 1, 1) := by decide +kernel
theorem dX12_rowByRow_62 : decode cX12_rowByRow 62 = .ok (.invokevirtual 238, 3) := by decide +kernel
theorem dX12_rowByRow_65 : decode cX12_rowByRow 65 = .ok (.aload_n 0, 1) := by decide +kernel
theorem dX12_rowByRow_66 : decode cX12_rowByRow 66 = .ok (.getfield 37, 3) := by decide +kernel
theorem dX12_rowByRow_69 : decode cX12_rowByRow 69 = .ok (.iload_n 1, 1) := by decide +kernel
theorem dX12_rowByRow_70 : decode cX12_rowByRow 70 = .ok (.aload_n 0, 1) := by decide +kernel
theorem dX12_rowByRow_71 : decode cX12_rowByRow 71 = .ok (.iconst (-1), 1) := by decide +kernel
theorem dX12_rowByRow_72 : decode cX12_rowByRow 72 = .ok (.aload_n 0, 1) := by decide +kernel
theorem dX12_rowByRow_73 : decode cX12_rowByRow 73 = .ok (.getfield 25, 3) := by decide +kernel
theorem dX12_rowByRow_76 : decode cX12_rowByRow 76 = .ok (.iload_n 1, 1) := by decide +kernel
theorem dX12_rowByRow_77 : decode cX12_rowByRow 77 = .ok (.iaload, 1) := by decide +kernel
theorem dX12_rowByRow_78 : decode cX12_rowByRow 78 = .ok (.invokevirtual 241, 3) := by decide +kernel
theorem dX12_rowByRow_81 : decode cX12_rowByRow 81 = .ok (.iastore, 1) := by decide +kernel
theorem dX12_rowByRow_82 : decode cX12_rowByRow 82 = .ok (.aload_n 0, 1) := by decide +kernel
theorem dX12_rowByRow_83 : decode cX12_rowByRow 83 = .ok (.getfield 34, 3) := by decide +kernel
theorem dX12_rowByRow_86 : decode cX12_rowByRow 86 = .ok (.iconst 0, 1) := by decide +kernel
theorem dX12_rowByRow_87 : decode cX12_rowByRow 87 = .ok (.aload_n 0, 1) := by decide +kernel
theorem dX12_rowByRow_88 : decode cX12_rowByRow 88 = .ok (.getfield 37, 3) := by decide +kernel
theorem dX12_rowByRow_91 : decode cX12_rowByRow 91 = .ok (.iload_n 1, 1) := by decide +kernel
theorem dX12_rowByRow_92 : decode cX12_rowByRow 92 = .ok (.iaload, 1) := by decide +kernel
theorem dX12_rowByRow_93 : decode cX12_rowByRow 93 = .ok (.bipush (-2), 2) := by decide +kernel
theorem dX12_rowByRow_95 : decode cX12_rowByRow 95 = .ok (.if_icmp .ne 7, 3) := by decide +kernel
theorem dX12_rowByRow_98 : decode cX12_rowByRow 98 = .ok (.iload_n 1, 1) := by decide +kernel
theorem dX12_rowByRow_99 : decode cX12_rowByRow 99 = .ok (.goto 4, 3) := by decide +kernel
theorem dX12_rowByRow_102 : decode cX12_rowByRow 102 = .ok (.iconst (-1), 1) := by decide +kernel
theorem dX12_rowByRow_103 : decode cX12_rowByRow 103 = .ok (.iastore, 1) := by decide +kernel
theorem dX12_rowByRow_104 : decode cX12_rowByRow 104 = .ok (.aload_n 0, 1) := by decide +kernel
theorem dX12_rowByRow_105 : decode cX12_rowByRow 105 = .ok (.getfield 145, 3) := by decide +kernel
theorem dX12_rowByRow_108 : decode cX12_rowByRow 108 = .ok (.iconst 1, 1) := by decide +kernel
theorem dX12_rowByRow_109 : decode cX12_rowByRow 109 = .ok (.isub, 1) := by decide +kernel
theorem dX12_rowByRow_110 : decode cX12_rowByRow 110 = .ok (.istore_n 2, 1) := by decide +kernel
theorem dX12_rowByRow_111 : decode cX12_rowByRow 111 = .ok (.iload_n 2, 1) := by decide +kernel
theorem dX12_rowByRow_112 : decode cX12_rowByRow 112 = .ok (.ifCond .lt 23, 3) := by decide +kernel
theorem dX12_rowByRow_115 : decode cX12_rowByRow 115 = .ok (.aload_n 0, 1) := by decide +kernel
theorem dX12_rowByRow_116 : decode cX12_rowByRow 116 = .ok (.iconst 0, 1) := by decide +kernel
theorem dX12_rowByRow_117 : decode cX12_rowByRow 117 = .ok (.bipush 10, 2) := by decide +kernel
theorem dX12_rowByRow_119 : decode cX12_rowByRow 119 = .ok (.aload_n 0, 1) := by decide +kernel
theorem dX12_rowByRow_120 : decode cX12_rowByRow 120 = .ok (.getfield 28, 3) := by decide +kernel
theorem dX12_rowByRow_123 : decode cX12_rowByRow 123 = .ok (.iload_n 2, 1) := by decide +kernel
theorem dX12_rowByRow_124 : decode cX12_rowByRow 124 = .ok (.iaload, 1) := by decide +kernel
theorem dX12_rowByRow_125 : decode cX12_rowByRow 125 = .ok (.iadd, 1) := by decide +kernel
theorem dX12_rowByRow_126 : decode cX12_rowByRow 126 = .ok (.invokevirtual 228, 3) := by decide +kernel
theorem dX12_rowByRow_129 : decode cX12_rowByRow 129 = .ok (.iinc 2 (-1), 3) := by decide +kernel
theorem dX12_rowByRow_132 : decode cX12_rowByRow 132 = .ok (.goto (-21), 3) := by decide +kernel
theorem dX12_rowByRow_135 : decode cX12_rowByRow 135 = .ok (.aload_n 0, 1) := by decide +kernel
theorem dX12_rowByRow_136 : decode cX12_rowByRow 136 = .ok (.iconst 0, 1) := by decide +kernel
theorem dX12_rowByRow_137 : decode cX12_rowByRow 137 = .ok (.bipush 10, 2) := by decide +kernel
theorem dX12_rowByRow_139 : decode cX12_rowByRow 139 = .ok (.invokevirtual 228, 3) := by decide +kernel
theorem dX12_rowByRow_142 : decode cX12_rowByRow 142 = .ok (.aload_n 0, 1) := by decide +kernel
theorem dX12_rowByRow_143 : decode cX12_rowByRow 143 = .ok (.getfield 40, 3) := by decide +kernel
theorem dX12_rowByRow_146 : decode cX12_rowByRow 146 = .ok (.iconst 3, 1) := by decide +kernel
theorem dX12_rowByRow_147 : decode cX12_rowByRow 147 = .ok (.aload_n 0, 1) := by decide +kernel
theorem dX12_rowByRow_148 : decode cX12_rowByRow 148 = .ok (.getfield 145, 3) := by decide +kernel
theorem dX12_rowByRow_151 : decode cX12_rowByRow 151 = .ok (.iconst 1, 1) := by decide +kernel
theorem dX12_rowByRow_152 : decode cX12_rowByRow 152 = .ok (.iadd, 1) := by decide +kernel
theorem dX12_rowByRow_153 : decode cX12_rowByRow 153 = .ok (.iastore, 1) := by decide +kernel
theorem dX12_rowByRow_154 : decode cX12_rowByRow 154 = .ok (.iinc 1 1, 3) := by decide +kernel
theorem dX12_rowByRow_157 : decode cX12_rowByRow 157 = .ok (.goto (-150), 3) := by decide +kernel
theorem dX12_rowByRow_160 : decode cX12_rowByRow 160 = .ok (.aload_n 0, 1) := by decide +kernel
theorem dX12_rowByRow_161 : decode cX12_rowByRow 161 = .ok (.getfield 40, 3) := by decide +kernel
theorem dX12_rowByRow_164 : decode cX12_rowByRow 164 = .ok (.iconst 0, 1) := by decide +kernel
theorem dX12_rowByRow_165 : decode cX12_rowByRow 165 = .ok (.aload_n 0, 1) := by decide +kernel
theorem dX12_rowByRow_166 : decode cX12_rowByRow 166 = .ok (.getfield 211, 3) := by decide +kernel
theorem dX12_rowByRow_169 : decode cX12_rowByRow 169 = .ok (.iastore, 1) := by decide +kernel
theorem dX12_rowByRow_170 : decode cX12_rowByRow 170 = .ok (.aload_n 0, 1) := by decide +kernel
theorem dX12_rowByRow_171 : decode cX12_rowByRow 171 = .ok (.getfield 40, 3) := by decide +kernel
theorem dX12_rowByRow_174 : decode cX12_rowByRow 174 = .ok (.iconst 1, 1) := by decide +kernel
theorem dX12_rowByRow_175 : decode cX12_rowByRow 175 = .ok (.aload_n 0, 1) := by decide +kernel
theorem dX12_rowByRow_176 : decode cX12_rowByRow 176 = .ok (.getfield 200, 3) := by decide +kernel
theorem dX12_rowByRow_179 : decode cX12_rowByRow 179 = .ok (.iastore, 1) := by decide +kernel
theorem dX12_rowByRow_180 : decode cX12_rowByRow 180 = .ok (.return_, 1) := by decide +kernel
theorem dX12_speaksNow_0 : decode cX12_speaksNow 0 = .ok (.aload_n 0, 1) := by decide +kernel
theorem dX12_speaksNow_1 : decode cX12_speaksNow 1 = .ok (.getfield 184, 3) := by decide +kernel
theorem dX12_speaksNow_4 : decode cX12_speaksNow 4 = .ok (.bipush 7, 2) := by decide +kernel
theorem dX12_speaksNow_6 : decode cX12_speaksNow 6 = .ok (.if_icmp .eq 12, 3) := by decide +kernel
theorem dX12_speaksNow_9 : decode cX12_speaksNow 9 = .ok (.aload_n 0, 1) := by decide +kernel
theorem dX12_speaksNow_10 : decode cX12_speaksNow 10 = .ok (.getfield 184, 3) := by decide +kernel
theorem dX12_speaksNow_13 : decode cX12_speaksNow 13 = .ok (.bipush 8, 2) := by decide +kernel
theorem dX12_speaksNow_15 : decode cX12_speaksNow 15 = .ok (.if_icmp .ne 9, 3) := by decide +kernel
theorem dX12_speaksNow_18 : decode cX12_speaksNow 18 = .ok (.sipush 4096, 3) := by decide +kernel
theorem dX12_speaksNow_21 : decode cX12_speaksNow 21 = .ok (.goto 4, 3) := by decide +kernel
theorem dX12_speaksNow_24 : decode cX12_speaksNow 24 = .ok (.iconst 0, 1) := by decide +kernel
theorem dX12_speaksNow_25 : decode cX12_speaksNow 25 = .ok (.istore_n 1, 1) := by decide +kernel
theorem dX12_speaksNow_26 : decode cX12_speaksNow 26 = .ok (.iconst 0, 1) := by decide +kernel
theorem dX12_speaksNow_27 : decode cX12_speaksNow 27 = .ok (.istore_n 2, 1) := by decide +kernel
theorem dX12_speaksNow_28 : decode cX12_speaksNow 28 = .ok (.iload_n 2, 1) := by decide +kernel
theorem dX12_speaksNow_29 : decode cX12_speaksNow 29 = .ok (.aload_n 0, 1) := by decide +kernel
theorem dX12_speaksNow_30 : decode cX12_speaksNow 30 = .ok (.getfield 145, 3) := by decide +kernel
theorem dX12_speaksNow_33 : decode cX12_speaksNow 33 = .ok (.if_icmp .ge 33, 3) := by decide +kernel
theorem dX12_speaksNow_36 : decode cX12_speaksNow 36 = .ok (.iload_n 1, 1) := by decide +kernel
theorem dX12_speaksNow_37 : decode cX12_speaksNow 37 = .ok (.aload_n 0, 1) := by decide +kernel
theorem dX12_speaksNow_38 : decode cX12_speaksNow 38 = .ok (.getfield 28, 3) := by decide +kernel
theorem dX12_speaksNow_41 : decode cX12_speaksNow 41 = .ok (.iload_n 2, 1) := by decide +kernel
theorem dX12_speaksNow_42 : decode cX12_speaksNow 42 = .ok (.iaload, 1) := by decide +kernel
theorem dX12_speaksNow_43 : decode cX12_speaksNow 43 = .ok (.iconst 1, 1) := by decide +kernel
theorem dX12_speaksNow_44 : decode cX12_speaksNow 44 = .ok (.iconst 4, 1) := by decide +kernel
theorem dX12_speaksNow_45 : decode cX12_speaksNow 45 = .ok (.invokestatic 107, 3) := by decide +kernel
theorem dX12_speaksNow_48 : decode cX12_speaksNow 48 = .ok (.ifCond .eq 9, 3) := by decide +kernel
theorem dX12_speaksNow_51 : decode cX12_speaksNow 51 = .ok (.iconst 1, 1) := by decide +kernel
theorem dX12_speaksNow_52 : decode cX12_speaksNow 52 = .ok (.iload_n 2, 1) := by decide +kernel
theorem dX12_speaksNow_53 : decode cX12_speaksNow 53 = .ok (.ishl, 1) := by decide +kernel
theorem dX12_speaksNow_54 : decode cX12_speaksNow 54 = .ok (.goto 4, 3) := by decide +kernel
theorem dX12_speaksNow_57 : decode cX12_speaksNow 57 = .ok (.iconst 0, 1) := by decide +kernel
theorem dX12_speaksNow_58 : decode cX12_speaksNow 58 = .ok (.ior, 1) := by decide +kernel
theorem dX12_speaksNow_59 : decode cX12_speaksNow 59 = .ok (.istore_n 1, 1) := by decide +kernel
theorem dX12_speaksNow_60 : decode cX12_speaksNow 60 = .ok (.iinc 2 1, 3) := by decide +kernel
theorem dX12_speaksNow_63 : decode cX12_speaksNow 63 = .ok (.goto (-35), 3) := by decide +kernel
theorem dX12_speaksNow_66 : decode cX12_speaksNow 66 = .ok (.iload_n 1, 1) := by decide +kernel
theorem dX12_speaksNow_67 : decode cX12_speaksNow 67 = .ok (.ireturn, 1) := by decide +kernel
theorem dX12_isOfV_0 : decode cX12_isOfV 0 = .ok (.aload_n 0, 1) := by decide +kernel
theorem dX12_isOfV_1 : decode cX12_isOfV 1 = .ok (.getfield 184, 3) := by decide +kernel
theorem dX12_isOfV_4 : decode cX12_isOfV 4 = .ok (.bipush 7, 2) := by decide +kernel
theorem dX12_isOfV_6 : decode cX12_isOfV 6 = .ok (.if_icmp .eq 12, 3) := by decide +kernel
theorem dX12_isOfV_9 : decode cX12_isOfV 9 = .ok (.aload_n 0, 1) := by decide +kernel
theorem dX12_isOfV_10 : decode cX12_isOfV 10 = .ok (.getfield 184, 3) := by decide +kernel
theorem dX12_isOfV_13 : decode cX12_isOfV 13 = .ok (.bipush 8, 2) := by decide +kernel
theorem dX12_isOfV_15 : decode cX12_isOfV 15 = .ok (.if_icmp .ne 7, 3) := by decide +kernel
theorem dX12_isOfV_18 : decode cX12_isOfV 18 = .ok (.iconst 1, 1) := by decide +kernel
theorem dX12_isOfV_19 : decode cX12_isOfV 19 = .ok (.goto 4, 3) := by decide +kernel
theorem dX12_isOfV_22 : decode cX12_isOfV 22 = .ok (.iconst 0, 1) := by decide +kernel
theorem dX12_isOfV_23 : decode cX12_isOfV 23 = .ok (.istore_n 1, 1) := by decide +kernel
theorem dX12_isOfV_24 : decode cX12_isOfV 24 = .ok (.iconst 0, 1) := by decide +kernel
theorem dX12_isOfV_25 : decode cX12_isOfV 25 = .ok (.istore_n 2, 1) := by decide +kernel
theorem dX12_isOfV_26 : decode cX12_isOfV 26 = .ok (.iload_n 2, 1) := by decide +kernel
theorem dX12_isOfV_27 : decode cX12_isOfV 27 = .ok (.aload_n 0, 1) := by decide +kernel
theorem dX12_isOfV_28 : decode cX12_isOfV 28 = .ok (.getfield 145, 3) := by decide +kernel
theorem dX12_isOfV_31 : decode cX12_isOfV 31 = .ok (.if_icmp .ge 29, 3) := by decide +kernel
theorem dX12_isOfV_34 : decode cX12_isOfV 34 = .ok (.iload_n 1, 1) := by decide +kernel
theorem dX12_isOfV_35 : decode cX12_isOfV 35 = .ok (.ifCond .ne 13, 3) := by decide +kernel
theorem dX12_isOfV_38 : decode cX12_isOfV 38 = .ok (.aload_n 0, 1) := by decide +kernel
theorem dX12_isOfV_39 : decode cX12_isOfV 39 = .ok (.getfield 28, 3) := by decide +kernel
theorem dX12_isOfV_42 : decode cX12_isOfV 42 = .ok (.iload_n 2, 1) := by decide +kernel
theorem dX12_isOfV_43 : decode cX12_isOfV 43 = .ok (.iaload, 1) := by decide +kernel
theorem dX12_isOfV_44 : decode cX12_isOfV 44 = .ok (.iconst 4, 1) := by decide +kernel
theorem dX12_isOfV_45 : decode cX12_isOfV 45 = .ok (.if_icmp .ne 7, 3) := by decide +kernel
theorem dX12_isOfV_48 : decode cX12_isOfV 48 = .ok (.iconst 1, 1) := by decide +kernel
theorem dX12_isOfV_49 : decode cX12_isOfV 49 = .ok (.goto 4, 3) := by decide +kernel
theorem dX12_isOfV_52 : decode cX12_isOfV 52 = .ok (.iconst 0, 1) := by decide +kernel
theorem dX12_isOfV_53 : decode cX12_isOfV 53 = .ok (.istore_n 1, 1) := by decide +kernel
theorem dX12_isOfV_54 : decode cX12_isOfV 54 = .ok (.iinc 2 1, 3) := by decide +kernel
theorem dX12_isOfV_57 : decode cX12_isOfV 57 = .ok (.goto (-31), 3) := by decide +kernel
theorem dX12_isOfV_60 : decode cX12_isOfV 60 = .ok (.iload_n 1, 1) := by decide +kernel
theorem dX12_isOfV_61 : decode cX12_isOfV 61 = .ok (.ireturn, 1) := by decide +kernel
theorem dX12_findsDomain_0 : decode cX12_findsDomain 0 = .ok (.aload_n 0, 1) := by decide +kernel
theorem dX12_findsDomain_1 : decode cX12_findsDomain 1 = .ok (.iconst 0, 1) := by decide +kernel
theorem dX12_findsDomain_2 : decode cX12_findsDomain 2 = .ok (.putfield 244, 3) := by decide +kernel
theorem dX12_findsDomain_5 : decode cX12_findsDomain 5 = .ok (.iconst 0, 1) := by decide +kernel
theorem dX12_findsDomain_6 : decode cX12_findsDomain 6 = .ok (.istore_n 1, 1) := by decide +kernel
theorem dX12_findsDomain_7 : decode cX12_findsDomain 7 = .ok (.iload_n 1, 1) := by decide +kernel
theorem dX12_findsDomain_8 : decode cX12_findsDomain 8 = .ok (.aload_n 0, 1) := by decide +kernel
theorem dX12_findsDomain_9 : decode cX12_findsDomain 9 = .ok (.getfield 19, 3) := by decide +kernel
theorem dX12_findsDomain_12 : decode cX12_findsDomain 12 = .ok (.iconst 0, 1) := by decide +kernel
theorem dX12_findsDomain_13 : decode cX12_findsDomain 13 = .ok (.iaload, 1) := by decide +kernel
theorem dX12_findsDomain_14 : decode cX12_findsDomain 14 = .ok (.if_icmp .ge 119, 3) := by decide +kernel
theorem dX12_findsDomain_17 : decode cX12_findsDomain 17 = .ok (.aload_n 0, 1) := by decide +kernel
theorem dX12_findsDomain_18 : decode cX12_findsDomain 18 = .ok (.invokevirtual 247, 3) := by decide +kernel
theorem dX12_findsDomain_21 : decode cX12_findsDomain 21 = .ok (.ifCond .eq 112, 3) := by decide +kernel
theorem dX12_findsDomain_24 : decode cX12_findsDomain 24 = .ok (.aload_n 0, 1) := by decide +kernel
theorem dX12_findsDomain_25 : decode cX12_findsDomain 25 = .ok (.invokevirtual 250, 3) := by decide +kernel
theorem dX12_findsDomain_28 : decode cX12_findsDomain 28 = .ok (.ifCond .eq 12, 3) := by decide +kernel
theorem dX12_findsDomain_31 : decode cX12_findsDomain 31 = .ok (.aload_n 0, 1) := by decide +kernel
theorem dX12_findsDomain_32 : decode cX12_findsDomain 32 = .ok (.getfield 25, 3) := by decide +kernel
theorem dX12_findsDomain_35 : decode cX12_findsDomain 35 = .ok (.iload_n 1, 1) := by decide +kernel
theorem dX12_findsDomain_36 : decode cX12_findsDomain 36 = .ok (.iaload, 1) := by decide +kernel
theorem dX12_findsDomain_37 : decode cX12_findsDomain 37 = .ok (.goto 4, 3) := by decide +kernel
theorem dX12_findsDomain_40 : decode cX12_findsDomain 40 = .ok (.iconst (-1), 1) := by decide +kernel
theorem dX12_findsDomain_41 : decode cX12_findsDomain 41 = .ok (.istore_n 2, 1) := by decide +kernel
theorem dX12_findsDomain_42 : decode cX12_findsDomain 42 = .ok (.iconst 0, 1) := by decide +kernel
theorem dX12_findsDomain_43 : decode cX12_findsDomain 43 = .ok (.istore_n 3, 1) := by decide +kernel
theorem dX12_findsDomain_44 : decode cX12_findsDomain 44 = .ok (.iload_n 3, 1) := by decide +kernel
theorem dX12_findsDomain_45 : decode cX12_findsDomain 45 = .ok (.aload_n 0, 1) := by decide +kernel
theorem dX12_findsDomain_46 : decode cX12_findsDomain 46 = .ok (.getfield 244, 3) := by decide +kernel
theorem dX12_findsDomain_49 : decode cX12_findsDomain 49 = .ok (.if_icmp .ge 34, 3) := by decide +kernel
theorem dX12_findsDomain_52 : decode cX12_findsDomain 52 = .ok (.aload_n 0, 1) := by decide +kernel
theorem dX12_findsDomain_53 : decode cX12_findsDomain 53 = .ok (.getfield 76, 3) := by decide +kernel
theorem dX12_findsDomain_56 : decode cX12_findsDomain 56 = .ok (.iload_n 3, 1) := by decide +kernel
theorem dX12_findsDomain_57 : decode cX12_findsDomain 57 = .ok (.iaload, 1) := by decide +kernel
theorem dX12_findsDomain_58 : decode cX12_findsDomain 58 = .ok (.aload_n 0, 1) := by decide +kernel
theorem dX12_findsDomain_59 : decode cX12_findsDomain 59 = .ok (.getfield 22, 3) := by decide +kernel
theorem dX12_findsDomain_62 : decode cX12_findsDomain 62 = .ok (.iload_n 1, 1) := by decide +kernel
theorem dX12_findsDomain_63 : decode cX12_findsDomain 63 = .ok (.iaload, 1) := by decide +kernel
theorem dX12_findsDomain_64 : decode cX12_findsDomain 64 = .ok (.if_icmp .ne 13, 3) := by decide +kernel
theorem dX12_findsDomain_67 : decode cX12_findsDomain 67 = .ok (.aload_n 0, 1) := by decide +kernel
theorem dX12_findsDomain_68 : decode cX12_findsDomain 68 = .ok (.getfield 79, 3) := by decide +kernel
theorem dX12_findsDomain_71 : decode cX12_findsDomain 71 = .ok (.iload_n 3, 1) := by decide +kernel
theorem dX12_findsDomain_72 : decode cX12_findsDomain 72 = .ok (.iaload, 1) := by decide +kernel
theorem dX12_findsDomain_73 : decode cX12_findsDomain 73 = .ok (.iload_n 2, 1) := by decide +kernel
theorem dX12_findsDomain_74 : decode cX12_findsDomain 74 = .ok (.if_icmp .eq 9, 3) := by decide +kernel
theorem dX12_findsDomain_77 : decode cX12_findsDomain 77 = .ok (.iinc 3 1, 3) := by decide +kernel
theorem dX12_findsDomain_80 : decode cX12_findsDomain 80 = .ok (.goto (-36), 3) := by decide +kernel
theorem dX12_findsDomain_83 : decode cX12_findsDomain 83 = .ok (.iload_n 3, 1) := by decide +kernel
theorem dX12_findsDomain_84 : decode cX12_findsDomain 84 = .ok (.aload_n 0, 1) := by decide +kernel
theorem dX12_findsDomain_85 : decode cX12_findsDomain 85 = .ok (.getfield 244, 3) := by decide +kernel
theorem dX12_findsDomain_88 : decode cX12_findsDomain 88 = .ok (.if_icmp .ne 32, 3) := by decide +kernel
theorem dX12_findsDomain_91 : decode cX12_findsDomain 91 = .ok (.aload_n 0, 1) := by decide +kernel
theorem dX12_findsDomain_92 : decode cX12_findsDomain 92 = .ok (.getfield 76, 3) := by decide +kernel
theorem dX12_findsDomain_95 : decode cX12_findsDomain 95 = .ok (.iload_n 3, 1) := by decide +kernel
theorem dX12_findsDomain_96 : decode cX12_findsDomain 96 = .ok (.aload_n 0, 1) := by decide +kernel
theorem dX12_findsDomain_97 : decode cX12_findsDomain 97 = .ok (.getfield 22, 3) := by decide +kernel
theorem dX12_findsDomain_100 : decode cX12_findsDomain 100 = .ok (.iload_n 1, 1) := by decide +kernel
theorem dX12_findsDomain_101 : decode cX12_findsDomain 101 = .ok (.iaload, 1) := by decide +kernel
theorem dX12_findsDomain_102 : decode cX12_findsDomain 102 = .ok (.iastore, 1) := by decide +kernel
theorem dX12_findsDomain_103 : decode cX12_findsDomain 103 = .ok (.aload_n 0, 1) := by decide +kernel
theorem dX12_findsDomain_104 : decode cX12_findsDomain 104 = .ok (.getfield 79, 3) := by decide +kernel
theorem dX12_findsDomain_107 : decode cX12_findsDomain 107 = .ok (.iload_n 3, 1) := by decide +kernel
theorem dX12_findsDomain_108 : decode cX12_findsDomain 108 = .ok (.iload_n 2, 1) := by decide +kernel
theorem dX12_findsDomain_109 : decode cX12_findsDomain 109 = .ok (.iastore, 1) := by decide +kernel
theorem dX12_findsDomain_110 : decode cX12_findsDomain 110 = .ok (.aload_n 0, 1) := by decide +kernel
theorem dX12_findsDomain_111 : decode cX12_findsDomain 111 = .ok (.dup, 1) := by decide +kernel
theorem dX12_findsDomain_112 : decode cX12_findsDomain 112 = .ok (.getfield 244, 3) := by decide +kernel
theorem dX12_findsDomain_115 : decode cX12_findsDomain 115 = .ok (.iconst 1, 1) := by decide +kernel
theorem dX12_findsDomain_116 : decode cX12_findsDomain 116 = .ok (.iadd, 1) := by decide +kernel
theorem dX12_findsDomain_117 : decode cX12_findsDomain 117 = .ok (.putfield 244, 3) := by decide +kernel
theorem dX12_findsDomain_120 : decode cX12_findsDomain 120 = .ok (.aload_n 0, 1) := by decide +kernel
theorem dX12_findsDomain_121 : decode cX12_findsDomain 121 = .ok (.getfield 82, 3) := by decide +kernel
theorem dX12_findsDomain_124 : decode cX12_findsDomain 124 = .ok (.iload_n 1, 1) := by decide +kernel
theorem dX12_findsDomain_125 : decode cX12_findsDomain 125 = .ok (.iload_n 3, 1) := by decide +kernel
theorem dX12_findsDomain_126 : decode cX12_findsDomain 126 = .ok (.iastore, 1) := by decide +kernel
theorem dX12_findsDomain_127 : decode cX12_findsDomain 127 = .ok (.iinc 1 1, 3) := by decide +kernel
theorem dX12_findsDomain_130 : decode cX12_findsDomain 130 = .ok (.goto (-123), 3) := by decide +kernel
theorem dX12_findsDomain_133 : decode cX12_findsDomain 133 = .ok (.return_, 1) := by decide +kernel
theorem dX12_joinAt_0 : decode cX12_joinAt 0 = .ok (.aload_n 0, 1) := by decide +kernel
theorem dX12_joinAt_1 : decode cX12_joinAt 1 = .ok (.invokevirtual 247, 3) := by decide +kernel
theorem dX12_joinAt_4 : decode cX12_joinAt 4 = .ok (.istore_n 1, 1) := by decide +kernel
theorem dX12_joinAt_5 : decode cX12_joinAt 5 = .ok (.iconst 0, 1) := by decide +kernel
theorem dX12_joinAt_6 : decode cX12_joinAt 6 = .ok (.istore_n 2, 1) := by decide +kernel
theorem dX12_joinAt_7 : decode cX12_joinAt 7 = .ok (.iload_n 2, 1) := by decide +kernel
theorem dX12_joinAt_8 : decode cX12_joinAt 8 = .ok (.aload_n 0, 1) := by decide +kernel
theorem dX12_joinAt_9 : decode cX12_joinAt 9 = .ok (.getfield 145, 3) := by decide +kernel
theorem dX12_joinAt_12 : decode cX12_joinAt 12 = .ok (.if_icmp .ge 17, 3) := by decide +kernel
theorem dX12_joinAt_15 : decode cX12_joinAt 15 = .ok (.iload_n 1, 1) := by decide +kernel
theorem dX12_joinAt_16 : decode cX12_joinAt 16 = .ok (.iload_n 2, 1) := by decide +kernel
theorem dX12_joinAt_17 : decode cX12_joinAt 17 = .ok (.invokestatic 254, 3) := by decide +kernel
theorem dX12_joinAt_20 : decode cX12_joinAt 20 = .ok (.ifCond .ne 9, 3) := by decide +kernel
theorem dX12_joinAt_23 : decode cX12_joinAt 23 = .ok (.iinc 2 1, 3) := by decide +kernel
theorem dX12_joinAt_26 : decode cX12_joinAt 26 = .ok (.goto (-19), 3) := by decide +kernel
theorem dX12_joinAt_29 : decode cX12_joinAt 29 = .ok (.iload_n 1, 1) := by decide +kernel
theorem dX12_joinAt_30 : decode cX12_joinAt 30 = .ok (.ifCond .ne 7, 3) := by decide +kernel
theorem dX12_joinAt_33 : decode cX12_joinAt 33 = .ok (.iconst (-1), 1) := by decide +kernel
theorem dX12_joinAt_34 : decode cX12_joinAt 34 = .ok (.goto 4, 3) := by decide +kernel
theorem dX12_joinAt_37 : decode cX12_joinAt 37 = .ok (.iload_n 2, 1) := by decide +kernel
theorem dX12_joinAt_38 : decode cX12_joinAt 38 = .ok (.ireturn, 1) := by decide +kernel
theorem dX12_plans_0 : decode cX12_plans 0 = .ok (.aload_n 0, 1) := by decide +kernel
theorem dX12_plans_1 : decode cX12_plans 1 = .ok (.invokevirtual 258, 3) := by decide +kernel
