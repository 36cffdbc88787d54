theorem dX11_copy_95 : decode cX11_copy 95 = .ok (.iload_n 3, 1) := by decide +kernel
theorem dX11_copy_96 : decode cX11_copy 96 = .ok (.aaload, 1) := by decide +kernel
theorem dX11_copy_97 : decode cX11_copy 97 = .ok (.iload 4, 2) := by decide +kernel
theorem dX11_copy_99 : decode cX11_copy 99 = .ok (.iload 5, 2) := by decide +kernel
theorem dX11_copy_101 : decode cX11_copy 101 = .ok (.invokevirtual 205, 3) := by decide +kernel
theorem dX11_copy_104 : decode cX11_copy 104 = .ok (.ifCond .ne 9, 3) := by decide +kernel
theorem dX11_copy_107 : decode cX11_copy 107 = .ok (.aload_n 0, 1) := by decide +kernel
theorem dX11_copy_108 : decode cX11_copy 108 = .ok (.iconst 2, 1) := by decide +kernel
theorem dX11_copy_109 : decode cX11_copy 109 = .ok (.invokevirtual 177, 3) := by decide +kernel
theorem dX11_copy_112 : decode cX11_copy 112 = .ok (.ireturn, 1) := by decide +kernel
theorem dX11_copy_113 : decode cX11_copy 113 = .ok (.aload_n 0, 1) := by decide +kernel
theorem dX11_copy_114 : decode cX11_copy 114 = .ok (.getfield 17, 3) := by decide +kernel
theorem dX11_copy_117 : decode cX11_copy 117 = .ok (.iload_n 1, 1) := by decide +kernel
theorem dX11_copy_118 : decode cX11_copy 118 = .ok (.aaload, 1) := by decide +kernel
theorem dX11_copy_119 : decode cX11_copy 119 = .ok (.getfield 199, 3) := by decide +kernel
theorem dX11_copy_122 : decode cX11_copy 122 = .ok (.iload_n 2, 1) := by decide +kernel
theorem dX11_copy_123 : decode cX11_copy 123 = .ok (.aload_n 0, 1) := by decide +kernel
theorem dX11_copy_124 : decode cX11_copy 124 = .ok (.getfield 17, 3) := by decide +kernel
theorem dX11_copy_127 : decode cX11_copy 127 = .ok (.iload_n 3, 1) := by decide +kernel
theorem dX11_copy_128 : decode cX11_copy 128 = .ok (.aaload, 1) := by decide +kernel
theorem dX11_copy_129 : decode cX11_copy 129 = .ok (.getfield 199, 3) := by decide +kernel
theorem dX11_copy_132 : decode cX11_copy 132 = .ok (.iload 4, 2) := by decide +kernel
theorem dX11_copy_134 : decode cX11_copy 134 = .ok (.iload 5, 2) := by decide +kernel
theorem dX11_copy_136 : decode cX11_copy 136 = .ok (.invokestatic 208, 3) := by decide +kernel
theorem dX11_copy_139 : decode cX11_copy 139 = .ok (.iconst 1, 1) := by decide +kernel
theorem dX11_copy_140 : decode cX11_copy 140 = .ok (.ireturn, 1) := by decide +kernel
theorem dX11_write_0 : decode cX11_write 0 = .ok (.iload_n 1, 1) := by decide +kernel
theorem dX11_write_1 : decode cX11_write 1 = .ok (.invokestatic 109, 3) := by decide +kernel
theorem dX11_write_4 : decode cX11_write 4 = .ok (.ifCond .eq 11, 3) := by decide +kernel
theorem dX11_write_7 : decode cX11_write 7 = .ok (.iload_n 2, 1) := by decide +kernel
theorem dX11_write_8 : decode cX11_write 8 = .ok (.iconst 4, 1) := by decide +kernel
theorem dX11_write_9 : decode cX11_write 9 = .ok (.invokestatic 61, 3) := by decide +kernel
theorem dX11_write_12 : decode cX11_write 12 = .ok (.ifCond .ne 6, 3) := by decide +kernel
theorem dX11_write_15 : decode cX11_write 15 = .ok (.bipush (-2), 2) := by decide +kernel
theorem dX11_write_17 : decode cX11_write 17 = .ok (.ireturn, 1) := by decide +kernel
theorem dX11_write_18 : decode cX11_write 18 = .ok (.aload_n 0, 1) := by decide +kernel
theorem dX11_write_19 : decode cX11_write 19 = .ok (.getfield 17, 3) := by decide +kernel
theorem dX11_write_22 : decode cX11_write 22 = .ok (.iload_n 2, 1) := by decide +kernel
theorem dX11_write_23 : decode cX11_write 23 = .ok (.aaload, 1) := by decide +kernel
theorem dX11_write_24 : decode cX11_write 24 = .ok (.invokevirtual 184, 3) := by decide +kernel
theorem dX11_write_27 : decode cX11_write 27 = .ok (.ifCond .eq 9, 3) := by decide +kernel
theorem dX11_write_30 : decode cX11_write 30 = .ok (.aload_n 0, 1) := by decide +kernel
theorem dX11_write_31 : decode cX11_write 31 = .ok (.iconst 1, 1) := by decide +kernel
theorem dX11_write_32 : decode cX11_write 32 = .ok (.invokevirtual 177, 3) := by decide +kernel
theorem dX11_write_35 : decode cX11_write 35 = .ok (.ireturn, 1) := by decide +kernel
theorem dX11_write_36 : decode cX11_write 36 = .ok (.aload_n 0, 1) := by decide +kernel
theorem dX11_write_37 : decode cX11_write 37 = .ok (.invokevirtual 112, 3) := by decide +kernel
theorem dX11_write_40 : decode cX11_write 40 = .ok (.aload_n 0, 1) := by decide +kernel
theorem dX11_write_41 : decode cX11_write 41 = .ok (.iload_n 1, 1) := by decide +kernel
theorem dX11_write_42 : decode cX11_write 42 = .ok (.invokevirtual 115, 3) := by decide +kernel
theorem dX11_write_45 : decode cX11_write 45 = .ok (.getfield 119, 3) := by decide +kernel
theorem dX11_write_48 : decode cX11_write 48 = .ok (.astore_n 3, 1) := by decide +kernel
theorem dX11_write_49 : decode cX11_write 49 = .ok (.aload_n 3, 1) := by decide +kernel
theorem dX11_write_50 : decode cX11_write 50 = .ok (.getfield 123, 3) := by decide +kernel
theorem dX11_write_53 : decode cX11_write 53 = .ok (.iconst (-1), 1) := by decide +kernel
theorem dX11_write_54 : decode cX11_write 54 = .ok (.if_icmp .eq 6, 3) := by decide +kernel
theorem dX11_write_57 : decode cX11_write 57 = .ok (.bipush (-3), 2) := by decide +kernel
theorem dX11_write_59 : decode cX11_write 59 = .ok (.ireturn, 1) := by decide +kernel
theorem dX11_write_60 : decode cX11_write 60 = .ok (.aload_n 0, 1) := by decide +kernel
theorem dX11_write_61 : decode cX11_write 61 = .ok (.getfield 17, 3) := by decide +kernel
theorem dX11_write_64 : decode cX11_write 64 = .ok (.iload_n 2, 1) := by decide +kernel
theorem dX11_write_65 : decode cX11_write 65 = .ok (.aaload, 1) := by decide +kernel
theorem dX11_write_66 : decode cX11_write 66 = .ok (.getfield 188, 3) := by decide +kernel
theorem dX11_write_69 : decode cX11_write 69 = .ok (.aload_n 0, 1) := by decide +kernel
theorem dX11_write_70 : decode cX11_write 70 = .ok (.invokevirtual 128, 3) := by decide +kernel
theorem dX11_write_73 : decode cX11_write 73 = .ok (.invokestatic 214, 3) := by decide +kernel
theorem dX11_write_76 : decode cX11_write 76 = .ok (.istore 4, 2) := by decide +kernel
theorem dX11_write_78 : decode cX11_write 78 = .ok (.iconst 0, 1) := by decide +kernel
theorem dX11_write_79 : decode cX11_write 79 = .ok (.istore 5, 2) := by decide +kernel
theorem dX11_write_81 : decode cX11_write 81 = .ok (.iload 5, 2) := by decide +kernel
theorem dX11_write_83 : decode cX11_write 83 = .ok (.iload 4, 2) := by decide +kernel
theorem dX11_write_85 : decode cX11_write 85 = .ok (.if_icmp .ge 26, 3) := by decide +kernel
theorem dX11_write_88 : decode cX11_write 88 = .ok (.aload_n 0, 1) := by decide +kernel
theorem dX11_write_89 : decode cX11_write 89 = .ok (.getfield 17, 3) := by decide +kernel
theorem dX11_write_92 : decode cX11_write 92 = .ok (.iload_n 2, 1) := by decide +kernel
theorem dX11_write_93 : decode cX11_write 93 = .ok (.aaload, 1) := by decide +kernel
theorem dX11_write_94 : decode cX11_write 94 = .ok (.iload 5, 2) := by decide +kernel
theorem dX11_write_96 : decode cX11_write 96 = .ok (.aload_n 3, 1) := by decide +kernel
theorem dX11_write_97 : decode cX11_write 97 = .ok (.iload 5, 2) := by decide +kernel
theorem dX11_write_99 : decode cX11_write 99 = .ok (.invokevirtual 132, 3) := by decide +kernel
theorem dX11_write_102 : decode cX11_write 102 = .ok (.invokevirtual 195, 3) := by decide +kernel
theorem dX11_write_105 : decode cX11_write 105 = .ok (.iinc 5 1, 3) := by decide +kernel
theorem dX11_write_108 : decode cX11_write 108 = .ok (.goto (-27), 3) := by decide +kernel
theorem dX11_write_111 : decode cX11_write 111 = .ok (.iload 4, 2) := by decide +kernel
theorem dX11_write_113 : decode cX11_write 113 = .ok (.ireturn, 1) := by decide +kernel
theorem dX11_read_0 : decode cX11_read 0 = .ok (.iload_n 1, 1) := by decide +kernel
theorem dX11_read_1 : decode cX11_read 1 = .ok (.iconst 3, 1) := by decide +kernel
theorem dX11_read_2 : decode cX11_read 2 = .ok (.invokestatic 61, 3) := by decide +kernel
theorem dX11_read_5 : decode cX11_read 5 = .ok (.ifCond .eq 11, 3) := by decide +kernel
theorem dX11_read_8 : decode cX11_read 8 = .ok (.iload_n 2, 1) := by decide +kernel
theorem dX11_read_9 : decode cX11_read 9 = .ok (.iconst 4, 1) := by decide +kernel
theorem dX11_read_10 : decode cX11_read 10 = .ok (.invokestatic 61, 3) := by decide +kernel
theorem dX11_read_13 : decode cX11_read 13 = .ok (.ifCond .ne 6, 3) := by decide +kernel
theorem dX11_read_16 : decode cX11_read 16 = .ok (.bipush (-2), 2) := by decide +kernel
theorem dX11_read_18 : decode cX11_read 18 = .ok (.ireturn, 1) := by decide +kernel
theorem dX11_read_19 : decode cX11_read 19 = .ok (.aload_n 0, 1) := by decide +kernel
theorem dX11_read_20 : decode cX11_read 20 = .ok (.getfield 17, 3) := by decide +kernel
theorem dX11_read_23 : decode cX11_read 23 = .ok (.iload_n 2, 1) := by decide +kernel
theorem dX11_read_24 : decode cX11_read 24 = .ok (.aaload, 1) := by decide +kernel
theorem dX11_read_25 : decode cX11_read 25 = .ok (.invokevirtual 184, 3) := by decide +kernel
theorem dX11_read_28 : decode cX11_read 28 = .ok (.ifCond .eq 9, 3) := by decide +kernel
theorem dX11_read_31 : decode cX11_read 31 = .ok (.aload_n 0, 1) := by decide +kernel
theorem dX11_read_32 : decode cX11_read 32 = .ok (.iconst 1, 1) := by decide +kernel
theorem dX11_read_33 : decode cX11_read 33 = .ok (.invokevirtual 177, 3) := by decide +kernel
theorem dX11_read_36 : decode cX11_read 36 = .ok (.ireturn, 1) := by decide +kernel
theorem dX11_read_37 : decode cX11_read 37 = .ok (.aload_n 0, 1) := by decide +kernel
theorem dX11_read_38 : decode cX11_read 38 = .ok (.getfield 11, 3) := by decide +kernel
theorem dX11_read_41 : decode cX11_read 41 = .ok (.iload_n 1, 1) := by decide +kernel
theorem dX11_read_42 : decode cX11_read 42 = .ok (.aaload, 1) := by decide +kernel
theorem dX11_read_43 : decode cX11_read 43 = .ok (.aload_n 0, 1) := by decide +kernel
theorem dX11_read_44 : decode cX11_read 44 = .ok (.getfield 17, 3) := by decide +kernel
theorem dX11_read_47 : decode cX11_read 47 = .ok (.iload_n 2, 1) := by decide +kernel
theorem dX11_read_48 : decode cX11_read 48 = .ok (.aaload, 1) := by decide +kernel
theorem dX11_read_49 : decode cX11_read 49 = .ok (.invokevirtual 219, 3) := by decide +kernel
theorem dX11_read_52 : decode cX11_read 52 = .ok (.istore_n 3, 1) := by decide +kernel
theorem dX11_read_53 : decode cX11_read 53 = .ok (.aload_n 0, 1) := by decide +kernel
theorem dX11_read_54 : decode cX11_read 54 = .ok (.iload_n 1, 1) := by decide +kernel
theorem dX11_read_55 : decode cX11_read 55 = .ok (.invokevirtual 72, 3) := by decide +kernel
theorem dX11_read_58 : decode cX11_read 58 = .ok (.iload_n 3, 1) := by decide +kernel
theorem dX11_read_59 : decode cX11_read 59 = .ok (.ireturn, 1) := by decide +kernel
theorem dX11_count_0 : decode cX11_count 0 = .ok (.iload_n 1, 1) := by decide +kernel
theorem dX11_count_1 : decode cX11_count 1 = .ok (.bipush 8, 2) := by decide +kernel
theorem dX11_count_3 : decode cX11_count 3 = .ok (.if_icmp .ne 8, 3) := by decide +kernel
theorem dX11_count_6 : decode cX11_count 6 = .ok (.aload_n 0, 1) := by decide +kernel
theorem dX11_count_7 : decode cX11_count 7 = .ok (.getfield 32, 3) := by decide +kernel
theorem dX11_count_10 : decode cX11_count 10 = .ok (.ireturn, 1) := by decide +kernel
theorem dX11_count_11 : decode cX11_count 11 = .ok (.iload_n 1, 1) := by decide +kernel
theorem dX11_count_12 : decode cX11_count 12 = .ok (.bipush 8, 2) := by decide +kernel
theorem dX11_count_14 : decode cX11_count 14 = .ok (.invokestatic 61, 3) := by decide +kernel
theorem dX11_count_17 : decode cX11_count 17 = .ok (.ifCond .ne 6, 3) := by decide +kernel
theorem dX11_count_20 : decode cX11_count 20 = .ok (.bipush (-2), 2) := by decide +kernel
theorem dX11_count_22 : decode cX11_count 22 = .ok (.ireturn, 1) := by decide +kernel
theorem dX11_count_23 : decode cX11_count 23 = .ok (.aload_n 0, 1) := by decide +kernel
theorem dX11_count_24 : decode cX11_count 24 = .ok (.invokevirtual 112, 3) := by decide +kernel
theorem dX11_count_27 : decode cX11_count 27 = .ok (.aload_n 0, 1) := by decide +kernel
theorem dX11_count_28 : decode cX11_count 28 = .ok (.iload_n 1, 1) := by decide +kernel
theorem dX11_count_29 : decode cX11_count 29 = .ok (.invokevirtual 223, 3) := by decide +kernel
theorem dX11_count_32 : decode cX11_count 32 = .ok (.ireturn, 1) := by decide +kernel
theorem dX11_digest_0 : decode cX11_digest 0 = .ok (.aload_n 0, 1) := by decide +kernel
theorem dX11_digest_1 : decode cX11_digest 1 = .ok (.invokevirtual 112, 3) := by decide +kernel
theorem dX11_digest_4 : decode cX11_digest 4 = .ok (.ldc2_w 226, 3) := by decide +kernel
theorem dX11_digest_7 : decode cX11_digest 7 = .ok (.lstore_n 1, 1) := by decide +kernel
theorem dX11_digest_8 : decode cX11_digest 8 = .ok (.iconst 0, 1) := by decide +kernel
theorem dX11_digest_9 : decode cX11_digest 9 = .ok (.istore_n 3, 1) := by decide +kernel
theorem dX11_digest_10 : decode cX11_digest 10 = .ok (.iload_n 3, 1) := by decide +kernel
theorem dX11_digest_11 : decode cX11_digest 11 = .ok (.bipush 8, 2) := by decide +kernel
theorem dX11_digest_13 : decode cX11_digest 13 = .ok (.if_icmp .ge 19, 3) := by decide +kernel
theorem dX11_digest_16 : decode cX11_digest 16 = .ok (.lload_n 1, 1) := by decide +kernel
theorem dX11_digest_17 : decode cX11_digest 17 = .ok (.aload_n 0, 1) := by decide +kernel
theorem dX11_digest_18 : decode cX11_digest 18 = .ok (.iload_n 3, 1) := by decide +kernel
theorem dX11_digest_19 : decode cX11_digest 19 = .ok (.invokevirtual 223, 3) := by decide +kernel
theorem dX11_digest_22 : decode cX11_digest 22 = .ok (.invokestatic 228, 3) := by decide +kernel
theorem dX11_digest_25 : decode cX11_digest 25 = .ok (.lstore_n 1, 1) := by decide +kernel
theorem dX11_digest_26 : decode cX11_digest 26 = .ok (.iinc 3 1, 3) := by decide +kernel
theorem dX11_digest_29 : decode cX11_digest 29 = .ok (.goto (-19), 3) := by decide +kernel
theorem dX11_digest_32 : decode cX11_digest 32 = .ok (.aload_n 0, 1) := by decide +kernel
theorem dX11_digest_33 : decode cX11_digest 33 = .ok (.lload_n 1, 1) := by decide +kernel
theorem dX11_digest_34 : decode cX11_digest 34 = .ok (.invokevirtual 232, 3) := by decide +kernel
theorem dX11_digest_37 : decode cX11_digest 37 = .ok (.lstore_n 1, 1) := by decide +kernel
theorem dX11_digest_38 : decode cX11_digest 38 = .ok (.lload_n 1, 1) := by decide +kernel
theorem dX11_digest_39 : decode cX11_digest 39 = .ok (.aload_n 0, 1) := by decide +kernel
theorem dX11_digest_40 : decode cX11_digest 40 = .ok (.invokevirtual 236, 3) := by decide +kernel
theorem dX11_digest_43 : decode cX11_digest 43 = .ok (.invokestatic 228, 3) := by decide +kernel
theorem dX11_digest_46 : decode cX11_digest 46 = .ok (.lstore_n 1, 1) := by decide +kernel
theorem dX11_digest_47 : decode cX11_digest 47 = .ok (.lload_n 1, 1) := by decide +kernel
theorem dX11_digest_48 : decode cX11_digest 48 = .ok (.aload_n 0, 1) := by decide +kernel
theorem dX11_digest_49 : decode cX11_digest 49 = .ok (.getfield 55, 3) := by decide +kernel
theorem dX11_digest_52 : decode cX11_digest 52 = .ok (.getfield 149, 3) := by decide +kernel
theorem dX11_digest_55 : decode cX11_digest 55 = .ok (.getfield 153, 3) := by decide +kernel
theorem dX11_digest_58 : decode cX11_digest 58 = .ok (.invokestatic 228, 3) := by decide +kernel
theorem dX11_digest_61 : decode cX11_digest 61 = .ok (.lstore_n 1, 1) := by decide +kernel
theorem dX11_digest_62 : decode cX11_digest 62 = .ok (.lload_n 1, 1) := by decide +kernel
theorem dX11_digest_63 : decode cX11_digest 63 = .ok (.aload_n 0, 1) := by decide +kernel
theorem dX11_digest_64 : decode cX11_digest 64 = .ok (.invokevirtual 136, 3) := by decide +kernel
theorem dX11_digest_67 : decode cX11_digest 67 = .ok (.invokestatic 228, 3) := by decide +kernel
theorem dX11_digest_70 : decode cX11_digest 70 = .ok (.lstore_n 1, 1) := by decide +kernel
theorem dX11_digest_71 : decode cX11_digest 71 = .ok (.lload_n 1, 1) := by decide +kernel
theorem dX11_digest_72 : decode cX11_digest 72 = .ok (.aload_n 0, 1) := by decide +kernel
theorem dX11_digest_73 : decode cX11_digest 73 = .ok (.getfield 51, 3) := by decide +kernel
theorem dX11_digest_76 : decode cX11_digest 76 = .ok (.getfield 119, 3) := by decide +kernel
theorem dX11_digest_79 : decode cX11_digest 79 = .ok (.aload_n 0, 1) := by decide +kernel
theorem dX11_digest_80 : decode cX11_digest 80 = .ok (.getfield 28, 3) := by decide +kernel
theorem dX11_digest_83 : decode cX11_digest 83 = .ok (.aload_n 0, 1) := by decide +kernel
theorem dX11_digest_84 : decode cX11_digest 84 = .ok (.invokevirtual 128, 3) := by decide +kernel
theorem dX11_digest_87 : decode cX11_digest 87 = .ok (.invokevirtual 139, 3) := by decide +kernel
theorem dX11_digest_90 : decode cX11_digest 90 = .ok (.invokestatic 228, 3) := by decide +kernel
theorem dX11_digest_93 : decode cX11_digest 93 = .ok (.lstore_n 1, 1) := by decide +kernel
theorem dX11_digest_94 : decode cX11_digest 94 = .ok (.lload_n 1, 1) := by decide +kernel
theorem dX11_digest_95 : decode cX11_digest 95 = .ok (.aload_n 0, 1) := by decide +kernel
theorem dX11_digest_96 : decode cX11_digest 96 = .ok (.invokevirtual 174, 3) := by decide +kernel
theorem dX11_digest_99 : decode cX11_digest 99 = .ok (.invokestatic 228, 3) := by decide +kernel
theorem dX11_digest_102 : decode cX11_digest 102 = .ok (.lstore_n 1, 1) := by decide +kernel
theorem dX11_digest_103 : decode cX11_digest 103 = .ok (.aload_n 0, 1) := by decide +kernel
theorem dX11_digest_104 : decode cX11_digest 104 = .ok (.lload_n 1, 1) := by decide +kernel
theorem dX11_digest_105 : decode cX11_digest 105 = .ok (.aload_n 0, 1) := by decide +kernel
theorem dX11_digest_106 : decode cX11_digest 106 = .ok (.getfield 51, 3) := by decide +kernel
theorem dX11_digest_109 : decode cX11_digest 109 = .ok (.getfield 119, 3) := by decide +kernel
theorem dX11_digest_112 : decode cX11_digest 112 = .ok (.invokevirtual 239, 3) := by decide +kernel
theorem dX11_digest_115 : decode cX11_digest 115 = .ok (.lstore_n 1, 1) := by decide +kernel
theorem dX11_digest_116 : decode cX11_digest 116 = .ok (.aload_n 0, 1) := by decide +kernel
theorem dX11_digest_117 : decode cX11_digest 117 = .ok (.lload_n 1, 1) := by decide +kernel
theorem dX11_digest_118 : decode cX11_digest 118 = .ok (.aload_n 0, 1) := by decide +kernel
theorem dX11_digest_119 : decode cX11_digest 119 = .ok (.getfield 55, 3) := by decide +kernel
theorem dX11_digest_122 : decode cX11_digest 122 = .ok (.getfield 119, 3) := by decide +kernel
theorem dX11_digest_125 : decode cX11_digest 125 = .ok (.invokevirtual 239, 3) := by decide +kernel
theorem dX11_digest_128 : decode cX11_digest 128 = .ok (.lstore_n 1, 1) := by decide +kernel
theorem dX11_digest_129 : decode cX11_digest 129 = .ok (.iconst 0, 1) := by decide +kernel
theorem dX11_digest_130 : decode cX11_digest 130 = .ok (.istore_n 3, 1) := by decide +kernel
theorem dX11_digest_131 : decode cX11_digest 131 = .ok (.iload_n 3, 1) := by decide +kernel
theorem dX11_digest_132 : decode cX11_digest 132 = .ok (.bipush 10, 2) := by decide +kernel
theorem dX11_digest_134 : decode cX11_digest 134 = .ok (.if_icmp .ge 31, 3) := by decide +kernel
theorem dX11_digest_137 : decode cX11_digest 137 = .ok (.lload_n 1, 1) := by decide +kernel
theorem dX11_digest_138 : decode cX11_digest 138 = .ok (.aload_n 0, 1) := by decide +kernel
theorem dX11_digest_139 : decode cX11_digest 139 = .ok (.iload_n 3, 1) := by decide +kernel
theorem dX11_digest_140 : decode cX11_digest 140 = .ok (.iconst 0, 1) := by decide +kernel
theorem dX11_digest_141 : decode cX11_digest 141 = .ok (.invokevirtual 156, 3) := by decide +kernel
theorem dX11_digest_144 : decode cX11_digest 144 = .ok (.invokestatic 228, 3) := by decide +kernel
theorem dX11_digest_147 : decode cX11_digest 147 = .ok (.lstore_n 1, 1) := by decide +kernel
theorem dX11_digest_148 : decode cX11_digest 148 = .ok (.lload_n 1, 1) := by decide +kernel
theorem dX11_digest_149 : decode cX11_digest 149 = .ok (.aload_n 0, 1) := by decide +kernel
theorem dX11_digest_150 : decode cX11_digest 150 = .ok (.iload_n 3, 1) := by decide +kernel
theorem dX11_digest_151 : decode cX11_digest 151 = .ok (.iconst 1, 1) := by decide +kernel
theorem dX11_digest_152 : decode cX11_digest 152 = .ok (.invokevirtual 156, 3) := by decide +kernel
theorem dX11_digest_155 : decode cX11_digest 155 = .ok (.invokestatic 228, 3) := by decide +kernel
theorem dX11_digest_158 : decode cX11_digest 158 = .ok (.lstore_n 1, 1) := by decide +kernel
theorem dX11_digest_159 : decode cX11_digest 159 = .ok (.iinc 3 1, 3) := by decide +kernel
theorem dX11_digest_162 : decode cX11_digest 162 = .ok (.goto (-31), 3) := by decide +kernel
theorem dX11_digest_165 : decode cX11_digest 165 = .ok (.aload_n 0, 1) := by decide +kernel
theorem dX11_digest_166 : decode cX11_digest 166 = .ok (.lload_n 1, 1) := by decide +kernel
theorem dX11_digest_167 : decode cX11_digest 167 = .ok (.invokevirtual 243, 3) := by decide +kernel
theorem dX11_digest_170 : decode cX11_digest 170 = .ok (.lreturn, 1) := by decide +kernel
theorem dX11_within_0 : decode cX11_within 0 = .ok (.iload_n 0, 1) := by decide +kernel
theorem dX11_within_1 : decode cX11_within 1 = .ok (.ifCond .lt 12, 3) := by decide +kernel
theorem dX11_within_4 : decode cX11_within 4 = .ok (.iload_n 0, 1) := by decide +kernel
theorem dX11_within_5 : decode cX11_within 5 = .ok (.iload_n 1, 1) := by decide +kernel
theorem dX11_within_6 : decode cX11_within 6 = .ok (.if_icmp .ge 7, 3) := by decide +kernel
theorem dX11_within_9 : decode cX11_within 9 = .ok (.iconst 1, 1) := by decide +kernel
theorem dX11_within_10 : decode cX11_within 10 = .ok (.goto 4, 3) := by decide +kernel
theorem dX11_within_13 : decode cX11_within 13 = .ok (.iconst 0, 1) := by decide +kernel
theorem dX11_within_14 : decode cX11_within 14 = .ok (.ireturn, 1) := by decide +kernel
theorem dX11_isByte_0 : decode cX11_isByte 0 = .ok (.iload_n 0, 1) := by decide +kernel
theorem dX11_isByte_1 : decode cX11_isByte 1 = .ok (.ifCond .lt 14, 3) := by decide +kernel
theorem dX11_isByte_4 : decode cX11_isByte 4 = .ok (.iload_n 0, 1) := by decide +kernel
theorem dX11_isByte_5 : decode cX11_isByte 5 = .ok (.sipush 255, 3) := by decide +kernel
theorem dX11_isByte_8 : decode cX11_isByte 8 = .ok (.if_icmp .gt 7, 3) := by decide +kernel
theorem dX11_isByte_11 : decode cX11_isByte 11 = .ok (.iconst 1, 1) := by decide +kernel
theorem dX11_isByte_12 : decode cX11_isByte 12 = .ok (.goto 4, 3) := by decide +kernel
theorem dX11_isByte_15 : decode cX11_isByte 15 = .ok (.iconst 0, 1) := by decide +kernel
theorem dX11_isByte_16 : decode cX11_isByte 16 = .ok (.ireturn, 1) := by decide +kernel
theorem dX11_isPlan_0 : decode cX11_isPlan 0 = .ok (.iload_n 0, 1) := by decide +kernel
theorem dX11_isPlan_1 : decode cX11_isPlan 1 = .ok (.ifCond .eq 8, 3) := by decide +kernel
theorem dX11_isPlan_4 : decode cX11_isPlan 4 = .ok (.iload_n 0, 1) := by decide +kernel
theorem dX11_isPlan_5 : decode cX11_isPlan 5 = .ok (.iconst 1, 1) := by decide +kernel
theorem dX11_isPlan_6 : decode cX11_isPlan 6 = .ok (.if_icmp .ne 7, 3) := by decide +kernel
theorem dX11_isPlan_9 : decode cX11_isPlan 9 = .ok (.iconst 1, 1) := by decide +kernel
theorem dX11_isPlan_10 : decode cX11_isPlan 10 = .ok (.goto 4, 3) := by decide +kernel
theorem dX11_isPlan_13 : decode cX11_isPlan 13 = .ok (.iconst 0, 1) := by decide +kernel
theorem dX11_isPlan_14 : decode cX11_isPlan 14 = .ok (.ireturn, 1) := by decide +kernel
theorem dX11_runOf_0 : decode cX11_runOf 0 = .ok (.iload_n 1, 1) := by decide +kernel
theorem dX11_runOf_1 : decode cX11_runOf 1 = .ok (.ifCond .ne 10, 3) := by decide +kernel
theorem dX11_runOf_4 : decode cX11_runOf 4 = .ok (.aload_n 0, 1) := by decide +kernel
theorem dX11_runOf_5 : decode cX11_runOf 5 = .ok (.getfield 51, 3) := by decide +kernel
theorem dX11_runOf_8 : decode cX11_runOf 8 = .ok (.goto 7, 3) := by decide +kernel
theorem dX11_runOf_11 : decode cX11_runOf 11 = .ok (.aload_n 0, 1) := by decide +kernel
theorem dX11_runOf_12 : decode cX11_runOf 12 = .ok (.getfield 55, 3) := by decide +kernel
theorem dX11_runOf_15 : decode cX11_runOf 15 = .ok (.areturn, 1) := by decide +kernel
theorem dX11_tableOf_0 : decode cX11_tableOf 0 = .ok (.iload_n 1, 1) := by decide +kernel
theorem dX11_tableOf_1 : decode cX11_tableOf 1 = .ok (.ifCond .ne 13, 3) := by decide +kernel
theorem dX11_tableOf_4 : decode cX11_tableOf 4 = .ok (.aload_n 0, 1) := by decide +kernel
theorem dX11_tableOf_5 : decode cX11_tableOf 5 = .ok (.getfield 24, 3) := by decide +kernel
theorem dX11_tableOf_8 : decode cX11_tableOf 8 = .ok (.getfield 246, 3) := by decide +kernel
theorem dX11_tableOf_11 : decode cX11_tableOf 11 = .ok (.goto 10, 3) := by decide +kernel
theorem dX11_tableOf_14 : decode cX11_tableOf 14 = .ok (.aload_n 0, 1) := by decide +kernel
theorem dX11_tableOf_15 : decode cX11_tableOf 15 = .ok (.getfield 24, 3) := by decide +kernel
theorem dX11_tableOf_18 : decode cX11_tableOf 18 = .ok (.getfield 250, 3) := by decide +kernel
theorem dX11_tableOf_21 : decode cX11_tableOf 21 = .ok (.areturn, 1) := by decide +kernel
theorem dX11_hosts_0 : decode cX11_hosts 0 = .ok (.aload_n 0, 1) := by decide +kernel
theorem dX11_hosts_1 : decode cX11_hosts 1 = .ok (.getfield 24, 3) := by decide +kernel
theorem dX11_hosts_4 : decode cX11_hosts 4 = .ok (.getfield 246, 3) := by decide +kernel
theorem dX11_hosts_7 : decode cX11_hosts 7 = .ok (.getfield 94, 3) := by decide +kernel
theorem dX11_hosts_10 : decode cX11_hosts 10 = .ok (.ireturn, 1) := by decide +kernel
theorem dX11_found_0 : decode cX11_found 0 = .ok (.aload_n 0, 1) := by decide +kernel
theorem dX11_found_1 : decode cX11_found 1 = .ok (.iload_n 1, 1) := by decide +kernel
theorem dX11_found_2 : decode cX11_found 2 = .ok (.putfield 32, 3) := by decide +kernel
theorem dX11_found_5 : decode cX11_found 5 = .ok (.bipush (-10), 2) := by decide +kernel
theorem dX11_found_7 : decode cX11_found 7 = .ok (.iload_n 1, 1) := by decide +kernel
theorem dX11_found_8 : decode cX11_found 8 = .ok (.isub, 1) := by decide +kernel
theorem dX11_found_9 : decode cX11_found 9 = .ok (.ireturn, 1) := by decide +kernel
theorem dX11_understand_0 : decode cX11_understand 0 = .ok (.iload_n 1, 1) := by decide +kernel
theorem dX11_understand_1 : decode cX11_understand 1 = .ok (.iconst 2, 1) := by decide +kernel
theorem dX11_understand_2 : decode cX11_understand 2 = .ok (.if_icmp .ne 22, 3) := by decide +kernel
theorem dX11_understand_5 : decode cX11_understand 5 = .ok (.aload_n 0, 1) := by decide +kernel
theorem dX11_understand_6 : decode cX11_understand 6 = .ok (.getfield 24, 3) := by decide +kernel
theorem dX11_understand_9 : decode cX11_understand 9 = .ok (.getfield 78, 3) := by decide +kernel
theorem dX11_understand_12 : decode cX11_understand 12 = .ok (.aload_n 0, 1) := by decide +kernel
theorem dX11_understand_13 : decode cX11_understand 13 = .ok (.getfield 11, 3) := by decide +kernel
theorem dX11_understand_16 : decode cX11_understand 16 = .ok (.iload_n 1, 1) := by decide +kernel
theorem dX11_understand_17 : decode cX11_understand 17 = .ok (.aaload, 1) := by decide +kernel
theorem dX11_understand_18 : decode cX11_understand 18 = .ok (.invokevirtual 253, 3) := by decide +kernel
theorem dX11_understand_21 : decode cX11_understand 21 = .ok (.goto 17, 3) := by decide +kernel
theorem dX11_understand_24 : decode cX11_understand 24 = .ok (.aload_n 0, 1) := by decide +kernel
theorem dX11_understand_25 : decode cX11_understand 25 = .ok (.iload_n 1, 1) := by decide +kernel
theorem dX11_understand_26 : decode cX11_understand 26 = .ok (.invokevirtual 87, 3) := by decide +kernel
theorem dX11_understand_29 : decode cX11_understand 29 = .ok (.aload_n 0, 1) := by decide +kernel
theorem dX11_understand_30 : decode cX11_understand 30 = .ok (.getfield 11, 3) := by decide +kernel
theorem dX11_understand_33 : decode cX11_understand 33 = .ok (.iload_n 1, 1) := by decide +kernel
theorem dX11_understand_34 : decode cX11_understand 34 = .ok (.aaload, 1) := by decide +kernel
theorem dX11_understand_35 : decode cX11_understand 35 = .ok (.invokevirtual 257, 3) := by decide +kernel
theorem dX11_understand_38 : decode cX11_understand 38 = .ok (.aload_n 0, 1) := by decide +kernel
theorem dX11_understand_39 : decode cX11_understand 39 = .ok (.iconst 1, 1) := by decide +kernel
theorem dX11_understand_40 : decode cX11_understand 40 = .ok (.putfield 35, 3) := by decide +kernel
theorem dX11_understand_43 : decode cX11_understand 43 = .ok (.return_, 1) := by decide +kernel
theorem dX11_refresh_0 : decode cX11_refresh 0 = .ok (.aload_n 0, 1) := by decide +kernel
theorem dX11_refresh_1 : decode cX11_refresh 1 = .ok (.getfield 35, 3) := by decide +kernel
theorem dX11_refresh_4 : decode cX11_refresh 4 = .ok (.ifCond .eq 39, 3) := by decide +kernel
theorem dX11_refresh_7 : decode cX11_refresh 7 = .ok (.aload_n 0, 1) := by decide +kernel
theorem dX11_refresh_8 : decode cX11_refresh 8 = .ok (.getfield 51, 3) := by decide +kernel
theorem dX11_refresh_11 : decode cX11_refresh 11 = .ok (.aload_n 0, 1) := by decide +kernel
theorem dX11_refresh_12 : decode cX11_refresh 12 = .ok (.getfield 24, 3) := by decide +kernel
theorem dX11_refresh_15 : decode cX11_refresh 15 = .ok (.aload_n 0, 1) := by decide +kernel
theorem dX11_refresh_16 : decode cX11_refresh 16 = .ok (.getfield 28, 3) := by decide +kernel
theorem dX11_refresh_19 : decode cX11_refresh 19 = .ok (.iconst (-1), 1) := by decide +kernel
theorem dX11_refresh_20 : decode cX11_refresh 20 = .ok (.invokevirtual 258, 3) := by decide +kernel
theorem dX11_refresh_23 : decode cX11_refresh 23 = .ok (.aload_n 0, 1) := by decide +kernel
theorem dX11_refresh_24 : decode cX11_refresh 24 = .ok (.getfield 55, 3) := by decide +kernel
theorem dX11_refresh_27 : decode cX11_refresh 27 = .ok (.aload_n 0, 1) := by decide +kernel
theorem dX11_refresh_28 : decode cX11_refresh 28 = .ok (.getfield 24, 3) := by decide +kernel
theorem dX11_refresh_31 : decode cX11_refresh 31 = .ok (.aload_n 0, 1) := by decide +kernel
theorem dX11_refresh_32 : decode cX11_refresh 32 = .ok (.getfield 28, 3) := by decide +kernel
theorem dX11_refresh_35 : decode cX11_refresh 35 = .ok (.invokevirtual 262, 3) := by decide +kernel
theorem dX11_refresh_38 : decode cX11_refresh 38 = .ok (.aload_n 0, 1) := by decide +kernel
theorem dX11_refresh_39 : decode cX11_refresh 39 = .ok (.iconst 0, 1) := by decide +kernel
theorem dX11_refresh_40 : decode cX11_refresh 40 = .ok (.putfield 35, 3) := by decide +kernel
theorem dX11_refresh_43 : decode cX11_refresh 43 = .ok (.return_, 1) := by decide +kernel
theorem dX11_sameBit_0 : decode cX11_sameBit 0 = .ok (.aload_n 0, 1) := by decide +kernel
theorem dX11_sameBit_1 : decode cX11_sameBit 1 = .ok (.getfield 51, 3) := by decide +kernel
theorem dX11_sameBit_4 : decode cX11_sameBit 4 = .ok (.getfield 119, 3) := by decide +kernel
theorem dX11_sameBit_7 : decode cX11_sameBit 7 = .ok (.aload_n 0, 1) := by decide +kernel
theorem dX11_sameBit_8 : decode cX11_sameBit 8 = .ok (.getfield 55, 3) := by decide +kernel
theorem dX11_sameBit_11 : decode cX11_sameBit 11 = .ok (.getfield 119, 3) := by decide +kernel
theorem dX11_sameBit_14 : decode cX11_sameBit 14 = .ok (.aload_n 0, 1) := by decide +kernel
theorem dX11_sameBit_15 : decode cX11_sameBit 15 = .ok (.invokevirtual 128, 3) := by decide +kernel
theorem dX11_sameBit_18 : decode cX11_sameBit 18 = .ok (.invokevirtual 266, 3) := by decide +kernel
theorem dX11_sameBit_21 : decode cX11_sameBit 21 = .ok (.ifCond .eq 7, 3) := by decide +kernel
theorem dX11_sameBit_24 : decode cX11_sameBit 24 = .ok (.iconst 1, 1) := by decide +kernel
theorem dX11_sameBit_25 : decode cX11_sameBit 25 = .ok (.goto 4, 3) := by decide +kernel
theorem dX11_sameBit_28 : decode cX11_sameBit 28 = .ok (.iconst 0, 1) := by decide +kernel
theorem dX11_sameBit_29 : decode cX11_sameBit 29 = .ok (.ireturn, 1) := by decide +kernel
theorem dX11_pairPart_0 : decode cX11_pairPart 0 = .ok (.iload_n 1, 1) := by decide +kernel
theorem dX11_pairPart_1 : decode cX11_pairPart 1 = .ok (.aload_n 0, 1) := by decide +kernel
theorem dX11_pairPart_2 : decode cX11_pairPart 2 = .ok (.getfield 55, 3) := by decide +kernel
theorem dX11_pairPart_5 : decode cX11_pairPart 5 = .ok (.getfield 149, 3) := by decide +kernel
theorem dX11_pairPart_8 : decode cX11_pairPart 8 = .ok (.getfield 153, 3) := by decide +kernel
theorem dX11_pairPart_11 : decode cX11_pairPart 11 = .ok (.invokestatic 61, 3) := by decide +kernel
theorem dX11_pairPart_14 : decode cX11_pairPart 14 = .ok (.ifCond .ne 6, 3) := by decide +kernel
theorem dX11_pairPart_17 : decode cX11_pairPart 17 = .ok (.bipush (-3), 2) := by decide +kernel
theorem dX11_pairPart_19 : decode cX11_pairPart 19 = .ok (.ireturn, 1) := by decide +kernel
theorem dX11_pairPart_20 : decode cX11_pairPart 20 = .ok (.iload_n 2, 1) := by decide +kernel
theorem dX11_pairPart_21 : decode cX11_pairPart 21 = .ok (.ifCond .ne 18, 3) := by decide +kernel
theorem dX11_pairPart_24 : decode cX11_pairPart 24 = .ok (.aload_n 0, 1) := by decide +kernel
theorem dX11_pairPart_25 : decode cX11_pairPart 25 = .ok (.getfield 55, 3) := by decide +kernel
theorem dX11_pairPart_28 : decode cX11_pairPart 28 = .ok (.getfield 149, 3) := by decide +kernel
theorem dX11_pairPart_31 : decode cX11_pairPart 31 = .ok (.getfield 270, 3) := by decide +kernel
theorem dX11_pairPart_34 : decode cX11_pairPart 34 = .ok (.iload_n 1, 1) := by decide +kernel
theorem dX11_pairPart_35 : decode cX11_pairPart 35 = .ok (.iaload, 1) := by decide +kernel
theorem dX11_pairPart_36 : decode cX11_pairPart 36 = .ok (.goto 15, 3) := by decide +kernel
theorem dX11_pairPart_39 : decode cX11_pairPart 39 = .ok (.aload_n 0, 1) := by decide +kernel
theorem dX11_pairPart_40 : decode cX11_pairPart 40 = .ok (.getfield 55, 3) := by decide +kernel
theorem dX11_pairPart_43 : decode cX11_pairPart 43 = .ok (.getfield 149, 3) := by decide +kernel
theorem dX11_pairPart_46 : decode cX11_pairPart 46 = .ok (.getfield 271, 3) := by decide +kernel
theorem dX11_pairPart_49 : decode cX11_pairPart 49 = .ok (.iload_n 1, 1) := by decide +kernel
theorem dX11_pairPart_50 : decode cX11_pairPart 50 = .ok (.iaload, 1) := by decide +kernel
theorem dX11_pairPart_51 : decode cX11_pairPart 51 = .ok (.ireturn, 1) := by decide +kernel
theorem dX11_spareBits_0 : decode cX11_spareBits 0 = .ok (.iconst 0, 1) := by decide +kernel
theorem dX11_spareBits_1 : decode cX11_spareBits 1 = .ok (.istore_n 1, 1) := by decide +kernel
theorem dX11_spareBits_2 : decode cX11_spareBits 2 = .ok (.iconst 0, 1) := by decide +kernel
theorem dX11_spareBits_3 : decode cX11_spareBits 3 = .ok (.istore_n 2, 1) := by decide +kernel
theorem dX11_spareBits_4 : decode cX11_spareBits 4 = .ok (.iload_n 2, 1) := by decide +kernel
theorem dX11_spareBits_5 : decode cX11_spareBits 5 = .ok (.aload_n 0, 1) := by decide +kernel
theorem dX11_spareBits_6 : decode cX11_spareBits 6 = .ok (.getfield 24, 3) := by decide +kernel
theorem dX11_spareBits_9 : decode cX11_spareBits 9 = .ok (.getfield 78, 3) := by decide +kernel
theorem dX11_spareBits_12 : decode cX11_spareBits 12 = .ok (.getfield 102, 3) := by decide +kernel
theorem dX11_spareBits_15 : decode cX11_spareBits 15 = .ok (.if_icmp .ge 55, 3) := by decide +kernel
theorem dX11_spareBits_18 : decode cX11_spareBits 18 = .ok (.aload_n 0, 1) := by decide +kernel
theorem dX11_spareBits_19 : decode cX11_spareBits 19 = .ok (.getfield 58, 3) := by decide +kernel
theorem dX11_spareBits_22 : decode cX11_spareBits 22 = .ok (.aload_n 0, 1) := by decide +kernel
theorem dX11_spareBits_23 : decode cX11_spareBits 23 = .ok (.getfield 24, 3) := by decide +kernel
theorem dX11_spareBits_26 : decode cX11_spareBits 26 = .ok (.aload_n 0, 1) := by decide +kernel
theorem dX11_spareBits_27 : decode cX11_spareBits 27 = .ok (.getfield 28, 3) := by decide +kernel
theorem dX11_spareBits_30 : decode cX11_spareBits 30 = .ok (.iload_n 2, 1) := by decide +kernel
theorem dX11_spareBits_31 : decode cX11_spareBits 31 = .ok (.invokevirtual 258, 3) := by decide +kernel
theorem dX11_spareBits_34 : decode cX11_spareBits 34 = .ok (.aload_n 0, 1) := by decide +kernel
theorem dX11_spareBits_35 : decode cX11_spareBits 35 = .ok (.getfield 58, 3) := by decide +kernel
theorem dX11_spareBits_38 : decode cX11_spareBits 38 = .ok (.getfield 119, 3) := by decide +kernel
theorem dX11_spareBits_41 : decode cX11_spareBits 41 = .ok (.aload_n 0, 1) := by decide +kernel
theorem dX11_spareBits_42 : decode cX11_spareBits 42 = .ok (.getfield 51, 3) := by decide +kernel
theorem dX11_spareBits_45 : decode cX11_spareBits 45 = .ok (.getfield 119, 3) := by decide +kernel
theorem dX11_spareBits_48 : decode cX11_spareBits 48 = .ok (.aload_n 0, 1) := by decide +kernel
theorem dX11_spareBits_49 : decode cX11_spareBits 49 = .ok (.invokevirtual 128, 3) := by decide +kernel
theorem dX11_spareBits_52 : decode cX11_spareBits 52 = .ok (.invokevirtual 266, 3) := by decide +kernel
theorem dX11_spareBits_55 : decode cX11_spareBits 55 = .ok (.ifCond .eq 9, 3) := by decide +kernel
theorem dX11_spareBits_58 : decode cX11_spareBits 58 = .ok (.iload_n 1, 1) := by decide +kernel
theorem dX11_spareBits_59 : decode cX11_spareBits 59 = .ok (.iconst 1, 1) := by decide +kernel
theorem dX11_spareBits_60 : decode cX11_spareBits 60 = .ok (.iload_n 2, 1) := by decide +kernel
theorem dX11_spareBits_61 : decode cX11_spareBits 61 = .ok (.ishl, 1) := by decide +kernel
theorem dX11_spareBits_62 : decode cX11_spareBits 62 = .ok (.ior, 1) := by decide +kernel
theorem dX11_spareBits_63 : decode cX11_spareBits 63 = .ok (.istore_n 1, 1) := by decide +kernel
theorem dX11_spareBits_64 : decode cX11_spareBits 64 = .ok (.iinc 2 1, 3) := by decide +kernel
theorem dX11_spareBits_67 : decode cX11_spareBits 67 = .ok (.goto (-63), 3) := by decide +kernel
theorem dX11_spareBits_70 : decode cX11_spareBits 70 = .ok (.iload_n 1, 1) := by decide +kernel
theorem dX11_spareBits_71 : decode cX11_spareBits 71 = .ok (.ireturn, 1) := by decide +kernel
theorem dX11_counted_0 : decode cX11_counted 0 = .ok (.iload_n 1, 1) := by decide +kernel
theorem dX11_counted_1 : decode cX11_counted 1 = .ok (.tableswitch 133 0 6 #[43, 54, 65, 76, 81, 111, 122], 43) := by decide +kernel
theorem dX11_counted_44 : decode cX11_counted 44 = .ok (.aload_n 0, 1) := by decide +kernel
theorem dX11_counted_45 : decode cX11_counted 45 = .ok (.getfield 24, 3) := by decide +kernel
theorem dX11_counted_48 : decode cX11_counted 48 = .ok (.getfield 246, 3) := by decide +kernel
theorem dX11_counted_51 : decode cX11_counted 51 = .ok (.getfield 94, 3) := by decide +kernel
theorem dX11_counted_54 : decode cX11_counted 54 = .ok (.ireturn, 1) := by decide +kernel
theorem dX11_counted_55 : decode cX11_counted 55 = .ok (.aload_n 0, 1) := by decide +kernel
theorem dX11_counted_56 : decode cX11_counted 56 = .ok (.getfield 24, 3) := by decide +kernel
theorem dX11_counted_59 : decode cX11_counted 59 = .ok (.getfield 250, 3) := by decide +kernel
theorem dX11_counted_62 : decode cX11_counted 62 = .ok (.getfield 94, 3) := by decide +kernel
theorem dX11_counted_65 : decode cX11_counted 65 = .ok (.ireturn, 1) := by decide +kernel
theorem dX11_counted_66 : decode cX11_counted 66 = .ok (.aload_n 0, 1) := by decide +kernel
theorem dX11_counted_67 : decode cX11_counted 67 = .ok (.getfield 24, 3) := by decide +kernel
theorem dX11_counted_70 : decode cX11_counted 70 = .ok (.getfield 78, 3) := by decide +kernel
theorem dX11_counted_73 : decode cX11_counted 73 = .ok (.getfield 102, 3) := by decide +kernel
theorem dX11_counted_76 : decode cX11_counted 76 = .ok (.ireturn, 1) := by decide +kernel
theorem dX11_counted_77 : decode cX11_counted 77 = .ok (.aload_n 0, 1) := by decide +kernel
theorem dX11_counted_78 : decode cX11_counted 78 = .ok (.getfield 28, 3) := by decide +kernel
theorem dX11_counted_81 : decode cX11_counted 81 = .ok (.ireturn, 1) := by decide +kernel
theorem dX11_counted_82 : decode cX11_counted 82 = .ok (.aload_n 0, 1) := by decide +kernel
theorem dX11_counted_83 : decode cX11_counted 83 = .ok (.getfield 11, 3) := by decide +kernel
theorem dX11_counted_86 : decode cX11_counted 86 = .ok (.iconst 0, 1) := by decide +kernel
theorem dX11_counted_87 : decode cX11_counted 87 = .ok (.aaload, 1) := by decide +kernel
theorem dX11_counted_88 : decode cX11_counted 88 = .ok (.getfield 75, 3) := by decide +kernel
theorem dX11_counted_91 : decode cX11_counted 91 = .ok (.aload_n 0, 1) := by decide +kernel
theorem dX11_counted_92 : decode cX11_counted 92 = .ok (.getfield 11, 3) := by decide +kernel
theorem dX11_counted_95 : decode cX11_counted 95 = .ok (.iconst 1, 1) := by decide +kernel
theorem dX11_counted_96 : decode cX11_counted 96 = .ok (.aaload, 1) := by decide +kernel
theorem dX11_counted_97 : decode cX11_counted 97 = .ok (.getfield 75, 3) := by decide +kernel
theorem dX11_counted_100 : decode cX11_counted 100 = .ok (.iadd, 1) := by decide +kernel
theorem dX11_counted_101 : decode cX11_counted 101 = .ok (.aload_n 0, 1) := by decide +kernel
theorem dX11_counted_102 : decode cX11_counted 102 = .ok (.getfield 11, 3) := by decide +kernel
theorem dX11_counted_105 : decode cX11_counted 105 = .ok (.iconst 2, 1) := by decide +kernel
theorem dX11_counted_106 : decode cX11_counted 106 = .ok (.aaload, 1) := by decide +kernel
theorem dX11_counted_107 : decode cX11_counted 107 = .ok (.getfield 75, 3) := by decide +kernel
theorem dX11_counted_110 : decode cX11_counted 110 = .ok (.iadd, 1) := by decide +kernel
theorem dX11_counted_111 : decode cX11_counted 111 = .ok (.ireturn, 1) := by decide +kernel
theorem dX11_counted_112 : decode cX11_counted 112 = .ok (.aload_n 0, 1) := by decide +kernel
theorem dX11_counted_113 : decode cX11_counted 113 = .ok (.getfield 55, 3) := by decide +kernel
theorem dX11_counted_116 : decode cX11_counted 116 = .ok (.getfield 149, 3) := by decide +kernel
theorem dX11_counted_119 : decode cX11_counted 119 = .ok (.getfield 153, 3) := by decide +kernel
theorem dX11_counted_122 : decode cX11_counted 122 = .ok (.ireturn, 1) := by decide +kernel
theorem dX11_counted_123 : decode cX11_counted 123 = .ok (.aload_n 0, 1) := by decide +kernel
theorem dX11_counted_124 : decode cX11_counted 124 = .ok (.getfield 55, 3) := by decide +kernel
theorem dX11_counted_127 : decode cX11_counted 127 = .ok (.getfield 159, 3) := by decide +kernel
theorem dX11_counted_130 : decode cX11_counted 130 = .ok (.getfield 272, 3) := by decide +kernel
theorem dX11_counted_133 : decode cX11_counted 133 = .ok (.ireturn, 1) := by decide +kernel
theorem dX11_counted_134 : decode cX11_counted 134 = .ok (.aload_n 0, 1) := by decide +kernel
theorem dX11_counted_135 : decode cX11_counted 135 = .ok (.getfield 51, 3) := by decide +kernel
theorem dX11_counted_138 : decode cX11_counted 138 = .ok (.getfield 119, 3) := by decide +kernel
theorem dX11_counted_141 : decode cX11_counted 141 = .ok (.getfield 273, 3) := by decide +kernel
theorem dX11_counted_144 : decode cX11_counted 144 = .ok (.ireturn, 1) := by decide +kernel
theorem dX11_mix_0 : decode cX11_mix 0 = .ok (.ldc2_w 276, 3) := by decide +kernel
theorem dX11_mix_3 : decode cX11_mix 3 = .ok (.lload_n 0, 1) := by decide +kernel
theorem dX11_mix_4 : decode cX11_mix 4 = .ok (.lmul, 1) := by decide +kernel
theorem dX11_mix_5 : decode cX11_mix 5 = .ok (.iload_n 2, 1) := by decide +kernel
theorem dX11_mix_6 : decode cX11_mix 6 = .ok (.i2l, 1) := by decide +kernel
theorem dX11_mix_7 : decode cX11_mix 7 = .ok (.ladd, 1) := by decide +kernel
theorem dX11_mix_8 : decode cX11_mix 8 = .ok (.lreturn, 1) := by decide +kernel
theorem dX11_mixTexts_0 : decode cX11_mixTexts 0 = .ok (.lload_n 1, 1) := by decide +kernel
theorem dX11_mixTexts_1 : decode cX11_mixTexts 1 = .ok (.lstore_n 3, 1) := by decide +kernel
theorem dX11_mixTexts_2 : decode cX11_mixTexts 2 = .ok (.iconst 0, 1) := by decide +kernel
theorem dX11_mixTexts_3 : decode cX11_mixTexts 3 = .ok (.istore 5, 2) := by decide +kernel
theorem dX11_mixTexts_5 : decode cX11_mixTexts 5 = .ok (.iload 5, 2) := by decide +kernel
theorem dX11_mixTexts_7 : decode cX11_mixTexts 7 = .ok (.iconst 3, 1) := by decide +kernel
theorem dX11_mixTexts_8 : decode cX11_mixTexts 8 = .ok (.if_icmp .ge 20, 3) := by decide +kernel
theorem dX11_mixTexts_11 : decode cX11_mixTexts 11 = .ok (.lload_n 3, 1) := by decide +kernel
theorem dX11_mixTexts_12 : decode cX11_mixTexts 12 = .ok (.aload_n 0, 1) := by decide +kernel
theorem dX11_mixTexts_13 : decode cX11_mixTexts 13 = .ok (.iload 5, 2) := by decide +kernel
theorem dX11_mixTexts_15 : decode cX11_mixTexts 15 = .ok (.invokevirtual 278, 3) := by decide +kernel
theorem dX11_mixTexts_18 : decode cX11_mixTexts 18 = .ok (.invokestatic 228, 3) := by decide +kernel
theorem dX11_mixTexts_21 : decode cX11_mixTexts 21 = .ok (.lstore_n 3, 1) := by decide +kernel
theorem dX11_mixTexts_22 : decode cX11_mixTexts 22 = .ok (.iinc 5 1, 3) := by decide +kernel
theorem dX11_mixTexts_25 : decode cX11_mixTexts 25 = .ok (.goto (-20), 3) := by decide +kernel
theorem dX11_mixTexts_28 : decode cX11_mixTexts 28 = .ok (.iconst 0, 1) := by decide +kernel
theorem dX11_mixTexts_29 : decode cX11_mixTexts 29 = .ok (.istore 5, 2) := by decide +kernel
theorem dX11_mixTexts_31 : decode cX11_mixTexts 31 = .ok (.iload 5, 2) := by decide +kernel
theorem dX11_mixTexts_33 : decode cX11_mixTexts 33 = .ok (.bipush 10, 2) := by decide +kernel
theorem dX11_mixTexts_35 : decode cX11_mixTexts 35 = .ok (.if_icmp .ge 57, 3) := by decide +kernel
theorem dX11_mixTexts_38 : decode cX11_mixTexts 38 = .ok (.lload_n 3, 1) := by decide +kernel
theorem dX11_mixTexts_39 : decode cX11_mixTexts 39 = .ok (.aload_n 0, 1) := by decide +kernel
theorem dX11_mixTexts_40 : decode cX11_mixTexts 40 = .ok (.iconst 0, 1) := by decide +kernel
theorem dX11_mixTexts_41 : decode cX11_mixTexts 41 = .ok (.iload 5, 2) := by decide +kernel
theorem dX11_mixTexts_43 : decode cX11_mixTexts 43 = .ok (.iconst 0, 1) := by decide +kernel
theorem dX11_mixTexts_44 : decode cX11_mixTexts 44 = .ok (.invokevirtual 280, 3) := by decide +kernel
theorem dX11_mixTexts_47 : decode cX11_mixTexts 47 = .ok (.invokestatic 228, 3) := by decide +kernel
theorem dX11_mixTexts_50 : decode cX11_mixTexts 50 = .ok (.aload_n 0, 1) := by decide +kernel
theorem dX11_mixTexts_51 : decode cX11_mixTexts 51 = .ok (.iconst 0, 1) := by decide +kernel
theorem dX11_mixTexts_52 : decode cX11_mixTexts 52 = .ok (.iload 5, 2) := by decide +kernel
theorem dX11_mixTexts_54 : decode cX11_mixTexts 54 = .ok (.iconst 1, 1) := by decide +kernel
theorem dX11_mixTexts_55 : decode cX11_mixTexts 55 = .ok (.invokevirtual 280, 3) := by decide +kernel
theorem dX11_mixTexts_58 : decode cX11_mixTexts 58 = .ok (.invokestatic 228, 3) := by decide +kernel
theorem dX11_mixTexts_61 : decode cX11_mixTexts 61 = .ok (.lstore_n 3, 1) := by decide +kernel
theorem dX11_mixTexts_62 : decode cX11_mixTexts 62 = .ok (.lload_n 3, 1) := by decide +kernel
theorem dX11_mixTexts_63 : decode cX11_mixTexts 63 = .ok (.aload_n 0, 1) := by decide +kernel
theorem dX11_mixTexts_64 : decode cX11_mixTexts 64 = .ok (.iconst 1, 1) := by decide +kernel
theorem dX11_mixTexts_65 : decode cX11_mixTexts 65 = .ok (.iload 5, 2) := by decide +kernel
theorem dX11_mixTexts_67 : decode cX11_mixTexts 67 = .ok (.iconst 0, 1) := by decide +kernel
theorem dX11_mixTexts_68 : decode cX11_mixTexts 68 = .ok (.invokevirtual 280, 3) := by decide +kernel
theorem dX11_mixTexts_71 : decode cX11_mixTexts 71 = .ok (.invokestatic 228, 3) := by decide +kernel
theorem dX11_mixTexts_74 : decode cX11_mixTexts 74 = .ok (.aload_n 0, 1) := by decide +kernel
theorem dX11_mixTexts_75 : decode cX11_mixTexts 75 = .ok (.iconst 1, 1) := by decide +kernel
theorem dX11_mixTexts_76 : decode cX11_mixTexts 76 = .ok (.iload 5, 2) := by decide +kernel
theorem dX11_mixTexts_78 : decode cX11_mixTexts 78 = .ok (.iconst 1, 1) := by decide +kernel
theorem dX11_mixTexts_79 : decode cX11_mixTexts 79 = .ok (.invokevirtual 280, 3) := by decide +kernel
theorem dX11_mixTexts_82 : decode cX11_mixTexts 82 = .ok (.invokestatic 228, 3) := by decide +kernel
theorem dX11_mixTexts_85 : decode cX11_mixTexts 85 = .ok (.lstore_n 3, 1) := by decide +kernel
theorem dX11_mixTexts_86 : decode cX11_mixTexts 86 = .ok (.iinc 5 1, 3) := by decide +kernel
theorem dX11_mixTexts_89 : decode cX11_mixTexts 89 = .ok (.goto (-58), 3) := by decide +kernel
theorem dX11_mixTexts_92 : decode cX11_mixTexts 92 = .ok (.iconst 0, 1) := by decide +kernel
theorem dX11_mixTexts_93 : decode cX11_mixTexts 93 = .ok (.istore 5, 2) := by decide +kernel
theorem dX11_mixTexts_95 : decode cX11_mixTexts 95 = .ok (.iload 5, 2) := by decide +kernel
theorem dX11_mixTexts_97 : decode cX11_mixTexts 97 = .ok (.bipush 12, 2) := by decide +kernel
theorem dX11_mixTexts_99 : decode cX11_mixTexts 99 = .ok (.if_icmp .ge 48, 3) := by decide +kernel
theorem dX11_mixTexts_102 : decode cX11_mixTexts 102 = .ok (.lload_n 3, 1) := by decide +kernel
theorem dX11_mixTexts_103 : decode cX11_mixTexts 103 = .ok (.aload_n 0, 1) := by decide +kernel
theorem dX11_mixTexts_104 : decode cX11_mixTexts 104 = .ok (.iload 5, 2) := by decide +kernel
theorem dX11_mixTexts_106 : decode cX11_mixTexts 106 = .ok (.iconst 0, 1) := by decide +kernel
theorem dX11_mixTexts_107 : decode cX11_mixTexts 107 = .ok (.invokevirtual 284, 3) := by decide +kernel
theorem dX11_mixTexts_110 : decode cX11_mixTexts 110 = .ok (.invokestatic 228, 3) := by decide +kernel
theorem dX11_mixTexts_113 : decode cX11_mixTexts 113 = .ok (.aload_n 0, 1) := by decide +kernel
theorem dX11_mixTexts_114 : decode cX11_mixTexts 114 = .ok (.iload 5, 2) := by decide +kernel
theorem dX11_mixTexts_116 : decode cX11_mixTexts 116 = .ok (.iconst 1, 1) := by decide +kernel
theorem dX11_mixTexts_117 : decode cX11_mixTexts 117 = .ok (.invokevirtual 284, 3) := by decide +kernel
theorem dX11_mixTexts_120 : decode cX11_mixTexts 120 = .ok (.invokestatic 228, 3) := by decide +kernel
theorem dX11_mixTexts_123 : decode cX11_mixTexts 123 = .ok (.lstore_n 3, 1) := by decide +kernel
theorem dX11_mixTexts_124 : decode cX11_mixTexts 124 = .ok (.lload_n 3, 1) := by decide +kernel
theorem dX11_mixTexts_125 : decode cX11_mixTexts 125 = .ok (.aload_n 0, 1) := by decide +kernel
theorem dX11_mixTexts_126 : decode cX11_mixTexts 126 = .ok (.getfield 55, 3) := by decide +kernel
theorem dX11_mixTexts_129 : decode cX11_mixTexts 129 = .ok (.getfield 159, 3) := by decide +kernel
theorem dX11_mixTexts_132 : decode cX11_mixTexts 132 = .ok (.iload 5, 2) := by decide +kernel
theorem dX11_mixTexts_134 : decode cX11_mixTexts 134 = .ok (.invokevirtual 163, 3) := by decide +kernel
theorem dX11_mixTexts_137 : decode cX11_mixTexts 137 = .ok (.invokestatic 228, 3) := by decide +kernel
theorem dX11_mixTexts_140 : decode cX11_mixTexts 140 = .ok (.lstore_n 3, 1) := by decide +kernel
theorem dX11_mixTexts_141 : decode cX11_mixTexts 141 = .ok (.iinc 5 1, 3) := by decide +kernel
theorem dX11_mixTexts_144 : decode cX11_mixTexts 144 = .ok (.goto (-49), 3) := by decide +kernel
theorem dX11_mixTexts_147 : decode cX11_mixTexts 147 = .ok (.lload_n 3, 1) := by decide +kernel
theorem dX11_mixTexts_148 : decode cX11_mixTexts 148 = .ok (.lreturn, 1) := by decide +kernel
theorem dX11_mixReport_0 : decode cX11_mixReport 0 = .ok (.aload_n 0, 1) := by decide +kernel
theorem dX11_mixReport_1 : decode cX11_mixReport 1 = .ok (.lload_n 1, 1) := by decide +kernel
theorem dX11_mixReport_2 : decode cX11_mixReport 2 = .ok (.aload_n 3, 1) := by decide +kernel
theorem dX11_mixReport_3 : decode cX11_mixReport 3 = .ok (.invokevirtual 287, 3) := by decide +kernel
theorem dX11_mixReport_6 : decode cX11_mixReport 6 = .ok (.lstore 4, 2) := by decide +kernel
theorem dX11_mixReport_8 : decode cX11_mixReport 8 = .ok (.iconst 0, 1) := by decide +kernel
theorem dX11_mixReport_9 : decode cX11_mixReport 9 = .ok (.istore 6, 2) := by decide +kernel
theorem dX11_mixReport_11 : decode cX11_mixReport 11 = .ok (.iload 6, 2) := by decide +kernel
theorem dX11_mixReport_13 : decode cX11_mixReport 13 = .ok (.iconst 5, 1) := by decide +kernel
theorem dX11_mixReport_14 : decode cX11_mixReport 14 = .ok (.if_icmp .ge 22, 3) := by decide +kernel
theorem dX11_mixReport_17 : decode cX11_mixReport 17 = .ok (.lload 4, 2) := by decide +kernel
theorem dX11_mixReport_19 : decode cX11_mixReport 19 = .ok (.aload_n 3, 1) := by decide +kernel
theorem dX11_mixReport_20 : decode cX11_mixReport 20 = .ok (.iload 6, 2) := by decide +kernel
theorem dX11_mixReport_22 : decode cX11_mixReport 22 = .ok (.invokevirtual 168, 3) := by decide +kernel
theorem dX11_mixReport_25 : decode cX11_mixReport 25 = .ok (.invokestatic 228, 3) := by decide +kernel
theorem dX11_mixReport_28 : decode cX11_mixReport 28 = .ok (.lstore 4, 2) := by decide +kernel
theorem dX11_mixReport_30 : decode cX11_mixReport 30 = .ok (.iinc 6 1, 3) := by decide +kernel
theorem dX11_mixReport_33 : decode cX11_mixReport 33 = .ok (.goto (-22), 3) := by decide +kernel
theorem dX11_mixReport_36 : decode cX11_mixReport 36 = .ok (.iconst 0, 1) := by decide +kernel
theorem dX11_mixReport_37 : decode cX11_mixReport 37 = .ok (.istore 6, 2) := by decide +kernel
theorem dX11_mixReport_39 : decode cX11_mixReport 39 = .ok (.iload 6, 2) := by decide +kernel
theorem dX11_mixReport_41 : decode cX11_mixReport 41 = .ok (.bipush 60, 2) := by decide +kernel
theorem dX11_mixReport_43 : decode cX11_mixReport 43 = .ok (.if_icmp .ge 22, 3) := by decide +kernel
theorem dX11_mixReport_46 : decode cX11_mixReport 46 = .ok (.lload 4, 2) := by decide +kernel
theorem dX11_mixReport_48 : decode cX11_mixReport 48 = .ok (.aload_n 3, 1) := by decide +kernel
theorem dX11_mixReport_49 : decode cX11_mixReport 49 = .ok (.iload 6, 2) := by decide +kernel
theorem dX11_mixReport_51 : decode cX11_mixReport 51 = .ok (.invokevirtual 171, 3) := by decide +kernel
theorem dX11_mixReport_54 : decode cX11_mixReport 54 = .ok (.invokestatic 228, 3) := by decide +kernel
theorem dX11_mixReport_57 : decode cX11_mixReport 57 = .ok (.lstore 4, 2) := by decide +kernel
theorem dX11_mixReport_59 : decode cX11_mixReport 59 = .ok (.iinc 6 1, 3) := by decide +kernel
theorem dX11_mixReport_62 : decode cX11_mixReport 62 = .ok (.goto (-23), 3) := by decide +kernel
theorem dX11_mixReport_65 : decode cX11_mixReport 65 = .ok (.lload 4, 2) := by decide +kernel
theorem dX11_mixReport_67 : decode cX11_mixReport 67 = .ok (.lreturn, 1) := by decide +kernel
theorem dX11_mixAnswers_0 : decode cX11_mixAnswers 0 = .ok (.lload_n 1, 1) := by decide +kernel
theorem dX11_mixAnswers_1 : decode cX11_mixAnswers 1 = .ok (.aload_n 3, 1) := by decide +kernel
theorem dX11_mixAnswers_2 : decode cX11_mixAnswers 2 = .ok (.getfield 123, 3) := by decide +kernel
theorem dX11_mixAnswers_5 : decode cX11_mixAnswers 5 = .ok (.invokestatic 228, 3) := by decide +kernel
theorem dX11_mixAnswers_8 : decode cX11_mixAnswers 8 = .ok (.lstore 4, 2) := by decide +kernel
theorem dX11_mixAnswers_10 : decode cX11_mixAnswers 10 = .ok (.iconst 0, 1) := by decide +kernel
theorem dX11_mixAnswers_11 : decode cX11_mixAnswers 11 = .ok (.istore 6, 2) := by decide +kernel
theorem dX11_mixAnswers_13 : decode cX11_mixAnswers 13 = .ok (.iload 6, 2) := by decide +kernel
theorem dX11_mixAnswers_15 : decode cX11_mixAnswers 15 = .ok (.aload_n 0, 1) := by decide +kernel
theorem dX11_mixAnswers_16 : decode cX11_mixAnswers 16 = .ok (.invokevirtual 128, 3) := by decide +kernel
theorem dX11_mixAnswers_19 : decode cX11_mixAnswers 19 = .ok (.if_icmp .ge 22, 3) := by decide +kernel
theorem dX11_mixAnswers_22 : decode cX11_mixAnswers 22 = .ok (.lload 4, 2) := by decide +kernel
theorem dX11_mixAnswers_24 : decode cX11_mixAnswers 24 = .ok (.aload_n 3, 1) := by decide +kernel
theorem dX11_mixAnswers_25 : decode cX11_mixAnswers 25 = .ok (.iload 6, 2) := by decide +kernel
theorem dX11_mixAnswers_27 : decode cX11_mixAnswers 27 = .ok (.invokevirtual 132, 3) := by decide +kernel
theorem dX11_mixAnswers_30 : decode cX11_mixAnswers 30 = .ok (.invokestatic 228, 3) := by decide +kernel
theorem dX11_mixAnswers_33 : decode cX11_mixAnswers 33 = .ok (.lstore 4, 2) := by decide +kernel
theorem dX11_mixAnswers_35 : decode cX11_mixAnswers 35 = .ok (.iinc 6 1, 3) := by decide +kernel
theorem dX11_mixAnswers_38 : decode cX11_mixAnswers 38 = .ok (.goto (-25), 3) := by decide +kernel
theorem dX11_mixAnswers_41 : decode cX11_mixAnswers 41 = .ok (.lload 4, 2) := by decide +kernel
theorem dX11_mixAnswers_43 : decode cX11_mixAnswers 43 = .ok (.lreturn, 1) := by decide +kernel
theorem dX11_mixEnds_0 : decode cX11_mixEnds 0 = .ok (.lload_n 1, 1) := by decide +kernel
theorem dX11_mixEnds_1 : decode cX11_mixEnds 1 = .ok (.lstore_n 3, 1) := by decide +kernel
theorem dX11_mixEnds_2 : decode cX11_mixEnds 2 = .ok (.iconst 0, 1) := by decide +kernel
theorem dX11_mixEnds_3 : decode cX11_mixEnds 3 = .ok (.istore 5, 2) := by decide +kernel
theorem dX11_mixEnds_5 : decode cX11_mixEnds 5 = .ok (.iload 5, 2) := by decide +kernel
theorem dX11_mixEnds_7 : decode cX11_mixEnds 7 = .ok (.bipush 9, 2) := by decide +kernel
theorem dX11_mixEnds_9 : decode cX11_mixEnds 9 = .ok (.if_icmp .ge 62, 3) := by decide +kernel
theorem dX11_mixEnds_12 : decode cX11_mixEnds 12 = .ok (.aload_n 0, 1) := by decide +kernel
theorem dX11_mixEnds_13 : decode cX11_mixEnds 13 = .ok (.getfield 58, 3) := by decide +kernel
theorem dX11_mixEnds_16 : decode cX11_mixEnds 16 = .ok (.aload_n 0, 1) := by decide +kernel
theorem dX11_mixEnds_17 : decode cX11_mixEnds 17 = .ok (.getfield 24, 3) := by decide +kernel
theorem dX11_mixEnds_20 : decode cX11_mixEnds 20 = .ok (.iload 5, 2) := by decide +kernel
theorem dX11_mixEnds_22 : decode cX11_mixEnds 22 = .ok (.iconst (-1), 1) := by decide +kernel
theorem dX11_mixEnds_23 : decode cX11_mixEnds 23 = .ok (.invokevirtual 258, 3) := by decide +kernel
theorem dX11_mixEnds_26 : decode cX11_mixEnds 26 = .ok (.aload_n 0, 1) := by decide +kernel
theorem dX11_mixEnds_27 : decode cX11_mixEnds 27 = .ok (.lload_n 3, 1) := by decide +kernel
theorem dX11_mixEnds_28 : decode cX11_mixEnds 28 = .ok (.aload_n 0, 1) := by decide +kernel
theorem dX11_mixEnds_29 : decode cX11_mixEnds 29 = .ok (.getfield 58, 3) := by decide +kernel
theorem dX11_mixEnds_32 : decode cX11_mixEnds 32 = .ok (.getfield 119, 3) := by decide +kernel
theorem dX11_mixEnds_35 : decode cX11_mixEnds 35 = .ok (.invokevirtual 287, 3) := by decide +kernel
theorem dX11_mixEnds_38 : decode cX11_mixEnds 38 = .ok (.lstore_n 3, 1) := by decide +kernel
theorem dX11_mixEnds_39 : decode cX11_mixEnds 39 = .ok (.aload_n 0, 1) := by decide +kernel
theorem dX11_mixEnds_40 : decode cX11_mixEnds 40 = .ok (.getfield 58, 3) := by decide +kernel
theorem dX11_mixEnds_43 : decode cX11_mixEnds 43 = .ok (.aload_n 0, 1) := by decide +kernel
theorem dX11_mixEnds_44 : decode cX11_mixEnds 44 = .ok (.getfield 24, 3) := by decide +kernel
theorem dX11_mixEnds_47 : decode cX11_mixEnds 47 = .ok (.iload 5, 2) := by decide +kernel
theorem dX11_mixEnds_49 : decode cX11_mixEnds 49 = .ok (.invokevirtual 262, 3) := by decide +kernel
theorem dX11_mixEnds_52 : decode cX11_mixEnds 52 = .ok (.aload_n 0, 1) := by decide +kernel
theorem dX11_mixEnds_53 : decode cX11_mixEnds 53 = .ok (.lload_n 3, 1) := by decide +kernel
theorem dX11_mixEnds_54 : decode cX11_mixEnds 54 = .ok (.aload_n 0, 1) := by decide +kernel
theorem dX11_mixEnds_55 : decode cX11_mixEnds 55 = .ok (.getfield 58, 3) := by decide +kernel
theorem dX11_mixEnds_58 : decode cX11_mixEnds 58 = .ok (.getfield 119, 3) := by decide +kernel
theorem dX11_mixEnds_61 : decode cX11_mixEnds 61 = .ok (.invokevirtual 287, 3) := by decide +kernel
theorem dX11_mixEnds_64 : decode cX11_mixEnds 64 = .ok (.lstore_n 3, 1) := by decide +kernel
theorem dX11_mixEnds_65 : decode cX11_mixEnds 65 = .ok (.iinc 5 1, 3) := by decide +kernel
theorem dX11_mixEnds_68 : decode cX11_mixEnds 68 = .ok (.goto (-63), 3) := by decide +kernel
theorem dX11_mixEnds_71 : decode cX11_mixEnds 71 = .ok (.lload_n 3, 1) := by decide +kernel
theorem dX11_mixEnds_72 : decode cX11_mixEnds 72 = .ok (.lreturn, 1) := by decide +kernel
theorem dX11_endSpeaks_0 : decode cX11_endSpeaks 0 = .ok (.iload_n 0, 1) := by decide +kernel
theorem dX11_endSpeaks_1 : decode cX11_endSpeaks 1 = .ok (.bipush 7, 2) := by decide +kernel
theorem dX11_endSpeaks_3 : decode cX11_endSpeaks 3 = .ok (.if_icmp .eq 9, 3) := by decide +kernel
theorem dX11_endSpeaks_6 : decode cX11_endSpeaks 6 = .ok (.iload_n 0, 1) := by decide +kernel
theorem dX11_endSpeaks_7 : decode cX11_endSpeaks 7 = .ok (.bipush 8, 2) := by decide +kernel
theorem dX11_endSpeaks_9 : decode cX11_endSpeaks 9 = .ok (.if_icmp .ne 7, 3) := by decide +kernel
theorem dX11_endSpeaks_12 : decode cX11_endSpeaks 12 = .ok (.iconst 1, 1) := by decide +kernel
theorem dX11_endSpeaks_13 : decode cX11_endSpeaks 13 = .ok (.goto 4, 3) := by decide +kernel
theorem dX11_endSpeaks_16 : decode cX11_endSpeaks 16 = .ok (.iconst 0, 1) := by decide +kernel
theorem dX11_endSpeaks_17 : decode cX11_endSpeaks 17 = .ok (.ireturn, 1) := by decide +kernel
theorem dX11_isFigure_0 : decode cX11_isFigure 0 = .ok (.iload_n 0, 1) := by decide +kernel
theorem dX11_isFigure_1 : decode cX11_isFigure 1 = .ok (.bipush 48, 2) := by decide +kernel
theorem dX11_isFigure_3 : decode cX11_isFigure 3 = .ok (.if_icmp .lt 13, 3) := by decide +kernel
theorem dX11_isFigure_6 : decode cX11_isFigure 6 = .ok (.iload_n 0, 1) := by decide +kernel
theorem dX11_isFigure_7 : decode cX11_isFigure 7 = .ok (.bipush 57, 2) := by decide +kernel
theorem dX11_isFigure_9 : decode cX11_isFigure 9 = .ok (.if_icmp .gt 7, 3) := by decide +kernel
theorem dX11_isFigure_12 : decode cX11_isFigure 12 = .ok (.iconst 1, 1) := by decide +kernel
theorem dX11_isFigure_13 : decode cX11_isFigure 13 = .ok (.goto 4, 3) := by decide +kernel
theorem dX11_isFigure_16 : decode cX11_isFigure 16 = .ok (.iconst 0, 1) := by decide +kernel
theorem dX11_isFigure_17 : decode cX11_isFigure 17 = .ok (.ireturn, 1) := by decide +kernel
theorem dX11_bitsOf_0 : decode cX11_bitsOf 0 = .ok (.fload_n 0, 1) := by decide +kernel
theorem dX11_bitsOf_1 : decode cX11_bitsOf 1 = .ok (.fconst 0, 1) := by decide +kernel
theorem dX11_bitsOf_2 : decode cX11_bitsOf 2 = .ok (.fcmp .l, 1) := by decide +kernel
theorem dX11_bitsOf_3 : decode cX11_bitsOf 3 = .ok (.ifCond .gt 5, 3) := by decide +kernel
theorem dX11_bitsOf_6 : decode cX11_bitsOf 6 = .ok (.iconst 0, 1) := by decide +kernel
theorem dX11_bitsOf_7 : decode cX11_bitsOf 7 = .ok (.ireturn, 1) := by decide +kernel
theorem dX11_bitsOf_8 : decode cX11_bitsOf 8 = .ok (.bipush 127, 2) := by decide +kernel
theorem dX11_bitsOf_10 : decode cX11_bitsOf 10 = .ok (.istore_n 1, 1) := by decide +kernel
theorem dX11_bitsOf_11 : decode cX11_bitsOf 11 = .ok (.fload_n 0, 1) := by decide +kernel
theorem dX11_bitsOf_12 : decode cX11_bitsOf 12 = .ok (.fstore_n 2, 1) := by decide +kernel
theorem dX11_bitsOf_13 : decode cX11_bitsOf 13 = .ok (.iconst 0, 1) := by decide +kernel
theorem dX11_bitsOf_14 : decode cX11_bitsOf 14 = .ok (.istore_n 3, 1) := by decide +kernel
theorem dX11_bitsOf_15 : decode cX11_bitsOf 15 = .ok (.iload_n 3, 1) := by decide +kernel
theorem dX11_bitsOf_16 : decode cX11_bitsOf 16 = .ok (.bipush 127, 2) := by decide +kernel
theorem dX11_bitsOf_18 : decode cX11_bitsOf 18 = .ok (.if_icmp .ge 22, 3) := by decide +kernel
theorem dX11_bitsOf_21 : decode cX11_bitsOf 21 = .ok (.fload_n 2, 1) := by decide +kernel
theorem dX11_bitsOf_22 : decode cX11_bitsOf 22 = .ok (.fconst 2, 1) := by decide +kernel
theorem dX11_bitsOf_23 : decode cX11_bitsOf 23 = .ok (.fcmp .l, 1) := by decide +kernel
theorem dX11_bitsOf_24 : decode cX11_bitsOf 24 = .ok (.ifCond .lt 16, 3) := by decide +kernel
theorem dX11_bitsOf_27 : decode cX11_bitsOf 27 = .ok (.fload_n 2, 1) := by decide +kernel
theorem dX11_bitsOf_28 : decode cX11_bitsOf 28 = .ok (.fconst 2, 1) := by decide +kernel
theorem dX11_bitsOf_29 : decode cX11_bitsOf 29 = .ok (.fdiv, 1) := by decide +kernel
theorem dX11_bitsOf_30 : decode cX11_bitsOf 30 = .ok (.fstore_n 2, 1) := by decide +kernel
theorem dX11_bitsOf_31 : decode cX11_bitsOf 31 = .ok (.iinc 1 1, 3) := by decide +kernel
theorem dX11_bitsOf_34 : decode cX11_bitsOf 34 = .ok (.iinc 3 1, 3) := by decide +kernel
theorem dX11_bitsOf_37 : decode cX11_bitsOf 37 = .ok (.goto (-22), 3) := by decide +kernel
theorem dX11_bitsOf_40 : decode cX11_bitsOf 40 = .ok (.iconst 0, 1) := by decide +kernel
theorem dX11_bitsOf_41 : decode cX11_bitsOf 41 = .ok (.istore_n 3, 1) := by decide +kernel
theorem dX11_bitsOf_42 : decode cX11_bitsOf 42 = .ok (.iload_n 3, 1) := by decide +kernel
theorem dX11_bitsOf_43 : decode cX11_bitsOf 43 = .ok (.bipush 126, 2) := by decide +kernel
theorem dX11_bitsOf_45 : decode cX11_bitsOf 45 = .ok (.if_icmp .ge 22, 3) := by decide +kernel
theorem dX11_bitsOf_48 : decode cX11_bitsOf 48 = .ok (.fload_n 2, 1) := by decide +kernel
theorem dX11_bitsOf_49 : decode cX11_bitsOf 49 = .ok (.fconst 1, 1) := by decide +kernel
theorem dX11_bitsOf_50 : decode cX11_bitsOf 50 = .ok (.fcmp .g, 1) := by decide +kernel
theorem dX11_bitsOf_51 : decode cX11_bitsOf 51 = .ok (.ifCond .ge 16, 3) := by decide +kernel
theorem dX11_bitsOf_54 : decode cX11_bitsOf 54 = .ok (.fload_n 2, 1) := by decide +kernel
theorem dX11_bitsOf_55 : decode cX11_bitsOf 55 = .ok (.fconst 2, 1) := by decide +kernel
theorem dX11_bitsOf_56 : decode cX11_bitsOf 56 = .ok (.fmul, 1) := by decide +kernel
theorem dX11_bitsOf_57 : decode cX11_bitsOf 57 = .ok (.fstore_n 2, 1) := by decide +kernel
theorem dX11_bitsOf_58 : decode cX11_bitsOf 58 = .ok (.iinc 1 (-1), 3) := by decide +kernel
theorem dX11_bitsOf_61 : decode cX11_bitsOf 61 = .ok (.iinc 3 1, 3) := by decide +kernel
theorem dX11_bitsOf_64 : decode cX11_bitsOf 64 = .ok (.goto (-22), 3) := by decide +kernel
theorem dX11_bitsOf_67 : decode cX11_bitsOf 67 = .ok (.iload_n 1, 1) := by decide +kernel
theorem dX11_bitsOf_68 : decode cX11_bitsOf 68 = .ok (.bipush 23, 2) := by decide +kernel
theorem dX11_bitsOf_70 : decode cX11_bitsOf 70 = .ok (.ishl, 1) := by decide +kernel
theorem dX11_bitsOf_71 : decode cX11_bitsOf 71 = .ok (.fload_n 2, 1) := by decide +kernel
theorem dX11_bitsOf_72 : decode cX11_bitsOf 72 = .ok (.fconst 1, 1) := by decide +kernel
theorem dX11_bitsOf_73 : decode cX11_bitsOf 73 = .ok (.fsub, 1) := by decide +kernel
theorem dX11_bitsOf_74 : decode cX11_bitsOf 74 = .ok (.ldc_w 290, 3) := by decide +kernel
theorem dX11_bitsOf_77 : decode cX11_bitsOf 77 = .ok (.fmul, 1) := by decide +kernel
theorem dX11_bitsOf_78 : decode cX11_bitsOf 78 = .ok (.f2i, 1) := by decide +kernel
theorem dX11_bitsOf_79 : decode cX11_bitsOf 79 = .ok (.ior, 1) := by decide +kernel
theorem dX11_bitsOf_80 : decode cX11_bitsOf 80 = .ok (.ireturn, 1) := by decide +kernel
theorem dX12_init_0 : decode cX12_init 0 = .ok (.aload_n 0, 1) := by decide +kernel
theorem dX12_init_1 : decode cX12_init 1 = .ok (.invokespecial 1, 3) := by decide +kernel
theorem dX12_init_4 : decode cX12_init 4 = .ok (.aload_n 0, 1) := by decide +kernel
theorem dX12_init_5 : decode cX12_init 5 = .ok (.iconst 3, 1) := by decide +kernel
theorem dX12_init_6 : decode cX12_init 6 = .ok (.newarray .int, 2) := by decide +kernel
theorem dX12_init_8 : decode cX12_init 8 = .ok (.putfield 7, 3) := by decide +kernel
theorem dX12_init_11 : decode cX12_init 11 = .ok (.aload_n 0, 1) := by decide +kernel
theorem dX12_init_12 : decode cX12_init 12 = .ok (.bipush 90, 2) := by decide +kernel
theorem dX12_init_14 : decode cX12_init 14 = .ok (.newarray .int, 2) := by decide +kernel
theorem dX12_init_16 : decode cX12_init 16 = .ok (.putfield 13, 3) := by decide +kernel
theorem dX12_init_19 : decode cX12_init 19 = .ok (.aload_n 0, 1) := by decide +kernel
theorem dX12_init_20 : decode cX12_init 20 = .ok (.iconst 3, 1) := by decide +kernel
theorem dX12_init_21 : decode cX12_init 21 = .ok (.newarray .int, 2) := by decide +kernel
theorem dX12_init_23 : decode cX12_init 23 = .ok (.putfield 16, 3) := by decide +kernel
theorem dX12_init_26 : decode cX12_init 26 = .ok (.aload_n 0, 1) := by decide +kernel
theorem dX12_init_27 : decode cX12_init 27 = .ok (.iconst 2, 1) := by decide +kernel
theorem dX12_init_28 : decode cX12_init 28 = .ok (.newarray .int, 2) := by decide +kernel
theorem dX12_init_30 : decode cX12_init 30 = .ok (.putfield 19, 3) := by decide +kernel
theorem dX12_init_33 : decode cX12_init 33 = .ok (.aload_n 0, 1) := by decide +kernel
theorem dX12_init_34 : decode cX12_init 34 = .ok (.bipush 20, 2) := by decide +kernel
theorem dX12_init_36 : decode cX12_init 36 = .ok (.newarray .int, 2) := by decide +kernel
theorem dX12_init_38 : decode cX12_init 38 = .ok (.putfield 22, 3) := by decide +kernel
theorem dX12_init_41 : decode cX12_init 41 = .ok (.aload_n 0, 1) := by decide +kernel
theorem dX12_init_42 : decode cX12_init 42 = .ok (.bipush 20, 2) := by decide +kernel
theorem dX12_init_44 : decode cX12_init 44 = .ok (.newarray .int, 2) := by decide +kernel
theorem dX12_init_46 : decode cX12_init 46 = .ok (.putfield 25, 3) := by decide +kernel
theorem dX12_init_49 : decode cX12_init 49 = .ok (.aload_n 0, 1) := by decide +kernel
theorem dX12_init_50 : decode cX12_init 50 = .ok (.bipush 12, 2) := by decide +kernel
theorem dX12_init_52 : decode cX12_init 52 = .ok (.newarray .int, 2) := by decide +kernel
theorem dX12_init_54 : decode cX12_init 54 = .ok (.putfield 28, 3) := by decide +kernel
theorem dX12_init_57 : decode cX12_init 57 = .ok (.aload_n 0, 1) := by decide +kernel
theorem dX12_init_58 : decode cX12_init 58 = .ok (.bipush 12, 2) := by decide +kernel
theorem dX12_init_60 : decode cX12_init 60 = .ok (.newarray .int, 2) := by decide +kernel
theorem dX12_init_62 : decode cX12_init 62 = .ok (.putfield 31, 3) := by decide +kernel
theorem dX12_init_65 : decode cX12_init 65 = .ok (.aload_n 0, 1) := by decide +kernel
theorem dX12_init_66 : decode cX12_init 66 = .ok (.iconst 2, 1) := by decide +kernel
theorem dX12_init_67 : decode cX12_init 67 = .ok (.newarray .int, 2) := by decide +kernel
theorem dX12_init_69 : decode cX12_init 69 = .ok (.putfield 34, 3) := by decide +kernel
theorem dX12_init_72 : decode cX12_init 72 = .ok (.aload_n 0, 1) := by decide +kernel
theorem dX12_init_73 : decode cX12_init 73 = .ok (.bipush 20, 2) := by decide +kernel
theorem dX12_init_75 : decode cX12_init 75 = .ok (.newarray .int, 2) := by decide +kernel
theorem dX12_init_77 : decode cX12_init 77 = .ok (.putfield 37, 3) := by decide +kernel
theorem dX12_init_80 : decode cX12_init 80 = .ok (.aload_n 0, 1) := by decide +kernel
theorem dX12_init_81 : decode cX12_init 81 = .ok (.bipush 10, 2) := by decide +kernel
theorem dX12_init_83 : decode cX12_init 83 = .ok (.newarray .int, 2) := by decide +kernel
theorem dX12_init_85 : decode cX12_init 85 = .ok (.putfield 40, 3) := by decide +kernel
theorem dX12_init_88 : decode cX12_init 88 = .ok (.aload_n 0, 1) := by decide +kernel
theorem dX12_init_89 : decode cX12_init 89 = .ok (.iconst 2, 1) := by decide +kernel
theorem dX12_init_90 : decode cX12_init 90 = .ok (.newarray .int, 2) := by decide +kernel
theorem dX12_init_92 : decode cX12_init 92 = .ok (.putfield 43, 3) := by decide +kernel
theorem dX12_init_95 : decode cX12_init 95 = .ok (.aload_n 0, 1) := by decide +kernel
theorem dX12_init_96 : decode cX12_init 96 = .ok (.sipush 400, 3) := by decide +kernel
theorem dX12_init_99 : decode cX12_init 99 = .ok (.newarray .int, 2) := by decide +kernel
theorem dX12_init_101 : decode cX12_init 101 = .ok (.putfield 46, 3) := by decide +kernel
theorem dX12_init_104 : decode cX12_init 104 = .ok (.aload_n 0, 1) := by decide +kernel
theorem dX12_init_105 : decode cX12_init 105 = .ok (.sipush 300, 3) := by decide +kernel
theorem dX12_init_108 : decode cX12_init 108 = .ok (.newarray .int, 2) := by decide +kernel
theorem dX12_init_110 : decode cX12_init 110 = .ok (.putfield 49, 3) := by decide +kernel
theorem dX12_init_113 : decode cX12_init 113 = .ok (.aload_n 0, 1) := by decide +kernel
theorem dX12_init_114 : decode cX12_init 114 = .ok (.sipush 300, 3) := by decide +kernel
theorem dX12_init_117 : decode cX12_init 117 = .ok (.newarray .int, 2) := by decide +kernel
theorem dX12_init_119 : decode cX12_init 119 = .ok (.putfield 52, 3) := by decide +kernel
theorem dX12_init_122 : decode cX12_init 122 = .ok (.aload_n 0, 1) := by decide +kernel
theorem dX12_init_123 : decode cX12_init 123 = .ok (.sipush 300, 3) := by decide +kernel
theorem dX12_init_126 : decode cX12_init 126 = .ok (.newarray .int, 2) := by decide +kernel
theorem dX12_init_128 : decode cX12_init 128 = .ok (.putfield 55, 3) := by decide +kernel
theorem dX12_init_131 : decode cX12_init 131 = .ok (.aload_n 0, 1) := by decide +kernel
theorem dX12_init_132 : decode cX12_init 132 = .ok (.sipush 300, 3) := by decide +kernel
theorem dX12_init_135 : decode cX12_init 135 = .ok (.newarray .int, 2) := by decide +kernel
theorem dX12_init_137 : decode cX12_init 137 = .ok (.putfield 58, 3) := by decide +kernel
theorem dX12_init_140 : decode cX12_init 140 = .ok (.aload_n 0, 1) := by decide +kernel
theorem dX12_init_141 : decode cX12_init 141 = .ok (.sipush 300, 3) := by decide +kernel
theorem dX12_init_144 : decode cX12_init 144 = .ok (.newarray .int, 2) := by decide +kernel
theorem dX12_init_146 : decode cX12_init 146 = .ok (.putfield 61, 3) := by decide +kernel
theorem dX12_init_149 : decode cX12_init 149 = .ok (.aload_n 0, 1) := by decide +kernel
theorem dX12_init_150 : decode cX12_init 150 = .ok (.sipush 300, 3) := by decide +kernel
theorem dX12_init_153 : decode cX12_init 153 = .ok (.newarray .int, 2) := by decide +kernel
theorem dX12_init_155 : decode cX12_init 155 = .ok (.putfield 64, 3) := by decide +kernel
theorem dX12_init_158 : decode cX12_init 158 = .ok (.aload_n 0, 1) := by decide +kernel
theorem dX12_init_159 : decode cX12_init 159 = .ok (.bipush 12, 2) := by decide +kernel
theorem dX12_init_161 : decode cX12_init 161 = .ok (.newarray .int, 2) := by decide +kernel
theorem dX12_init_163 : decode cX12_init 163 = .ok (.putfield 67, 3) := by decide +kernel
theorem dX12_init_166 : decode cX12_init 166 = .ok (.aload_n 0, 1) := by decide +kernel
theorem dX12_init_167 : decode cX12_init 167 = .ok (.sipush 480, 3) := by decide +kernel
theorem dX12_init_170 : decode cX12_init 170 = .ok (.newarray .int, 2) := by decide +kernel
theorem dX12_init_172 : decode cX12_init 172 = .ok (.putfield 70, 3) := by decide +kernel
theorem dX12_init_175 : decode cX12_init 175 = .ok (.aload_n 0, 1) := by decide +kernel
theorem dX12_init_176 : decode cX12_init 176 = .ok (.sipush 480, 3) := by decide +kernel
theorem dX12_init_179 : decode cX12_init 179 = .ok (.newarray .int, 2) := by decide +kernel
theorem dX12_init_181 : decode cX12_init 181 = .ok (.putfield 73, 3) := by decide +kernel
theorem dX12_init_184 : decode cX12_init 184 = .ok (.aload_n 0, 1) := by decide +kernel
theorem dX12_init_185 : decode cX12_init 185 = .ok (.bipush 10, 2) := by decide +kernel
theorem dX12_init_187 : decode cX12_init 187 = .ok (.newarray .int, 2) := by decide +kernel
theorem dX12_init_189 : decode cX12_init 189 = .ok (.putfield 76, 3) := by decide +kernel
theorem dX12_init_192 : decode cX12_init 192 = .ok (.aload_n 0, 1) := by decide +kernel
theorem dX12_init_193 : decode cX12_init 193 = .ok (.bipush 10, 2) := by decide +kernel
theorem dX12_init_195 : decode cX12_init 195 = .ok (.newarray .int, 2) := by decide +kernel
theorem dX12_init_197 : decode cX12_init 197 = .ok (.putfield 79, 3) := by decide +kernel
theorem dX12_init_200 : decode cX12_init 200 = .ok (.aload_n 0, 1) := by decide +kernel
theorem dX12_init_201 : decode cX12_init 201 = .ok (.bipush 10, 2) := by decide +kernel
theorem dX12_init_203 : decode cX12_init 203 = .ok (.newarray .int, 2) := by decide +kernel
theorem dX12_init_205 : decode cX12_init 205 = .ok (.putfield 82, 3) := by decide +kernel
theorem dX12_init_208 : decode cX12_init 208 = .ok (.aload_n 0, 1) := by decide +kernel
theorem dX12_init_209 : decode cX12_init 209 = .ok (.bipush 20, 2) := by decide +kernel
theorem dX12_init_211 : decode cX12_init 211 = .ok (.newarray .int, 2) := by decide +kernel
theorem dX12_init_213 : decode cX12_init 213 = .ok (.putfield 85, 3) := by decide +kernel
theorem dX12_init_216 : decode cX12_init 216 = .ok (.aload_n 0, 1) := by decide +kernel
theorem dX12_init_217 : decode cX12_init 217 = .ok (.bipush 10, 2) := by decide +kernel
theorem dX12_init_219 : decode cX12_init 219 = .ok (.newarray .int, 2) := by decide +kernel
theorem dX12_init_221 : decode cX12_init 221 = .ok (.putfield 88, 3) := by decide +kernel
theorem dX12_init_224 : decode cX12_init 224 = .ok (.aload_n 0, 1) := by decide +kernel
theorem dX12_init_225 : decode cX12_init 225 = .ok (.iconst 4, 1) := by decide +kernel
theorem dX12_init_226 : decode cX12_init 226 = .ok (.newarray .boolean, 2) := by decide +kernel
theorem dX12_init_228 : decode cX12_init 228 = .ok (.putfield 91, 3) := by decide +kernel
theorem dX12_init_231 : decode cX12_init 231 = .ok (.aload_n 0, 1) := by decide +kernel
theorem dX12_init_232 : decode cX12_init 232 = .ok (.iconst 4, 1) := by decide +kernel
theorem dX12_init_233 : decode cX12_init 233 = .ok (.newarray .int, 2) := by decide +kernel
theorem dX12_init_235 : decode cX12_init 235 = .ok (.putfield 95, 3) := by decide +kernel
theorem dX12_init_238 : decode cX12_init 238 = .ok (.aload_n 0, 1) := by decide +kernel
theorem dX12_init_239 : decode cX12_init 239 = .ok (.iconst 4, 1) := by decide +kernel
theorem dX12_init_240 : decode cX12_init 240 = .ok (.newarray .int, 2) := by decide +kernel
theorem dX12_init_242 : decode cX12_init 242 = .ok (.putfield 98, 3) := by decide +kernel
theorem dX12_init_245 : decode cX12_init 245 = .ok (.aload_n 0, 1) := by decide +kernel
theorem dX12_init_246 : decode cX12_init 246 = .ok (.sipush 240, 3) := by decide +kernel
theorem dX12_init_249 : decode cX12_init 249 = .ok (.newarray .int, 2) := by decide +kernel
theorem dX12_init_251 : decode cX12_init 251 = .ok (.putfield 101, 3) := by decide +kernel
theorem dX12_init_254 : decode cX12_init 254 = .ok (.aload_n 0, 1) := by decide +kernel
theorem dX12_init_255 : decode cX12_init 255 = .ok (.bipush 60, 2) := by decide +kernel
theorem dX12_init_257 : decode cX12_init 257 = .ok (.newarray .int, 2) := by decide +kernel
theorem dX12_init_259 : decode cX12_init 259 = .ok (.putfield 104, 3) := by decide +kernel
theorem dX12_init_262 : decode cX12_init 262 = .ok (.return_, 1) := by decide +kernel
theorem dX12_in_0 : decode cX12_in 0 = .ok (.iload_n 0, 1) := by decide +kernel
theorem dX12_in_1 : decode cX12_in 1 = .ok (.iload_n 1, 1) := by decide +kernel
theorem dX12_in_2 : decode cX12_in 2 = .ok (.if_icmp .lt 12, 3) := by decide +kernel
theorem dX12_in_5 : decode cX12_in 5 = .ok (.iload_n 0, 1) := by decide +kernel
theorem dX12_in_6 : decode cX12_in 6 = .ok (.iload_n 2, 1) := by decide +kernel
theorem dX12_in_7 : decode cX12_in 7 = .ok (.if_icmp .gt 7, 3) := by decide +kernel
theorem dX12_in_10 : decode cX12_in 10 = .ok (.iconst 1, 1) := by decide +kernel
theorem dX12_in_11 : decode cX12_in 11 = .ok (.goto 4, 3) := by decide +kernel
theorem dX12_in_14 : decode cX12_in 14 = .ok (.iconst 0, 1) := by decide +kernel
theorem dX12_in_15 : decode cX12_in 15 = .ok (.ireturn, 1) := by decide +kernel
theorem dX12_isIn_0 : decode cX12_isIn 0 = .ok (.iload_n 0, 1) := by decide +kernel
theorem dX12_isIn_1 : decode cX12_isIn 1 = .ok (.iload_n 1, 1) := by decide +kernel
theorem dX12_isIn_2 : decode cX12_isIn 2 = .ok (.ishr, 1) := by decide +kernel
theorem dX12_isIn_3 : decode cX12_isIn 3 = .ok (.iconst 1, 1) := by decide +kernel
theorem dX12_isIn_4 : decode cX12_isIn 4 = .ok (.iand, 1) := by decide +kernel
theorem dX12_isIn_5 : decode cX12_isIn 5 = .ok (.iconst 1, 1) := by decide +kernel
theorem dX12_isIn_6 : decode cX12_isIn 6 = .ok (.if_icmp .ne 7, 3) := by decide +kernel
theorem dX12_isIn_9 : decode cX12_isIn 9 = .ok (.iconst 1, 1) := by decide +kernel
theorem dX12_isIn_10 : decode cX12_isIn 10 = .ok (.goto 4, 3) := by decide +kernel
theorem dX12_isIn_13 : decode cX12_isIn 13 = .ok (.iconst 0, 1) := by decide +kernel
theorem dX12_isIn_14 : decode cX12_isIn 14 = .ok (.ireturn, 1) := by decide +kernel
theorem dX12_isTwo_0 : decode cX12_isTwo 0 = .ok (.iload_n 0, 1) := by decide +kernel
theorem dX12_isTwo_1 : decode cX12_isTwo 1 = .ok (.iconst 0, 1) := by decide +kernel
theorem dX12_isTwo_2 : decode cX12_isTwo 2 = .ok (.iconst 1, 1) := by decide +kernel
theorem dX12_isTwo_3 : decode cX12_isTwo 3 = .ok (.invokestatic 107, 3) := by decide +kernel
theorem dX12_isTwo_6 : decode cX12_isTwo 6 = .ok (.ireturn, 1) := by decide +kernel
theorem dX12_bitsOf_0 : decode cX12_bitsOf 0 = .ok (.lload_n 0, 1) := by decide +kernel
theorem dX12_bitsOf_1 : decode cX12_bitsOf 1 = .ok (.lstore_n 3, 1) := by decide +kernel
theorem dX12_bitsOf_2 : decode cX12_bitsOf 2 = .ok (.iload_n 2, 1) := by decide +kernel
theorem dX12_bitsOf_3 : decode cX12_bitsOf 3 = .ok (.istore 5, 2) := by decide +kernel
theorem dX12_bitsOf_5 : decode cX12_bitsOf 5 = .ok (.lload_n 0, 1) := by decide +kernel
theorem dX12_bitsOf_6 : decode cX12_bitsOf 6 = .ok (.lconst 0, 1) := by decide +kernel
theorem dX12_bitsOf_7 : decode cX12_bitsOf 7 = .ok (.lcmp, 1) := by decide +kernel
theorem dX12_bitsOf_8 : decode cX12_bitsOf 8 = .ok (.ifCond .ne 5, 3) := by decide +kernel
theorem dX12_bitsOf_11 : decode cX12_bitsOf 11 = .ok (.iconst 0, 1) := by decide +kernel
theorem dX12_bitsOf_12 : decode cX12_bitsOf 12 = .ok (.ireturn, 1) := by decide +kernel
theorem dX12_bitsOf_13 : decode cX12_bitsOf 13 = .ok (.iconst 0, 1) := by decide +kernel
theorem dX12_bitsOf_14 : decode cX12_bitsOf 14 = .ok (.istore 6, 2) := by decide +kernel
theorem dX12_bitsOf_16 : decode cX12_bitsOf 16 = .ok (.lload_n 3, 1) := by decide +kernel
theorem dX12_bitsOf_17 : decode cX12_bitsOf 17 = .ok (.iload 6, 2) := by decide +kernel
theorem dX12_bitsOf_19 : decode cX12_bitsOf 19 = .ok (.lshr, 1) := by decide +kernel
theorem dX12_bitsOf_20 : decode cX12_bitsOf 20 = .ok (.ldc2_w 111, 3) := by decide +kernel
theorem dX12_bitsOf_23 : decode cX12_bitsOf 23 = .ok (.lcmp, 1) := by decide +kernel
theorem dX12_bitsOf_24 : decode cX12_bitsOf 24 = .ok (.ifCond .lt 9, 3) := by decide +kernel
theorem dX12_bitsOf_27 : decode cX12_bitsOf 27 = .ok (.iinc 6 1, 3) := by decide +kernel
theorem dX12_bitsOf_30 : decode cX12_bitsOf 30 = .ok (.goto (-14), 3) := by decide +kernel
theorem dX12_bitsOf_33 : decode cX12_bitsOf 33 = .ok (.lload_n 3, 1) := by decide +kernel
theorem dX12_bitsOf_34 : decode cX12_bitsOf 34 = .ok (.lload_n 3, 1) := by decide +kernel
theorem dX12_bitsOf_35 : decode cX12_bitsOf 35 = .ok (.iload 6, 2) := by decide +kernel
theorem dX12_bitsOf_37 : decode cX12_bitsOf 37 = .ok (.lshr, 1) := by decide +kernel
theorem dX12_bitsOf_38 : decode cX12_bitsOf 38 = .ok (.iload 6, 2) := by decide +kernel
theorem dX12_bitsOf_40 : decode cX12_bitsOf 40 = .ok (.lshl, 1) := by decide +kernel
theorem dX12_bitsOf_41 : decode cX12_bitsOf 41 = .ok (.lsub, 1) := by decide +kernel
theorem dX12_bitsOf_42 : decode cX12_bitsOf 42 = .ok (.lstore 7, 2) := by decide +kernel
theorem dX12_bitsOf_44 : decode cX12_bitsOf 44 = .ok (.iload 6, 2) := by decide +kernel
theorem dX12_bitsOf_46 : decode cX12_bitsOf 46 = .ok (.ifCond .ne 7, 3) := by decide +kernel
theorem dX12_bitsOf_49 : decode cX12_bitsOf 49 = .ok (.lconst 1, 1) := by decide +kernel
theorem dX12_bitsOf_50 : decode cX12_bitsOf 50 = .ok (.goto 9, 3) := by decide +kernel
theorem dX12_bitsOf_53 : decode cX12_bitsOf 53 = .ok (.lconst 1, 1) := by decide +kernel
theorem dX12_bitsOf_54 : decode cX12_bitsOf 54 = .ok (.iload 6, 2) := by decide +kernel
theorem dX12_bitsOf_56 : decode cX12_bitsOf 56 = .ok (.iconst 1, 1) := by decide +kernel
theorem dX12_bitsOf_57 : decode cX12_bitsOf 57 = .ok (.isub, 1) := by decide +kernel
theorem dX12_bitsOf_58 : decode cX12_bitsOf 58 = .ok (.lshl, 1) := by decide +kernel
theorem dX12_bitsOf_59 : decode cX12_bitsOf 59 = .ok (.lstore 9, 2) := by decide +kernel
theorem dX12_bitsOf_61 : decode cX12_bitsOf 61 = .ok (.lload_n 3, 1) := by decide +kernel
theorem dX12_bitsOf_62 : decode cX12_bitsOf 62 = .ok (.iload 6, 2) := by decide +kernel
theorem dX12_bitsOf_64 : decode cX12_bitsOf 64 = .ok (.lshr, 1) := by decide +kernel
theorem dX12_bitsOf_65 : decode cX12_bitsOf 65 = .ok (.lstore_n 3, 1) := by decide +kernel
theorem dX12_bitsOf_66 : decode cX12_bitsOf 66 = .ok (.iload 5, 2) := by decide +kernel
theorem dX12_bitsOf_68 : decode cX12_bitsOf 68 = .ok (.iload 6, 2) := by decide +kernel
theorem dX12_bitsOf_70 : decode cX12_bitsOf 70 = .ok (.iadd, 1) := by decide +kernel
theorem dX12_bitsOf_71 : decode cX12_bitsOf 71 = .ok (.istore 5, 2) := by decide +kernel
theorem dX12_bitsOf_73 : decode cX12_bitsOf 73 = .ok (.lload_n 3, 1) := by decide +kernel
theorem dX12_bitsOf_74 : decode cX12_bitsOf 74 = .ok (.lload 7, 2) := by decide +kernel
theorem dX12_bitsOf_76 : decode cX12_bitsOf 76 = .ok (.lload 9, 2) := by decide +kernel
theorem dX12_bitsOf_78 : decode cX12_bitsOf 78 = .ok (.lcmp, 1) := by decide +kernel
theorem dX12_bitsOf_79 : decode cX12_bitsOf 79 = .ok (.ifCond .gt 19, 3) := by decide +kernel
theorem dX12_bitsOf_82 : decode cX12_bitsOf 82 = .ok (.lload 7, 2) := by decide +kernel
theorem dX12_bitsOf_84 : decode cX12_bitsOf 84 = .ok (.lload 9, 2) := by decide +kernel
theorem dX12_bitsOf_86 : decode cX12_bitsOf 86 = .ok (.lcmp, 1) := by decide +kernel
theorem dX12_bitsOf_87 : decode cX12_bitsOf 87 = .ok (.ifCond .ne 15, 3) := by decide +kernel
theorem dX12_bitsOf_90 : decode cX12_bitsOf 90 = .ok (.lload_n 3, 1) := by decide +kernel
theorem dX12_bitsOf_91 : decode cX12_bitsOf 91 = .ok (.lconst 1, 1) := by decide +kernel
theorem dX12_bitsOf_92 : decode cX12_bitsOf 92 = .ok (.land, 1) := by decide +kernel
theorem dX12_bitsOf_93 : decode cX12_bitsOf 93 = .ok (.lconst 1, 1) := by decide +kernel
theorem dX12_bitsOf_94 : decode cX12_bitsOf 94 = .ok (.lcmp, 1) := by decide +kernel
theorem dX12_bitsOf_95 : decode cX12_bitsOf 95 = .ok (.ifCond .ne 7, 3) := by decide +kernel
theorem dX12_bitsOf_98 : decode cX12_bitsOf 98 = .ok (.lconst 1, 1) := by decide +kernel
theorem dX12_bitsOf_99 : decode cX12_bitsOf 99 = .ok (.goto 4, 3) := by decide +kernel
theorem dX12_bitsOf_102 : decode cX12_bitsOf 102 = .ok (.lconst 0, 1) := by decide +kernel
theorem dX12_bitsOf_103 : decode cX12_bitsOf 103 = .ok (.ladd, 1) := by decide +kernel
theorem dX12_bitsOf_104 : decode cX12_bitsOf 104 = .ok (.lstore_n 3, 1) := by decide +kernel
theorem dX12_bitsOf_105 : decode cX12_bitsOf 105 = .ok (.lload_n 3, 1) := by decide +kernel
theorem dX12_bitsOf_106 : decode cX12_bitsOf 106 = .ok (.ldc2_w 111, 3) := by decide +kernel
theorem dX12_bitsOf_109 : decode cX12_bitsOf 109 = .ok (.lcmp, 1) := by decide +kernel
theorem dX12_bitsOf_110 : decode cX12_bitsOf 110 = .ok (.ifCond .ne 10, 3) := by decide +kernel
theorem dX12_bitsOf_113 : decode cX12_bitsOf 113 = .ok (.lload_n 3, 1) := by decide +kernel
theorem dX12_bitsOf_114 : decode cX12_bitsOf 114 = .ok (.iconst 1, 1) := by decide +kernel
theorem dX12_bitsOf_115 : decode cX12_bitsOf 115 = .ok (.lshr, 1) := by decide +kernel
theorem dX12_bitsOf_116 : decode cX12_bitsOf 116 = .ok (.lstore_n 3, 1) := by decide +kernel
theorem dX12_bitsOf_117 : decode cX12_bitsOf 117 = .ok (.iinc 5 1, 3) := by decide +kernel
theorem dX12_bitsOf_120 : decode cX12_bitsOf 120 = .ok (.lload_n 3, 1) := by decide +kernel
theorem dX12_bitsOf_121 : decode cX12_bitsOf 121 = .ok (.ldc2_w 113, 3) := by decide +kernel
theorem dX12_bitsOf_124 : decode cX12_bitsOf 124 = .ok (.lcmp, 1) := by decide +kernel
theorem dX12_bitsOf_125 : decode cX12_bitsOf 125 = .ok (.ifCond .ge 13, 3) := by decide +kernel
theorem dX12_bitsOf_128 : decode cX12_bitsOf 128 = .ok (.lload_n 3, 1) := by decide +kernel
theorem dX12_bitsOf_129 : decode cX12_bitsOf 129 = .ok (.iconst 1, 1) := by decide +kernel
theorem dX12_bitsOf_130 : decode cX12_bitsOf 130 = .ok (.lshl, 1) := by decide +kernel
theorem dX12_bitsOf_131 : decode cX12_bitsOf 131 = .ok (.lstore_n 3, 1) := by decide +kernel
theorem dX12_bitsOf_132 : decode cX12_bitsOf 132 = .ok (.iinc 5 (-1), 3) := by decide +kernel
theorem dX12_bitsOf_135 : decode cX12_bitsOf 135 = .ok (.goto (-15), 3) := by decide +kernel
theorem dX12_bitsOf_138 : decode cX12_bitsOf 138 = .ok (.iload 5, 2) := by decide +kernel
theorem dX12_bitsOf_140 : decode cX12_bitsOf 140 = .ok (.sipush 150, 3) := by decide +kernel
theorem dX12_bitsOf_143 : decode cX12_bitsOf 143 = .ok (.iadd, 1) := by decide +kernel
theorem dX12_bitsOf_144 : decode cX12_bitsOf 144 = .ok (.bipush 23, 2) := by decide +kernel
theorem dX12_bitsOf_146 : decode cX12_bitsOf 146 = .ok (.ishl, 1) := by decide +kernel
theorem dX12_bitsOf_147 : decode cX12_bitsOf 147 = .ok (.lload_n 3, 1) := by decide +kernel
theorem dX12_bitsOf_148 : decode cX12_bitsOf 148 = .ok (.l2i, 1) := by decide +kernel
theorem dX12_bitsOf_149 : decode cX12_bitsOf 149 = .ok (.ldc 115, 2) := by decide +kernel
theorem dX12_bitsOf_151 : decode cX12_bitsOf 151 = .ok (.iand, 1) := by decide +kernel
theorem dX12_bitsOf_152 : decode cX12_bitsOf 152 = .ok (.ior, 1) := by decide +kernel
theorem dX12_bitsOf_153 : decode cX12_bitsOf 153 = .ok (.ireturn, 1) := by decide +kernel
theorem dX12_divided_0 : decode cX12_divided 0 = .ok (.iload_n 0, 1) := by decide +kernel
theorem dX12_divided_1 : decode cX12_divided 1 = .ok (.i2l, 1) := by decide +kernel
theorem dX12_divided_2 : decode cX12_divided 2 = .ok (.bipush 40, 2) := by decide +kernel
theorem dX12_divided_4 : decode cX12_divided 4 = .ok (.lshl, 1) := by decide +kernel
theorem dX12_divided_5 : decode cX12_divided 5 = .ok (.iload_n 1, 1) := by decide +kernel
theorem dX12_divided_6 : decode cX12_divided 6 = .ok (.i2l, 1) := by decide +kernel
theorem dX12_divided_7 : decode cX12_divided 7 = .ok (.ldiv, 1) := by decide +kernel
theorem dX12_divided_8 : decode cX12_divided 8 = .ok (.lstore_n 2, 1) := by decide +kernel
theorem dX12_divided_9 : decode cX12_divided 9 = .ok (.lload_n 2, 1) := by decide +kernel
theorem dX12_divided_10 : decode cX12_divided 10 = .ok (.iload_n 1, 1) := by decide +kernel
theorem dX12_divided_11 : decode cX12_divided 11 = .ok (.i2l, 1) := by decide +kernel
theorem dX12_divided_12 : decode cX12_divided 12 = .ok (.lmul, 1) := by decide +kernel
theorem dX12_divided_13 : decode cX12_divided 13 = .ok (.iload_n 0, 1) := by decide +kernel
theorem dX12_divided_14 : decode cX12_divided 14 = .ok (.i2l, 1) := by decide +kernel
theorem dX12_divided_15 : decode cX12_divided 15 = .ok (.bipush 40, 2) := by decide +kernel
theorem dX12_divided_17 : decode cX12_divided 17 = .ok (.lshl, 1) := by decide +kernel
theorem dX12_divided_18 : decode cX12_divided 18 = .ok (.lcmp, 1) := by decide +kernel
theorem dX12_divided_19 : decode cX12_divided 19 = .ok (.ifCond .eq 7, 3) := by decide +kernel
theorem dX12_divided_22 : decode cX12_divided 22 = .ok (.iconst 1, 1) := by decide +kernel
theorem dX12_divided_23 : decode cX12_divided 23 = .ok (.goto 4, 3) := by decide +kernel
theorem dX12_divided_26 : decode cX12_divided 26 = .ok (.iconst 0, 1) := by decide +kernel
theorem dX12_divided_27 : decode cX12_divided 27 = .ok (.istore 4, 2) := by decide +kernel
theorem dX12_divided_29 : decode cX12_divided 29 = .ok (.iload 4, 2) := by decide +kernel
theorem dX12_divided_31 : decode cX12_divided 31 = .ok (.ifCond .eq 9, 3) := by decide +kernel
theorem dX12_divided_34 : decode cX12_divided 34 = .ok (.lload_n 2, 1) := by decide +kernel
theorem dX12_divided_35 : decode cX12_divided 35 = .ok (.lconst 1, 1) := by decide +kernel
theorem dX12_divided_36 : decode cX12_divided 36 = .ok (.lor, 1) := by decide +kernel
theorem dX12_divided_37 : decode cX12_divided 37 = .ok (.goto 4, 3) := by decide +kernel
theorem dX12_divided_40 : decode cX12_divided 40 = .ok (.lload_n 2, 1) := by decide +kernel
theorem dX12_divided_41 : decode cX12_divided 41 = .ok (.bipush (-40), 2) := by decide +kernel
theorem dX12_divided_43 : decode cX12_divided 43 = .ok (.invokestatic 116, 3) := by decide +kernel
theorem dX12_divided_46 : decode cX12_divided 46 = .ok (.ireturn, 1) := by decide +kernel
theorem dX12_added_0 : decode cX12_added 0 = .ok (.iload_n 0, 1) := by decide +kernel
theorem dX12_added_1 : decode cX12_added 1 = .ok (.iload_n 1, 1) := by decide +kernel
theorem dX12_added_2 : decode cX12_added 2 = .ok (.if_icmp .le 7, 3) := by decide +kernel
theorem dX12_added_5 : decode cX12_added 5 = .ok (.iload_n 0, 1) := by decide +kernel
theorem dX12_added_6 : decode cX12_added 6 = .ok (.goto 4, 3) := by decide +kernel
theorem dX12_added_9 : decode cX12_added 9 = .ok (.iload_n 1, 1) := by decide +kernel
theorem dX12_added_10 : decode cX12_added 10 = .ok (.istore_n 2, 1) := by decide +kernel
theorem dX12_added_11 : decode cX12_added 11 = .ok (.iload_n 0, 1) := by decide +kernel
theorem dX12_added_12 : decode cX12_added 12 = .ok (.iload_n 1, 1) := by decide +kernel
theorem dX12_added_13 : decode cX12_added 13 = .ok (.if_icmp .le 7, 3) := by decide +kernel
theorem dX12_added_16 : decode cX12_added 16 = .ok (.iload_n 1, 1) := by decide +kernel
theorem dX12_added_17 : decode cX12_added 17 = .ok (.goto 4, 3) := by decide +kernel
theorem dX12_added_20 : decode cX12_added 20 = .ok (.iload_n 0, 1) := by decide +kernel
theorem dX12_added_21 : decode cX12_added 21 = .ok (.istore_n 3, 1) := by decide +kernel
theorem dX12_added_22 : decode cX12_added 22 = .ok (.iload_n 2, 1) := by decide +kernel
theorem dX12_added_23 : decode cX12_added 23 = .ok (.bipush 23, 2) := by decide +kernel
theorem dX12_added_25 : decode cX12_added 25 = .ok (.ishr, 1) := by decide +kernel
theorem dX12_added_26 : decode cX12_added 26 = .ok (.iload_n 3, 1) := by decide +kernel
theorem dX12_added_27 : decode cX12_added 27 = .ok (.bipush 23, 2) := by decide +kernel
theorem dX12_added_29 : decode cX12_added 29 = .ok (.ishr, 1) := by decide +kernel
theorem dX12_added_30 : decode cX12_added 30 = .ok (.isub, 1) := by decide +kernel
theorem dX12_added_31 : decode cX12_added 31 = .ok (.istore 4, 2) := by decide +kernel
theorem dX12_added_33 : decode cX12_added 33 = .ok (.iload_n 3, 1) := by decide +kernel
theorem dX12_added_34 : decode cX12_added 34 = .ok (.ifCond .eq 10, 3) := by decide +kernel
theorem dX12_added_37 : decode cX12_added 37 = .ok (.iload 4, 2) := by decide +kernel
theorem dX12_added_39 : decode cX12_added 39 = .ok (.bipush 26, 2) := by decide +kernel
theorem dX12_added_41 : decode cX12_added 41 = .ok (.if_icmp .le 5, 3) := by decide +kernel
theorem dX12_added_44 : decode cX12_added 44 = .ok (.iload_n 2, 1) := by decide +kernel
theorem dX12_added_45 : decode cX12_added 45 = .ok (.ireturn, 1) := by decide +kernel
theorem dX12_added_46 : decode cX12_added 46 = .ok (.iload_n 2, 1) := by decide +kernel
theorem dX12_added_47 : decode cX12_added 47 = .ok (.ldc 115, 2) := by decide +kernel
theorem dX12_added_49 : decode cX12_added 49 = .ok (.iand, 1) := by decide +kernel
theorem dX12_added_50 : decode cX12_added 50 = .ok (.ldc 120, 2) := by decide +kernel
theorem dX12_added_52 : decode cX12_added 52 = .ok (.ior, 1) := by decide +kernel
theorem dX12_added_53 : decode cX12_added 53 = .ok (.i2l, 1) := by decide +kernel
theorem dX12_added_54 : decode cX12_added 54 = .ok (.lstore 5, 2) := by decide +kernel
theorem dX12_added_56 : decode cX12_added 56 = .ok (.iload_n 3, 1) := by decide +kernel
theorem dX12_added_57 : decode cX12_added 57 = .ok (.ldc 115, 2) := by decide +kernel
theorem dX12_added_59 : decode cX12_added 59 = .ok (.iand, 1) := by decide +kernel
theorem dX12_added_60 : decode cX12_added 60 = .ok (.ldc 120, 2) := by decide +kernel
theorem dX12_added_62 : decode cX12_added 62 = .ok (.ior, 1) := by decide +kernel
theorem dX12_added_63 : decode cX12_added 63 = .ok (.i2l, 1) := by decide +kernel
theorem dX12_added_64 : decode cX12_added 64 = .ok (.lstore 7, 2) := by decide +kernel
theorem dX12_added_66 : decode cX12_added 66 = .ok (.lload 5, 2) := by decide +kernel
theorem dX12_added_68 : decode cX12_added 68 = .ok (.iload 4, 2) := by decide +kernel
theorem dX12_added_70 : decode cX12_added 70 = .ok (.lshl, 1) := by decide +kernel
theorem dX12_added_71 : decode cX12_added 71 = .ok (.lload 7, 2) := by decide +kernel
theorem dX12_added_73 : decode cX12_added 73 = .ok (.ladd, 1) := by decide +kernel
theorem dX12_added_74 : decode cX12_added 74 = .ok (.iload_n 3, 1) := by decide +kernel
theorem dX12_added_75 : decode cX12_added 75 = .ok (.bipush 23, 2) := by decide +kernel
theorem dX12_added_77 : decode cX12_added 77 = .ok (.ishr, 1) := by decide +kernel
theorem dX12_added_78 : decode cX12_added 78 = .ok (.sipush 150, 3) := by decide +kernel
theorem dX12_added_81 : decode cX12_added 81 = .ok (.isub, 1) := by decide +kernel
theorem dX12_added_82 : decode cX12_added 82 = .ok (.invokestatic 116, 3) := by decide +kernel
theorem dX12_added_85 : decode cX12_added 85 = .ok (.ireturn, 1) := by decide +kernel
theorem dX12_isText_0 : decode cX12_isText 0 = .ok (.iload_n 0, 1) := by decide +kernel
theorem dX12_isText_1 : decode cX12_isText 1 = .ok (.iconst 0, 1) := by decide +kernel
theorem dX12_isText_2 : decode cX12_isText 2 = .ok (.iconst 2, 1) := by decide +kernel
theorem dX12_isText_3 : decode cX12_isText 3 = .ok (.invokestatic 107, 3) := by decide +kernel
theorem dX12_isText_6 : decode cX12_isText 6 = .ok (.ireturn, 1) := by decide +kernel
theorem dX12_roomOf_0 : decode cX12_roomOf 0 = .ok (.iload_n 0, 1) := by decide +kernel
theorem dX12_roomOf_1 : decode cX12_roomOf 1 = .ok (.iconst 2, 1) := by decide +kernel
theorem dX12_roomOf_2 : decode cX12_roomOf 2 = .ok (.if_icmp .ne 8, 3) := by decide +kernel
theorem dX12_roomOf_5 : decode cX12_roomOf 5 = .ok (.bipush 12, 2) := by decide +kernel
theorem dX12_roomOf_7 : decode cX12_roomOf 7 = .ok (.goto 5, 3) := by decide +kernel
theorem dX12_roomOf_10 : decode cX12_roomOf 10 = .ok (.bipush 29, 2) := by decide +kernel
theorem dX12_roomOf_12 : decode cX12_roomOf 12 = .ok (.ireturn, 1) := by decide +kernel
theorem dX12_type_0 : decode cX12_type 0 = .ok (.iload_n 1, 1) := by decide +kernel
theorem dX12_type_1 : decode cX12_type 1 = .ok (.invokestatic 121, 3) := by decide +kernel
theorem dX12_type_4 : decode cX12_type 4 = .ok (.ifCond .eq 14, 3) := by decide +kernel
theorem dX12_type_7 : decode cX12_type 7 = .ok (.iload_n 2, 1) := by decide +kernel
theorem dX12_type_8 : decode cX12_type 8 = .ok (.iconst 0, 1) := by decide +kernel
theorem dX12_type_9 : decode cX12_type 9 = .ok (.sipush 255, 3) := by decide +kernel
theorem dX12_type_12 : decode cX12_type 12 = .ok (.invokestatic 107, 3) := by decide +kernel
theorem dX12_type_15 : decode cX12_type 15 = .ok (.ifCond .ne 6, 3) := by decide +kernel
theorem dX12_type_18 : decode cX12_type 18 = .ok (.bipush (-2), 2) := by decide +kernel
theorem dX12_type_20 : decode cX12_type 20 = .ok (.ireturn, 1) := by decide +kernel
theorem dX12_type_21 : decode cX12_type 21 = .ok (.aload_n 0, 1) := by decide +kernel
theorem dX12_type_22 : decode cX12_type 22 = .ok (.getfield 7, 3) := by decide +kernel
theorem dX12_type_25 : decode cX12_type 25 = .ok (.iload_n 1, 1) := by decide +kernel
theorem dX12_type_26 : decode cX12_type 26 = .ok (.iaload, 1) := by decide +kernel
theorem dX12_type_27 : decode cX12_type 27 = .ok (.iload_n 1, 1) := by decide +kernel
theorem dX12_type_28 : decode cX12_type 28 = .ok (.invokestatic 125, 3) := by decide +kernel
theorem dX12_type_31 : decode cX12_type 31 = .ok (.if_icmp .ne 6, 3) := by decide +kernel
theorem dX12_type_34 : decode cX12_type 34 = .ok (.bipush (-4), 2) := by decide +kernel
theorem dX12_type_36 : decode cX12_type 36 = .ok (.ireturn, 1) := by decide +kernel
theorem dX12_type_37 : decode cX12_type 37 = .ok (.aload_n 0, 1) := by decide +kernel
theorem dX12_type_38 : decode cX12_type 38 = .ok (.getfield 13, 3) := by decide +kernel
theorem dX12_type_41 : decode cX12_type 41 = .ok (.bipush 30, 2) := by decide +kernel
theorem dX12_type_43 : decode cX12_type 43 = .ok (.iload_n 1, 1) := by decide +kernel
theorem dX12_type_44 : decode cX12_type 44 = .ok (.imul, 1) := by decide +kernel
theorem dX12_type_45 : decode cX12_type 45 = .ok (.aload_n 0, 1) := by decide +kernel
theorem dX12_type_46 : decode cX12_type 46 = .ok (.getfield 7, 3) := by decide +kernel
theorem dX12_type_49 : decode cX12_type 49 = .ok (.iload_n 1, 1) := by decide +kernel
theorem dX12_type_50 : decode cX12_type 50 = .ok (.iaload, 1) := by decide +kernel
theorem dX12_type_51 : decode cX12_type 51 = .ok (.iadd, 1) := by decide +kernel
theorem dX12_type_52 : decode cX12_type 52 = .ok (.iload_n 2, 1) := by decide +kernel
theorem dX12_type_53 : decode cX12_type 53 = .ok (.iastore, 1) := by decide +kernel
theorem dX12_type_54 : decode cX12_type 54 = .ok (.aload_n 0, 1) := by decide +kernel
theorem dX12_type_55 : decode cX12_type 55 = .ok (.getfield 7, 3) := by decide +kernel
theorem dX12_type_58 : decode cX12_type 58 = .ok (.iload_n 1, 1) := by decide +kernel
theorem dX12_type_59 : decode cX12_type 59 = .ok (.dup2, 1) := by decide +kernel
theorem dX12_type_60 : decode cX12_type 60 = .ok (.iaload, 1) := by decide +kernel
theorem dX12_type_61 : decode cX12_type 61 = .ok (.iconst 1, 1) := by decide +kernel
theorem dX12_type_62 : decode cX12_type 62 = .ok (.iadd, 1) := by decide +kernel
theorem dX12_type_63 : decode cX12_type 63 = .ok (.iastore, 1) := by decide +kernel
theorem dX12_type_64 : decode cX12_type 64 = .ok (.aload_n 0, 1) := by decide +kernel
theorem dX12_type_65 : decode cX12_type 65 = .ok (.getfield 7, 3) := by decide +kernel
theorem dX12_type_68 : decode cX12_type 68 = .ok (.iload_n 1, 1) := by decide +kernel
theorem dX12_type_69 : decode cX12_type 69 = .ok (.iaload, 1) := by decide +kernel
theorem dX12_type_70 : decode cX12_type 70 = .ok (.ireturn, 1) := by decide +kernel
theorem dX12_wipe_0 : decode cX12_wipe 0 = .ok (.iload_n 1, 1) := by decide +kernel
theorem dX12_wipe_1 : decode cX12_wipe 1 = .ok (.invokestatic 121, 3) := by decide +kernel
theorem dX12_wipe_4 : decode cX12_wipe 4 = .ok (.ifCond .ne 6, 3) := by decide +kernel
theorem dX12_wipe_7 : decode cX12_wipe 7 = .ok (.bipush (-2), 2) := by decide +kernel
theorem dX12_wipe_9 : decode cX12_wipe 9 = .ok (.ireturn, 1) := by decide +kernel
theorem dX12_wipe_10 : decode cX12_wipe 10 = .ok (.aload_n 0, 1) := by decide +kernel
theorem dX12_wipe_11 : decode cX12_wipe 11 = .ok (.getfield 7, 3) := by decide +kernel
theorem dX12_wipe_14 : decode cX12_wipe 14 = .ok (.iload_n 1, 1) := by decide +kernel
theorem dX12_wipe_15 : decode cX12_wipe 15 = .ok (.iaload, 1) := by decide +kernel
theorem dX12_wipe_16 : decode cX12_wipe 16 = .ok (.istore_n 2, 1) := by decide +kernel
theorem dX12_wipe_17 : decode cX12_wipe 17 = .ok (.aload_n 0, 1) := by decide +kernel
theorem dX12_wipe_18 : decode cX12_wipe 18 = .ok (.getfield 7, 3) := by decide +kernel
theorem dX12_wipe_21 : decode cX12_wipe 21 = .ok (.iload_n 1, 1) := by decide +kernel
theorem dX12_wipe_22 : decode cX12_wipe 22 = .ok (.iconst 0, 1) := by decide +kernel
theorem dX12_wipe_23 : decode cX12_wipe 23 = .ok (.iastore, 1) := by decide +kernel
theorem dX12_wipe_24 : decode cX12_wipe 24 = .ok (.iload_n 2, 1) := by decide +kernel
theorem dX12_wipe_25 : decode cX12_wipe 25 = .ok (.ireturn, 1) := by decide +kernel
theorem dX12_undo_0 : decode cX12_undo 0 = .ok (.iload_n 1, 1) := by decide +kernel
theorem dX12_undo_1 : decode cX12_undo 1 = .ok (.invokestatic 121, 3) := by decide +kernel
theorem dX12_undo_4 : decode cX12_undo 4 = .ok (.ifCond .ne 6, 3) := by decide +kernel
theorem dX12_undo_7 : decode cX12_undo 7 = .ok (.bipush (-2), 2) := by decide +kernel
theorem dX12_undo_9 : decode cX12_undo 9 = .ok (.ireturn, 1) := by decide +kernel
theorem dX12_undo_10 : decode cX12_undo 10 = .ok (.aload_n 0, 1) := by decide +kernel
theorem dX12_undo_11 : decode cX12_undo 11 = .ok (.getfield 7, 3) := by decide +kernel
theorem dX12_undo_14 : decode cX12_undo 14 = .ok (.iload_n 1, 1) := by decide +kernel
theorem dX12_undo_15 : decode cX12_undo 15 = .ok (.iaload, 1) := by decide +kernel
theorem dX12_undo_16 : decode cX12_undo 16 = .ok (.ifCond .ne 6, 3) := by decide +kernel
theorem dX12_undo_19 : decode cX12_undo 19 = .ok (.bipush (-3), 2) := by decide +kernel
theorem dX12_undo_21 : decode cX12_undo 21 = .ok (.ireturn, 1) := by decide +kernel
theorem dX12_undo_22 : decode cX12_undo 22 = .ok (.aload_n 0, 1) := by decide +kernel
theorem dX12_undo_23 : decode cX12_undo 23 = .ok (.getfield 7, 3) := by decide +kernel
theorem dX12_undo_26 : decode cX12_undo 26 = .ok (.iload_n 1, 1) := by decide +kernel
theorem dX12_undo_27 : decode cX12_undo 27 = .ok (.dup2, 1) := by decide +kernel
theorem dX12_undo_28 : decode cX12_undo 28 = .ok (.iaload, 1) := by decide +kernel
theorem dX12_undo_29 : decode cX12_undo 29 = .ok (.iconst 1, 1) := by decide +kernel
theorem dX12_undo_30 : decode cX12_undo 30 = .ok (.isub, 1) := by decide +kernel
theorem dX12_undo_31 : decode cX12_undo 31 = .ok (.iastore, 1) := by decide +kernel
theorem dX12_undo_32 : decode cX12_undo 32 = .ok (.aload_n 0, 1) := by decide +kernel
theorem dX12_undo_33 : decode cX12_undo 33 = .ok (.getfield 7, 3) := by decide +kernel
theorem dX12_undo_36 : decode cX12_undo 36 = .ok (.iload_n 1, 1) := by decide +kernel
theorem dX12_undo_37 : decode cX12_undo 37 = .ok (.iaload, 1) := by decide +kernel
theorem dX12_undo_38 : decode cX12_undo 38 = .ok (.ireturn, 1) := by decide +kernel
theorem dX12_read_0 : decode cX12_read 0 = .ok (.iload_n 1, 1) := by decide +kernel
theorem dX12_read_1 : decode cX12_read 1 = .ok (.invokestatic 121, 3) := by decide +kernel
theorem dX12_read_4 : decode cX12_read 4 = .ok (.ifCond .eq 10, 3) := by decide +kernel
theorem dX12_read_7 : decode cX12_read 7 = .ok (.iload_n 2, 1) := by decide +kernel
theorem dX12_read_8 : decode cX12_read 8 = .ok (.invokestatic 129, 3) := by decide +kernel
theorem dX12_read_11 : decode cX12_read 11 = .ok (.ifCond .ne 6, 3) := by decide +kernel
theorem dX12_read_14 : decode cX12_read 14 = .ok (.bipush (-2), 2) := by decide +kernel
theorem dX12_read_16 : decode cX12_read 16 = .ok (.ireturn, 1) := by decide +kernel
theorem dX12_read_17 : decode cX12_read 17 = .ok (.aload_n 0, 1) := by decide +kernel
theorem dX12_read_18 : decode cX12_read 18 = .ok (.getfield 91, 3) := by decide +kernel
theorem dX12_read_21 : decode cX12_read 21 = .ok (.iload_n 2, 1) := by decide +kernel
theorem dX12_read_22 : decode cX12_read 22 = .ok (.baload, 1) := by decide +kernel
theorem dX12_read_23 : decode cX12_read 23 = .ok (.ifCond .ne 9, 3) := by decide +kernel
theorem dX12_read_26 : decode cX12_read 26 = .ok (.aload_n 0, 1) := by decide +kernel
theorem dX12_read_27 : decode cX12_read 27 = .ok (.iconst 1, 1) := by decide +kernel
theorem dX12_read_28 : decode cX12_read 28 = .ok (.invokevirtual 132, 3) := by decide +kernel
theorem dX12_read_31 : decode cX12_read 31 = .ok (.ireturn, 1) := by decide +kernel
theorem dX12_read_32 : decode cX12_read 32 = .ok (.iconst 0, 1) := by decide +kernel
theorem dX12_read_33 : decode cX12_read 33 = .ok (.istore_n 3, 1) := by decide +kernel
theorem dX12_read_34 : decode cX12_read 34 = .ok (.iload_n 3, 1) := by decide +kernel
theorem dX12_read_35 : decode cX12_read 35 = .ok (.aload_n 0, 1) := by decide +kernel
theorem dX12_read_36 : decode cX12_read 36 = .ok (.getfield 98, 3) := by decide +kernel
theorem dX12_read_39 : decode cX12_read 39 = .ok (.iload_n 2, 1) := by decide +kernel
theorem dX12_read_40 : decode cX12_read 40 = .ok (.iaload, 1) := by decide +kernel
theorem dX12_read_41 : decode cX12_read 41 = .ok (.if_icmp .ge 28, 3) := by decide +kernel
theorem dX12_read_44 : decode cX12_read 44 = .ok (.aload_n 0, 1) := by decide +kernel
theorem dX12_read_45 : decode cX12_read 45 = .ok (.iload_n 1, 1) := by decide +kernel
theorem dX12_read_46 : decode cX12_read 46 = .ok (.aload_n 0, 1) := by decide +kernel
theorem dX12_read_47 : decode cX12_read 47 = .ok (.getfield 101, 3) := by decide +kernel
theorem dX12_read_50 : decode cX12_read 50 = .ok (.bipush 60, 2) := by decide +kernel
theorem dX12_read_52 : decode cX12_read 52 = .ok (.iload_n 2, 1) := by decide +kernel
theorem dX12_read_53 : decode cX12_read 53 = .ok (.imul, 1) := by decide +kernel
theorem dX12_read_54 : decode cX12_read 54 = .ok (.iload_n 3, 1) := by decide +kernel
theorem dX12_read_55 : decode cX12_read 55 = .ok (.iadd, 1) := by decide +kernel
theorem dX12_read_56 : decode cX12_read 56 = .ok (.iaload, 1) := by decide +kernel
theorem dX12_read_57 : decode cX12_read 57 = .ok (.invokevirtual 135, 3) := by decide +kernel
theorem dX12_read_60 : decode cX12_read 60 = .ok (.ifCond .le 9, 3) := by decide +kernel
theorem dX12_read_63 : decode cX12_read 63 = .ok (.iinc 3 1, 3) := by decide +kernel
theorem dX12_read_66 : decode cX12_read 66 = .ok (.goto (-32), 3) := by decide +kernel
theorem dX12_read_69 : decode cX12_read 69 = .ok (.iload_n 3, 1) := by decide +kernel
theorem dX12_read_70 : decode cX12_read 70 = .ok (.ireturn, 1) := by decide +kernel
theorem dX12_byteAt_0 : decode cX12_byteAt 0 = .ok (.iload_n 2, 1) := by decide +kernel
theorem dX12_byteAt_1 : decode cX12_byteAt 1 = .ok (.aload_n 0, 1) := by decide +kernel
theorem dX12_byteAt_2 : decode cX12_byteAt 2 = .ok (.getfield 7, 3) := by decide +kernel
theorem dX12_byteAt_5 : decode cX12_byteAt 5 = .ok (.iload_n 1, 1) := by decide +kernel
theorem dX12_byteAt_6 : decode cX12_byteAt 6 = .ok (.iaload, 1) := by decide +kernel
theorem dX12_byteAt_7 : decode cX12_byteAt 7 = .ok (.if_icmp .ge 17, 3) := by decide +kernel
theorem dX12_byteAt_10 : decode cX12_byteAt 10 = .ok (.aload_n 0, 1) := by decide +kernel
theorem dX12_byteAt_11 : decode cX12_byteAt 11 = .ok (.getfield 13, 3) := by decide +kernel
theorem dX12_byteAt_14 : decode cX12_byteAt 14 = .ok (.bipush 30, 2) := by decide +kernel
theorem dX12_byteAt_16 : decode cX12_byteAt 16 = .ok (.iload_n 1, 1) := by decide +kernel
theorem dX12_byteAt_17 : decode cX12_byteAt 17 = .ok (.imul, 1) := by decide +kernel
theorem dX12_byteAt_18 : decode cX12_byteAt 18 = .ok (.iload_n 2, 1) := by decide +kernel
theorem dX12_byteAt_19 : decode cX12_byteAt 19 = .ok (.iadd, 1) := by decide +kernel
theorem dX12_byteAt_20 : decode cX12_byteAt 20 = .ok (.iaload, 1) := by decide +kernel
theorem dX12_byteAt_21 : decode cX12_byteAt 21 = .ok (.goto 4, 3) := by decide +kernel
theorem dX12_byteAt_24 : decode cX12_byteAt 24 = .ok (.iconst (-1), 1) := by decide +kernel
theorem dX12_byteAt_25 : decode cX12_byteAt 25 = .ok (.ireturn, 1) := by decide +kernel
theorem dX12_valueAt_0 : decode cX12_valueAt 0 = .ok (.aload_n 0, 1) := by decide +kernel
theorem dX12_valueAt_1 : decode cX12_valueAt 1 = .ok (.iload_n 1, 1) := by decide +kernel
theorem dX12_valueAt_2 : decode cX12_valueAt 2 = .ok (.iload_n 2, 1) := by decide +kernel
theorem dX12_valueAt_3 : decode cX12_valueAt 3 = .ok (.invokevirtual 139, 3) := by decide +kernel
theorem dX12_valueAt_6 : decode cX12_valueAt 6 = .ok (.istore_n 3, 1) := by decide +kernel
theorem dX12_valueAt_7 : decode cX12_valueAt 7 = .ok (.iload_n 3, 1) := by decide +kernel
theorem dX12_valueAt_8 : decode cX12_valueAt 8 = .ok (.bipush 45, 2) := by decide +kernel
theorem dX12_valueAt_10 : decode cX12_valueAt 10 = .ok (.if_icmp .ne 7, 3) := by decide +kernel
theorem dX12_valueAt_13 : decode cX12_valueAt 13 = .ok (.iconst (-1), 1) := by decide +kernel
theorem dX12_valueAt_14 : decode cX12_valueAt 14 = .ok (.goto 23, 3) := by decide +kernel
theorem dX12_valueAt_17 : decode cX12_valueAt 17 = .ok (.iload_n 3, 1) := by decide +kernel
theorem dX12_valueAt_18 : decode cX12_valueAt 18 = .ok (.bipush 48, 2) := by decide +kernel
theorem dX12_valueAt_20 : decode cX12_valueAt 20 = .ok (.bipush 57, 2) := by decide +kernel
theorem dX12_valueAt_22 : decode cX12_valueAt 22 = .ok (.invokestatic 107, 3) := by decide +kernel
theorem dX12_valueAt_25 : decode cX12_valueAt 25 = .ok (.ifCond .eq 10, 3) := by decide +kernel
theorem dX12_valueAt_28 : decode cX12_valueAt 28 = .ok (.iload_n 3, 1) := by decide +kernel
theorem dX12_valueAt_29 : decode cX12_valueAt 29 = .ok (.bipush 48, 2) := by decide +kernel
theorem dX12_valueAt_31 : decode cX12_valueAt 31 = .ok (.isub, 1) := by decide +kernel
theorem dX12_valueAt_32 : decode cX12_valueAt 32 = .ok (.goto 5, 3) := by decide +kernel
theorem dX12_valueAt_35 : decode cX12_valueAt 35 = .ok (.bipush (-2), 2) := by decide +kernel
theorem dX12_valueAt_37 : decode cX12_valueAt 37 = .ok (.ireturn, 1) := by decide +kernel
theorem dX12_readsTable_0 : decode cX12_readsTable 0 = .ok (.aload_n 0, 1) := by decide +kernel
theorem dX12_readsTable_1 : decode cX12_readsTable 1 = .ok (.getfield 19, 3) := by decide +kernel
theorem dX12_readsTable_4 : decode cX12_readsTable 4 = .ok (.iload_n 1, 1) := by decide +kernel
theorem dX12_readsTable_5 : decode cX12_readsTable 5 = .ok (.iconst 0, 1) := by decide +kernel
theorem dX12_readsTable_6 : decode cX12_readsTable 6 = .ok (.iastore, 1) := by decide +kernel
theorem dX12_readsTable_7 : decode cX12_readsTable 7 = .ok (.iconst 0, 1) := by decide +kernel
theorem dX12_readsTable_8 : decode cX12_readsTable 8 = .ok (.istore_n 2, 1) := by decide +kernel
theorem dX12_readsTable_9 : decode cX12_readsTable 9 = .ok (.iconst 0, 1) := by decide +kernel
theorem dX12_readsTable_10 : decode cX12_readsTable 10 = .ok (.istore_n 3, 1) := by decide +kernel
theorem dX12_readsTable_11 : decode cX12_readsTable 11 = .ok (.iload_n 3, 1) := by decide +kernel
theorem dX12_readsTable_12 : decode cX12_readsTable 12 = .ok (.aload_n 0, 1) := by decide +kernel
theorem dX12_readsTable_13 : decode cX12_readsTable 13 = .ok (.getfield 7, 3) := by decide +kernel
theorem dX12_readsTable_16 : decode cX12_readsTable 16 = .ok (.iload_n 1, 1) := by decide +kernel
theorem dX12_readsTable_17 : decode cX12_readsTable 17 = .ok (.iaload, 1) := by decide +kernel
theorem dX12_readsTable_18 : decode cX12_readsTable 18 = .ok (.if_icmp .lt 7, 3) := by decide +kernel
theorem dX12_readsTable_21 : decode cX12_readsTable 21 = .ok (.iload_n 3, 1) := by decide +kernel
theorem dX12_readsTable_22 : decode cX12_readsTable 22 = .ok (.ifCond .le 117, 3) := by decide +kernel
theorem dX12_readsTable_25 : decode cX12_readsTable 25 = .ok (.aload_n 0, 1) := by decide +kernel
theorem dX12_readsTable_26 : decode cX12_readsTable 26 = .ok (.iload_n 1, 1) := by decide +kernel
theorem dX12_readsTable_27 : decode cX12_readsTable 27 = .ok (.iload_n 3, 1) := by decide +kernel
theorem dX12_readsTable_28 : decode cX12_readsTable 28 = .ok (.invokevirtual 142, 3) := by decide +kernel
theorem dX12_readsTable_31 : decode cX12_readsTable 31 = .ok (.istore 4, 2) := by decide +kernel
theorem dX12_readsTable_33 : decode cX12_readsTable 33 = .ok (.aload_n 0, 1) := by decide +kernel
theorem dX12_readsTable_34 : decode cX12_readsTable 34 = .ok (.iload_n 1, 1) := by decide +kernel
theorem dX12_readsTable_35 : decode cX12_readsTable 35 = .ok (.iload_n 3, 1) := by decide +kernel
theorem dX12_readsTable_36 : decode cX12_readsTable 36 = .ok (.iconst 1, 1) := by decide +kernel
theorem dX12_readsTable_37 : decode cX12_readsTable 37 = .ok (.iadd, 1) := by decide +kernel
theorem dX12_readsTable_38 : decode cX12_readsTable 38 = .ok (.invokevirtual 142, 3) := by decide +kernel
theorem dX12_readsTable_41 : decode cX12_readsTable 41 = .ok (.istore 5, 2) := by decide +kernel
theorem dX12_readsTable_43 : decode cX12_readsTable 43 = .ok (.iload_n 2, 1) := by decide +kernel
theorem dX12_readsTable_44 : decode cX12_readsTable 44 = .ok (.bipush 10, 2) := by decide +kernel
theorem dX12_readsTable_46 : decode cX12_readsTable 46 = .ok (.if_icmp .eq 10, 3) := by decide +kernel
theorem dX12_readsTable_49 : decode cX12_readsTable 49 = .ok (.iload 4, 2) := by decide +kernel
theorem dX12_readsTable_51 : decode cX12_readsTable 51 = .ok (.bipush (-2), 2) := by decide +kernel
theorem dX12_readsTable_53 : decode cX12_readsTable 53 = .ok (.if_icmp .ne 5, 3) := by decide +kernel
theorem dX12_readsTable_56 : decode cX12_readsTable 56 = .ok (.iload_n 3, 1) := by decide +kernel
theorem dX12_readsTable_57 : decode cX12_readsTable 57 = .ok (.ireturn, 1) := by decide +kernel
theorem dX12_readsTable_58 : decode cX12_readsTable 58 = .ok (.iload 5, 2) := by decide +kernel
theorem dX12_readsTable_60 : decode cX12_readsTable 60 = .ok (.bipush (-2), 2) := by decide +kernel
theorem dX12_readsTable_62 : decode cX12_readsTable 62 = .ok (.if_icmp .ne 7, 3) := by decide +kernel
theorem dX12_readsTable_65 : decode cX12_readsTable 65 = .ok (.iload_n 3, 1) := by decide +kernel
theorem dX12_readsTable_66 : decode cX12_readsTable 66 = .ok (.iconst 1, 1) := by decide +kernel
theorem dX12_readsTable_67 : decode cX12_readsTable 67 = .ok (.iadd, 1) := by decide +kernel
theorem dX12_readsTable_68 : decode cX12_readsTable 68 = .ok (.ireturn, 1) := by decide +kernel
theorem dX12_readsTable_69 : decode cX12_readsTable 69 = .ok (.aload_n 0, 1) := by decide +kernel
theorem dX12_readsTable_70 : decode cX12_readsTable 70 = .ok (.getfield 22, 3) := by decide +kernel
theorem dX12_readsTable_73 : decode cX12_readsTable 73 = .ok (.bipush 10, 2) := by decide +kernel
theorem dX12_readsTable_75 : decode cX12_readsTable 75 = .ok (.iload_n 1, 1) := by decide +kernel
theorem dX12_readsTable_76 : decode cX12_readsTable 76 = .ok (.imul, 1) := by decide +kernel
theorem dX12_readsTable_77 : decode cX12_readsTable 77 = .ok (.iload_n 2, 1) := by decide +kernel
theorem dX12_readsTable_78 : decode cX12_readsTable 78 = .ok (.iadd, 1) := by decide +kernel
theorem dX12_readsTable_79 : decode cX12_readsTable 79 = .ok (.iload 4, 2) := by decide +kernel
theorem dX12_readsTable_81 : decode cX12_readsTable 81 = .ok (.iastore, 1) := by decide +kernel
theorem dX12_readsTable_82 : decode cX12_readsTable 82 = .ok (.aload_n 0, 1) := by decide +kernel
theorem dX12_readsTable_83 : decode cX12_readsTable 83 = .ok (.getfield 25, 3) := by decide +kernel
theorem dX12_readsTable_86 : decode cX12_readsTable 86 = .ok (.bipush 10, 2) := by decide +kernel
theorem dX12_readsTable_88 : decode cX12_readsTable 88 = .ok (.iload_n 1, 1) := by decide +kernel
theorem dX12_readsTable_89 : decode cX12_readsTable 89 = .ok (.imul, 1) := by decide +kernel
theorem dX12_readsTable_90 : decode cX12_readsTable 90 = .ok (.iload_n 2, 1) := by decide +kernel
theorem dX12_readsTable_91 : decode cX12_readsTable 91 = .ok (.iadd, 1) := by decide +kernel
theorem dX12_readsTable_92 : decode cX12_readsTable 92 = .ok (.iload 5, 2) := by decide +kernel
theorem dX12_readsTable_94 : decode cX12_readsTable 94 = .ok (.iastore, 1) := by decide +kernel
theorem dX12_readsTable_95 : decode cX12_readsTable 95 = .ok (.iinc 2 1, 3) := by decide +kernel
theorem dX12_readsTable_98 : decode cX12_readsTable 98 = .ok (.iinc 3 2, 3) := by decide +kernel
theorem dX12_readsTable_101 : decode cX12_readsTable 101 = .ok (.iload_n 3, 1) := by decide +kernel
theorem dX12_readsTable_102 : decode cX12_readsTable 102 = .ok (.aload_n 0, 1) := by decide +kernel
theorem dX12_readsTable_103 : decode cX12_readsTable 103 = .ok (.getfield 7, 3) := by decide +kernel
theorem dX12_readsTable_106 : decode cX12_readsTable 106 = .ok (.iload_n 1, 1) := by decide +kernel
