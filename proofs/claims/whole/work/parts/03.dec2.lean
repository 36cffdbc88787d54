theorem dX5_arrive_5 : decode cX5_arrive 5 = .ok (.iload_n 1, 1) := by decide +kernel
theorem dX5_arrive_6 : decode cX5_arrive 6 = .ok (.iconst (-1), 1) := by decide +kernel
theorem dX5_arrive_7 : decode cX5_arrive 7 = .ok (.if_icmp .eq 46, 3) := by decide +kernel
theorem dX5_arrive_10 : decode cX5_arrive 10 = .ok (.iload_n 2, 1) := by decide +kernel
theorem dX5_arrive_11 : decode cX5_arrive 11 = .ok (.bipush 10, 2) := by decide +kernel
theorem dX5_arrive_13 : decode cX5_arrive 13 = .ok (.invokestatic 198, 3) := by decide +kernel
theorem dX5_arrive_16 : decode cX5_arrive 16 = .ok (.ifCond .eq 37, 3) := by decide +kernel
theorem dX5_arrive_19 : decode cX5_arrive 19 = .ok (.aload_n 0, 1) := by decide +kernel
theorem dX5_arrive_20 : decode cX5_arrive 20 = .ok (.dup, 1) := by decide +kernel
theorem dX5_arrive_21 : decode cX5_arrive 21 = .ok (.getfield 37, 3) := by decide +kernel
theorem dX5_arrive_24 : decode cX5_arrive 24 = .ok (.iconst 1, 1) := by decide +kernel
theorem dX5_arrive_25 : decode cX5_arrive 25 = .ok (.iadd, 1) := by decide +kernel
theorem dX5_arrive_26 : decode cX5_arrive 26 = .ok (.putfield 37, 3) := by decide +kernel
theorem dX5_arrive_29 : decode cX5_arrive 29 = .ok (.aload_n 0, 1) := by decide +kernel
theorem dX5_arrive_30 : decode cX5_arrive 30 = .ok (.getfield 40, 3) := by decide +kernel
theorem dX5_arrive_33 : decode cX5_arrive 33 = .ok (.getfield 93, 3) := by decide +kernel
theorem dX5_arrive_36 : decode cX5_arrive 36 = .ok (.iload_n 2, 1) := by decide +kernel
theorem dX5_arrive_37 : decode cX5_arrive 37 = .ok (.aaload, 1) := by decide +kernel
theorem dX5_arrive_38 : decode cX5_arrive 38 = .ok (.iload_n 1, 1) := by decide +kernel
theorem dX5_arrive_39 : decode cX5_arrive 39 = .ok (.invokestatic 183, 3) := by decide +kernel
theorem dX5_arrive_42 : decode cX5_arrive 42 = .ok (.aload_n 0, 1) := by decide +kernel
theorem dX5_arrive_43 : decode cX5_arrive 43 = .ok (.getfield 21, 3) := by decide +kernel
theorem dX5_arrive_46 : decode cX5_arrive 46 = .ok (.iload_n 2, 1) := by decide +kernel
theorem dX5_arrive_47 : decode cX5_arrive 47 = .ok (.invokevirtual 201, 3) := by decide +kernel
theorem dX5_arrive_50 : decode cX5_arrive 50 = .ok (.invokevirtual 204, 3) := by decide +kernel
theorem dX5_arrive_53 : decode cX5_arrive 53 = .ok (.return_, 1) := by decide +kernel
theorem dX5_packed_0 : decode cX5_packed 0 = .ok (.iload_n 2, 1) := by decide +kernel
theorem dX5_packed_1 : decode cX5_packed 1 = .ok (.bipush 20, 2) := by decide +kernel
theorem dX5_packed_3 : decode cX5_packed 3 = .ok (.ishl, 1) := by decide +kernel
theorem dX5_packed_4 : decode cX5_packed 4 = .ok (.iload_n 1, 1) := by decide +kernel
theorem dX5_packed_5 : decode cX5_packed 5 = .ok (.iconst 1, 1) := by decide +kernel
theorem dX5_packed_6 : decode cX5_packed 6 = .ok (.iadd, 1) := by decide +kernel
theorem dX5_packed_7 : decode cX5_packed 7 = .ok (.bipush 8, 2) := by decide +kernel
theorem dX5_packed_9 : decode cX5_packed 9 = .ok (.ishl, 1) := by decide +kernel
theorem dX5_packed_10 : decode cX5_packed 10 = .ok (.ior, 1) := by decide +kernel
theorem dX5_packed_11 : decode cX5_packed 11 = .ok (.iload_n 0, 1) := by decide +kernel
theorem dX5_packed_12 : decode cX5_packed 12 = .ok (.iconst 1, 1) := by decide +kernel
theorem dX5_packed_13 : decode cX5_packed 13 = .ok (.iadd, 1) := by decide +kernel
theorem dX5_packed_14 : decode cX5_packed 14 = .ok (.ior, 1) := by decide +kernel
theorem dX5_packed_15 : decode cX5_packed 15 = .ok (.ireturn, 1) := by decide +kernel
theorem dX5_keyOf_0 : decode cX5_keyOf 0 = .ok (.iload_n 0, 1) := by decide +kernel
theorem dX5_keyOf_1 : decode cX5_keyOf 1 = .ok (.sipush 255, 3) := by decide +kernel
theorem dX5_keyOf_4 : decode cX5_keyOf 4 = .ok (.iand, 1) := by decide +kernel
theorem dX5_keyOf_5 : decode cX5_keyOf 5 = .ok (.iconst 1, 1) := by decide +kernel
theorem dX5_keyOf_6 : decode cX5_keyOf 6 = .ok (.isub, 1) := by decide +kernel
theorem dX5_keyOf_7 : decode cX5_keyOf 7 = .ok (.ireturn, 1) := by decide +kernel
theorem dX5_valueOf_0 : decode cX5_valueOf 0 = .ok (.iload_n 0, 1) := by decide +kernel
theorem dX5_valueOf_1 : decode cX5_valueOf 1 = .ok (.bipush 8, 2) := by decide +kernel
theorem dX5_valueOf_3 : decode cX5_valueOf 3 = .ok (.ishr, 1) := by decide +kernel
theorem dX5_valueOf_4 : decode cX5_valueOf 4 = .ok (.sipush 4095, 3) := by decide +kernel
theorem dX5_valueOf_7 : decode cX5_valueOf 7 = .ok (.iand, 1) := by decide +kernel
theorem dX5_valueOf_8 : decode cX5_valueOf 8 = .ok (.iconst 1, 1) := by decide +kernel
theorem dX5_valueOf_9 : decode cX5_valueOf 9 = .ok (.isub, 1) := by decide +kernel
theorem dX5_valueOf_10 : decode cX5_valueOf 10 = .ok (.ireturn, 1) := by decide +kernel
theorem dX6_init_0 : decode cX6_init 0 = .ok (.aload_n 0, 1) := by decide +kernel
theorem dX6_init_1 : decode cX6_init 1 = .ok (.invokespecial 3, 3) := by decide +kernel
theorem dX6_init_4 : decode cX6_init 4 = .ok (.aload_n 0, 1) := by decide +kernel
theorem dX6_init_5 : decode cX6_init 5 = .ok (.bipush 60, 2) := by decide +kernel
theorem dX6_init_7 : decode cX6_init 7 = .ok (.newarray .int, 2) := by decide +kernel
theorem dX6_init_9 : decode cX6_init 9 = .ok (.putfield 9, 3) := by decide +kernel
theorem dX6_init_12 : decode cX6_init 12 = .ok (.aload_n 0, 1) := by decide +kernel
theorem dX6_init_13 : decode cX6_init 13 = .ok (.iconst (-1), 1) := by decide +kernel
theorem dX6_init_14 : decode cX6_init 14 = .ok (.putfield 15, 3) := by decide +kernel
theorem dX6_init_17 : decode cX6_init 17 = .ok (.aload_n 0, 1) := by decide +kernel
theorem dX6_init_18 : decode cX6_init 18 = .ok (.iconst 0, 1) := by decide +kernel
theorem dX6_init_19 : decode cX6_init 19 = .ok (.putfield 19, 3) := by decide +kernel
theorem dX6_init_22 : decode cX6_init 22 = .ok (.return_, 1) := by decide +kernel
theorem dX6_isLost_0 : decode cX6_isLost 0 = .ok (.aload_n 0, 1) := by decide +kernel
theorem dX6_isLost_1 : decode cX6_isLost 1 = .ok (.getfield 15, 3) := by decide +kernel
theorem dX6_isLost_4 : decode cX6_isLost 4 = .ok (.iconst (-1), 1) := by decide +kernel
theorem dX6_isLost_5 : decode cX6_isLost 5 = .ok (.if_icmp .ne 7, 3) := by decide +kernel
theorem dX6_isLost_8 : decode cX6_isLost 8 = .ok (.iconst 1, 1) := by decide +kernel
theorem dX6_isLost_9 : decode cX6_isLost 9 = .ok (.goto 4, 3) := by decide +kernel
theorem dX6_isLost_12 : decode cX6_isLost 12 = .ok (.iconst 0, 1) := by decide +kernel
theorem dX6_isLost_13 : decode cX6_isLost 13 = .ok (.ireturn, 1) := by decide +kernel
theorem dX6_forget_0 : decode cX6_forget 0 = .ok (.aload_n 0, 1) := by decide +kernel
theorem dX6_forget_1 : decode cX6_forget 1 = .ok (.iconst (-1), 1) := by decide +kernel
theorem dX6_forget_2 : decode cX6_forget 2 = .ok (.putfield 15, 3) := by decide +kernel
theorem dX6_forget_5 : decode cX6_forget 5 = .ok (.aload_n 0, 1) := by decide +kernel
theorem dX6_forget_6 : decode cX6_forget 6 = .ok (.iconst 0, 1) := by decide +kernel
theorem dX6_forget_7 : decode cX6_forget 7 = .ok (.putfield 19, 3) := by decide +kernel
theorem dX6_forget_10 : decode cX6_forget 10 = .ok (.return_, 1) := by decide +kernel
theorem dX6_renew_0 : decode cX6_renew 0 = .ok (.aload_n 0, 1) := by decide +kernel
theorem dX6_renew_1 : decode cX6_renew 1 = .ok (.iload_n 1, 1) := by decide +kernel
theorem dX6_renew_2 : decode cX6_renew 2 = .ok (.putfield 15, 3) := by decide +kernel
theorem dX6_renew_5 : decode cX6_renew 5 = .ok (.aload_n 0, 1) := by decide +kernel
theorem dX6_renew_6 : decode cX6_renew 6 = .ok (.iload_n 2, 1) := by decide +kernel
theorem dX6_renew_7 : decode cX6_renew 7 = .ok (.putfield 19, 3) := by decide +kernel
theorem dX6_renew_10 : decode cX6_renew 10 = .ok (.aload_n 0, 1) := by decide +kernel
theorem dX6_renew_11 : decode cX6_renew 11 = .ok (.getfield 9, 3) := by decide +kernel
theorem dX6_renew_14 : decode cX6_renew 14 = .ok (.iconst 0, 1) := by decide +kernel
theorem dX6_renew_15 : decode cX6_renew 15 = .ok (.invokestatic 22, 3) := by decide +kernel
theorem dX6_renew_18 : decode cX6_renew 18 = .ok (.return_, 1) := by decide +kernel
theorem dX6_findingAt_0 : decode cX6_findingAt 0 = .ok (.aload_n 0, 1) := by decide +kernel
theorem dX6_findingAt_1 : decode cX6_findingAt 1 = .ok (.invokevirtual 28, 3) := by decide +kernel
theorem dX6_findingAt_4 : decode cX6_findingAt 4 = .ok (.ifCond .eq 5, 3) := by decide +kernel
theorem dX6_findingAt_7 : decode cX6_findingAt 7 = .ok (.iconst 1, 1) := by decide +kernel
theorem dX6_findingAt_8 : decode cX6_findingAt 8 = .ok (.ireturn, 1) := by decide +kernel
theorem dX6_findingAt_9 : decode cX6_findingAt 9 = .ok (.aload_n 0, 1) := by decide +kernel
theorem dX6_findingAt_10 : decode cX6_findingAt 10 = .ok (.getfield 15, 3) := by decide +kernel
theorem dX6_findingAt_13 : decode cX6_findingAt 13 = .ok (.iload_n 1, 1) := by decide +kernel
theorem dX6_findingAt_14 : decode cX6_findingAt 14 = .ok (.if_icmp .eq 5, 3) := by decide +kernel
theorem dX6_findingAt_17 : decode cX6_findingAt 17 = .ok (.iconst 3, 1) := by decide +kernel
theorem dX6_findingAt_18 : decode cX6_findingAt 18 = .ok (.ireturn, 1) := by decide +kernel
theorem dX6_findingAt_19 : decode cX6_findingAt 19 = .ok (.iload_n 2, 1) := by decide +kernel
theorem dX6_findingAt_20 : decode cX6_findingAt 20 = .ok (.aload_n 0, 1) := by decide +kernel
theorem dX6_findingAt_21 : decode cX6_findingAt 21 = .ok (.getfield 19, 3) := by decide +kernel
theorem dX6_findingAt_24 : decode cX6_findingAt 24 = .ok (.invokestatic 32, 3) := by decide +kernel
theorem dX6_findingAt_27 : decode cX6_findingAt 27 = .ok (.ifCond .eq 7, 3) := by decide +kernel
theorem dX6_findingAt_30 : decode cX6_findingAt 30 = .ok (.iconst 0, 1) := by decide +kernel
theorem dX6_findingAt_31 : decode cX6_findingAt 31 = .ok (.goto 4, 3) := by decide +kernel
theorem dX6_findingAt_34 : decode cX6_findingAt 34 = .ok (.iconst 2, 1) := by decide +kernel
theorem dX6_findingAt_35 : decode cX6_findingAt 35 = .ok (.ireturn, 1) := by decide +kernel
theorem dX6_hasRange_0 : decode cX6_hasRange 0 = .ok (.iload_n 1, 1) := by decide +kernel
theorem dX6_hasRange_1 : decode cX6_hasRange 1 = .ok (.ifCond .lt 21, 3) := by decide +kernel
theorem dX6_hasRange_4 : decode cX6_hasRange 4 = .ok (.iload_n 2, 1) := by decide +kernel
theorem dX6_hasRange_5 : decode cX6_hasRange 5 = .ok (.ifCond .lt 17, 3) := by decide +kernel
theorem dX6_hasRange_8 : decode cX6_hasRange 8 = .ok (.iload_n 1, 1) := by decide +kernel
theorem dX6_hasRange_9 : decode cX6_hasRange 9 = .ok (.aload_n 0, 1) := by decide +kernel
theorem dX6_hasRange_10 : decode cX6_hasRange 10 = .ok (.getfield 19, 3) := by decide +kernel
theorem dX6_hasRange_13 : decode cX6_hasRange 13 = .ok (.iload_n 2, 1) := by decide +kernel
theorem dX6_hasRange_14 : decode cX6_hasRange 14 = .ok (.isub, 1) := by decide +kernel
theorem dX6_hasRange_15 : decode cX6_hasRange 15 = .ok (.if_icmp .gt 7, 3) := by decide +kernel
theorem dX6_hasRange_18 : decode cX6_hasRange 18 = .ok (.iconst 1, 1) := by decide +kernel
theorem dX6_hasRange_19 : decode cX6_hasRange 19 = .ok (.goto 4, 3) := by decide +kernel
theorem dX6_hasRange_22 : decode cX6_hasRange 22 = .ok (.iconst 0, 1) := by decide +kernel
theorem dX6_hasRange_23 : decode cX6_hasRange 23 = .ok (.ireturn, 1) := by decide +kernel
theorem dX6_assign_0 : decode cX6_assign 0 = .ok (.aload_n 0, 1) := by decide +kernel
theorem dX6_assign_1 : decode cX6_assign 1 = .ok (.getfield 9, 3) := by decide +kernel
theorem dX6_assign_4 : decode cX6_assign 4 = .ok (.iload_n 1, 1) := by decide +kernel
theorem dX6_assign_5 : decode cX6_assign 5 = .ok (.aload_n 0, 1) := by decide +kernel
theorem dX6_assign_6 : decode cX6_assign 6 = .ok (.getfield 15, 3) := by decide +kernel
theorem dX6_assign_9 : decode cX6_assign 9 = .ok (.ifCond .ne 8, 3) := by decide +kernel
theorem dX6_assign_12 : decode cX6_assign 12 = .ok (.iload_n 2, 1) := by decide +kernel
theorem dX6_assign_13 : decode cX6_assign 13 = .ok (.i2b, 1) := by decide +kernel
theorem dX6_assign_14 : decode cX6_assign 14 = .ok (.goto 17, 3) := by decide +kernel
theorem dX6_assign_17 : decode cX6_assign 17 = .ok (.aload_n 0, 1) := by decide +kernel
theorem dX6_assign_18 : decode cX6_assign 18 = .ok (.getfield 15, 3) := by decide +kernel
theorem dX6_assign_21 : decode cX6_assign 21 = .ok (.iconst 1, 1) := by decide +kernel
theorem dX6_assign_22 : decode cX6_assign 22 = .ok (.if_icmp .ne 8, 3) := by decide +kernel
theorem dX6_assign_25 : decode cX6_assign 25 = .ok (.iload_n 2, 1) := by decide +kernel
theorem dX6_assign_26 : decode cX6_assign 26 = .ok (.i2s, 1) := by decide +kernel
theorem dX6_assign_27 : decode cX6_assign 27 = .ok (.goto 4, 3) := by decide +kernel
theorem dX6_assign_30 : decode cX6_assign 30 = .ok (.iload_n 2, 1) := by decide +kernel
theorem dX6_assign_31 : decode cX6_assign 31 = .ok (.iastore, 1) := by decide +kernel
theorem dX6_assign_32 : decode cX6_assign 32 = .ok (.return_, 1) := by decide +kernel
theorem dX7_init_0 : decode cX7_init 0 = .ok (.aload_n 0, 1) := by decide +kernel
theorem dX7_init_1 : decode cX7_init 1 = .ok (.invokespecial 3, 3) := by decide +kernel
theorem dX7_init_4 : decode cX7_init 4 = .ok (.aload_n 0, 1) := by decide +kernel
theorem dX7_init_5 : decode cX7_init 5 = .ok (.bipush 12, 2) := by decide +kernel
theorem dX7_init_7 : decode cX7_init 7 = .ok (.newarray .int, 2) := by decide +kernel
theorem dX7_init_9 : decode cX7_init 9 = .ok (.putfield 9, 3) := by decide +kernel
theorem dX7_init_12 : decode cX7_init 12 = .ok (.aload_n 0, 1) := by decide +kernel
theorem dX7_init_13 : decode cX7_init 13 = .ok (.bipush 12, 2) := by decide +kernel
theorem dX7_init_15 : decode cX7_init 15 = .ok (.newarray .int, 2) := by decide +kernel
theorem dX7_init_17 : decode cX7_init 17 = .ok (.putfield 15, 3) := by decide +kernel
theorem dX7_init_20 : decode cX7_init 20 = .ok (.aload_n 0, 1) := by decide +kernel
theorem dX7_init_21 : decode cX7_init 21 = .ok (.iconst 0, 1) := by decide +kernel
theorem dX7_init_22 : decode cX7_init 22 = .ok (.putfield 18, 3) := by decide +kernel
theorem dX7_init_25 : decode cX7_init 25 = .ok (.aload_n 0, 1) := by decide +kernel
theorem dX7_init_26 : decode cX7_init 26 = .ok (.iconst (-1), 1) := by decide +kernel
theorem dX7_init_27 : decode cX7_init 27 = .ok (.putfield 22, 3) := by decide +kernel
theorem dX7_init_30 : decode cX7_init 30 = .ok (.return_, 1) := by decide +kernel
theorem dX7_parse_0 : decode cX7_parse 0 = .ok (.aload_n 0, 1) := by decide +kernel
theorem dX7_parse_1 : decode cX7_parse 1 = .ok (.iconst 0, 1) := by decide +kernel
theorem dX7_parse_2 : decode cX7_parse 2 = .ok (.putfield 18, 3) := by decide +kernel
theorem dX7_parse_5 : decode cX7_parse 5 = .ok (.aload_n 0, 1) := by decide +kernel
theorem dX7_parse_6 : decode cX7_parse 6 = .ok (.iconst (-1), 1) := by decide +kernel
theorem dX7_parse_7 : decode cX7_parse 7 = .ok (.putfield 22, 3) := by decide +kernel
theorem dX7_parse_10 : decode cX7_parse 10 = .ok (.iconst 0, 1) := by decide +kernel
theorem dX7_parse_11 : decode cX7_parse 11 = .ok (.istore_n 2, 1) := by decide +kernel
theorem dX7_parse_12 : decode cX7_parse 12 = .ok (.iload_n 2, 1) := by decide +kernel
theorem dX7_parse_13 : decode cX7_parse 13 = .ok (.aload_n 1, 1) := by decide +kernel
theorem dX7_parse_14 : decode cX7_parse 14 = .ok (.getfield 25, 3) := by decide +kernel
theorem dX7_parse_17 : decode cX7_parse 17 = .ok (.if_icmp .ge 100, 3) := by decide +kernel
theorem dX7_parse_20 : decode cX7_parse 20 = .ok (.aload_n 0, 1) := by decide +kernel
theorem dX7_parse_21 : decode cX7_parse 21 = .ok (.getfield 22, 3) := by decide +kernel
theorem dX7_parse_24 : decode cX7_parse 24 = .ok (.iconst (-1), 1) := by decide +kernel
theorem dX7_parse_25 : decode cX7_parse 25 = .ok (.if_icmp .ne 92, 3) := by decide +kernel
theorem dX7_parse_28 : decode cX7_parse 28 = .ok (.aload_n 1, 1) := by decide +kernel
theorem dX7_parse_29 : decode cX7_parse 29 = .ok (.getfield 28, 3) := by decide +kernel
theorem dX7_parse_32 : decode cX7_parse 32 = .ok (.iload_n 2, 1) := by decide +kernel
theorem dX7_parse_33 : decode cX7_parse 33 = .ok (.iaload, 1) := by decide +kernel
theorem dX7_parse_34 : decode cX7_parse 34 = .ok (.invokestatic 31, 3) := by decide +kernel
theorem dX7_parse_37 : decode cX7_parse 37 = .ok (.istore_n 3, 1) := by decide +kernel
theorem dX7_parse_38 : decode cX7_parse 38 = .ok (.iload_n 3, 1) := by decide +kernel
theorem dX7_parse_39 : decode cX7_parse 39 = .ok (.iconst (-1), 1) := by decide +kernel
theorem dX7_parse_40 : decode cX7_parse 40 = .ok (.if_icmp .ne 11, 3) := by decide +kernel
theorem dX7_parse_43 : decode cX7_parse 43 = .ok (.aload_n 0, 1) := by decide +kernel
theorem dX7_parse_44 : decode cX7_parse 44 = .ok (.iload_n 2, 1) := by decide +kernel
theorem dX7_parse_45 : decode cX7_parse 45 = .ok (.putfield 22, 3) := by decide +kernel
theorem dX7_parse_48 : decode cX7_parse 48 = .ok (.goto 63, 3) := by decide +kernel
theorem dX7_parse_51 : decode cX7_parse 51 = .ok (.iload_n 3, 1) := by decide +kernel
theorem dX7_parse_52 : decode cX7_parse 52 = .ok (.bipush 7, 2) := by decide +kernel
theorem dX7_parse_54 : decode cX7_parse 54 = .ok (.if_icmp .eq 12, 3) := by decide +kernel
theorem dX7_parse_57 : decode cX7_parse 57 = .ok (.aload_n 0, 1) := by decide +kernel
theorem dX7_parse_58 : decode cX7_parse 58 = .ok (.iload_n 3, 1) := by decide +kernel
theorem dX7_parse_59 : decode cX7_parse 59 = .ok (.iconst (-1), 1) := by decide +kernel
theorem dX7_parse_60 : decode cX7_parse 60 = .ok (.invokevirtual 35, 3) := by decide +kernel
theorem dX7_parse_63 : decode cX7_parse 63 = .ok (.goto 48, 3) := by decide +kernel
theorem dX7_parse_66 : decode cX7_parse 66 = .ok (.iinc 2 1, 3) := by decide +kernel
theorem dX7_parse_69 : decode cX7_parse 69 = .ok (.iload_n 2, 1) := by decide +kernel
theorem dX7_parse_70 : decode cX7_parse 70 = .ok (.aload_n 1, 1) := by decide +kernel
theorem dX7_parse_71 : decode cX7_parse 71 = .ok (.getfield 25, 3) := by decide +kernel
theorem dX7_parse_74 : decode cX7_parse 74 = .ok (.if_icmp .ge 32, 3) := by decide +kernel
theorem dX7_parse_77 : decode cX7_parse 77 = .ok (.aload_n 1, 1) := by decide +kernel
theorem dX7_parse_78 : decode cX7_parse 78 = .ok (.getfield 28, 3) := by decide +kernel
theorem dX7_parse_81 : decode cX7_parse 81 = .ok (.iload_n 2, 1) := by decide +kernel
theorem dX7_parse_82 : decode cX7_parse 82 = .ok (.iaload, 1) := by decide +kernel
theorem dX7_parse_83 : decode cX7_parse 83 = .ok (.invokestatic 39, 3) := by decide +kernel
theorem dX7_parse_86 : decode cX7_parse 86 = .ok (.ifCond .eq 20, 3) := by decide +kernel
theorem dX7_parse_89 : decode cX7_parse 89 = .ok (.aload_n 0, 1) := by decide +kernel
theorem dX7_parse_90 : decode cX7_parse 90 = .ok (.iload_n 3, 1) := by decide +kernel
theorem dX7_parse_91 : decode cX7_parse 91 = .ok (.aload_n 1, 1) := by decide +kernel
theorem dX7_parse_92 : decode cX7_parse 92 = .ok (.getfield 28, 3) := by decide +kernel
theorem dX7_parse_95 : decode cX7_parse 95 = .ok (.iload_n 2, 1) := by decide +kernel
theorem dX7_parse_96 : decode cX7_parse 96 = .ok (.iaload, 1) := by decide +kernel
theorem dX7_parse_97 : decode cX7_parse 97 = .ok (.bipush 48, 2) := by decide +kernel
theorem dX7_parse_99 : decode cX7_parse 99 = .ok (.isub, 1) := by decide +kernel
theorem dX7_parse_100 : decode cX7_parse 100 = .ok (.invokevirtual 35, 3) := by decide +kernel
theorem dX7_parse_103 : decode cX7_parse 103 = .ok (.goto 8, 3) := by decide +kernel
theorem dX7_parse_106 : decode cX7_parse 106 = .ok (.aload_n 0, 1) := by decide +kernel
theorem dX7_parse_107 : decode cX7_parse 107 = .ok (.iload_n 2, 1) := by decide +kernel
theorem dX7_parse_108 : decode cX7_parse 108 = .ok (.putfield 22, 3) := by decide +kernel
theorem dX7_parse_111 : decode cX7_parse 111 = .ok (.iinc 2 1, 3) := by decide +kernel
theorem dX7_parse_114 : decode cX7_parse 114 = .ok (.goto (-102), 3) := by decide +kernel
theorem dX7_parse_117 : decode cX7_parse 117 = .ok (.aload_n 0, 1) := by decide +kernel
theorem dX7_parse_118 : decode cX7_parse 118 = .ok (.getfield 22, 3) := by decide +kernel
theorem dX7_parse_121 : decode cX7_parse 121 = .ok (.iconst (-1), 1) := by decide +kernel
theorem dX7_parse_122 : decode cX7_parse 122 = .ok (.if_icmp .eq 8, 3) := by decide +kernel
theorem dX7_parse_125 : decode cX7_parse 125 = .ok (.aload_n 0, 1) := by decide +kernel
theorem dX7_parse_126 : decode cX7_parse 126 = .ok (.iconst 0, 1) := by decide +kernel
theorem dX7_parse_127 : decode cX7_parse 127 = .ok (.putfield 18, 3) := by decide +kernel
theorem dX7_parse_130 : decode cX7_parse 130 = .ok (.return_, 1) := by decide +kernel
theorem dX7_add_0 : decode cX7_add 0 = .ok (.aload_n 0, 1) := by decide +kernel
theorem dX7_add_1 : decode cX7_add 1 = .ok (.getfield 18, 3) := by decide +kernel
theorem dX7_add_4 : decode cX7_add 4 = .ok (.bipush 12, 2) := by decide +kernel
theorem dX7_add_6 : decode cX7_add 6 = .ok (.if_icmp .ge 33, 3) := by decide +kernel
theorem dX7_add_9 : decode cX7_add 9 = .ok (.aload_n 0, 1) := by decide +kernel
theorem dX7_add_10 : decode cX7_add 10 = .ok (.getfield 9, 3) := by decide +kernel
theorem dX7_add_13 : decode cX7_add 13 = .ok (.aload_n 0, 1) := by decide +kernel
theorem dX7_add_14 : decode cX7_add 14 = .ok (.getfield 18, 3) := by decide +kernel
theorem dX7_add_17 : decode cX7_add 17 = .ok (.iload_n 1, 1) := by decide +kernel
theorem dX7_add_18 : decode cX7_add 18 = .ok (.iastore, 1) := by decide +kernel
theorem dX7_add_19 : decode cX7_add 19 = .ok (.aload_n 0, 1) := by decide +kernel
theorem dX7_add_20 : decode cX7_add 20 = .ok (.getfield 15, 3) := by decide +kernel
theorem dX7_add_23 : decode cX7_add 23 = .ok (.aload_n 0, 1) := by decide +kernel
theorem dX7_add_24 : decode cX7_add 24 = .ok (.getfield 18, 3) := by decide +kernel
theorem dX7_add_27 : decode cX7_add 27 = .ok (.iload_n 2, 1) := by decide +kernel
theorem dX7_add_28 : decode cX7_add 28 = .ok (.iastore, 1) := by decide +kernel
theorem dX7_add_29 : decode cX7_add 29 = .ok (.aload_n 0, 1) := by decide +kernel
theorem dX7_add_30 : decode cX7_add 30 = .ok (.dup, 1) := by decide +kernel
theorem dX7_add_31 : decode cX7_add 31 = .ok (.getfield 18, 3) := by decide +kernel
theorem dX7_add_34 : decode cX7_add 34 = .ok (.iconst 1, 1) := by decide +kernel
theorem dX7_add_35 : decode cX7_add 35 = .ok (.iadd, 1) := by decide +kernel
theorem dX7_add_36 : decode cX7_add 36 = .ok (.putfield 18, 3) := by decide +kernel
theorem dX7_add_39 : decode cX7_add 39 = .ok (.return_, 1) := by decide +kernel
theorem dX7_codeOf_0 : decode cX7_codeOf 0 = .ok (.iload_n 0, 1) := by decide +kernel
theorem dX7_codeOf_1 : decode cX7_codeOf 1 = .ok (.tableswitch 103 100 117 #[95, 87, 100, 97, 103, 103, 103, 103, 89, 91, 103, 103, 103, 103, 103, 103, 103, 93], 87) := by decide +kernel
theorem dX7_codeOf_88 : decode cX7_codeOf 88 = .ok (.iconst 1, 1) := by decide +kernel
theorem dX7_codeOf_89 : decode cX7_codeOf 89 = .ok (.ireturn, 1) := by decide +kernel
theorem dX7_codeOf_90 : decode cX7_codeOf 90 = .ok (.iconst 2, 1) := by decide +kernel
theorem dX7_codeOf_91 : decode cX7_codeOf 91 = .ok (.ireturn, 1) := by decide +kernel
theorem dX7_codeOf_92 : decode cX7_codeOf 92 = .ok (.iconst 3, 1) := by decide +kernel
theorem dX7_codeOf_93 : decode cX7_codeOf 93 = .ok (.ireturn, 1) := by decide +kernel
theorem dX7_codeOf_94 : decode cX7_codeOf 94 = .ok (.iconst 4, 1) := by decide +kernel
theorem dX7_codeOf_95 : decode cX7_codeOf 95 = .ok (.ireturn, 1) := by decide +kernel
theorem dX7_codeOf_96 : decode cX7_codeOf 96 = .ok (.iconst 5, 1) := by decide +kernel
theorem dX7_codeOf_97 : decode cX7_codeOf 97 = .ok (.ireturn, 1) := by decide +kernel
theorem dX7_codeOf_98 : decode cX7_codeOf 98 = .ok (.bipush 6, 2) := by decide +kernel
theorem dX7_codeOf_100 : decode cX7_codeOf 100 = .ok (.ireturn, 1) := by decide +kernel
theorem dX7_codeOf_101 : decode cX7_codeOf 101 = .ok (.bipush 7, 2) := by decide +kernel
theorem dX7_codeOf_103 : decode cX7_codeOf 103 = .ok (.ireturn, 1) := by decide +kernel
theorem dX7_codeOf_104 : decode cX7_codeOf 104 = .ok (.iconst (-1), 1) := by decide +kernel
theorem dX7_codeOf_105 : decode cX7_codeOf 105 = .ok (.ireturn, 1) := by decide +kernel
theorem dX7_speaksAt_0 : decode cX7_speaksAt 0 = .ok (.aload_n 0, 1) := by decide +kernel
theorem dX7_speaksAt_1 : decode cX7_speaksAt 1 = .ok (.getfield 9, 3) := by decide +kernel
theorem dX7_speaksAt_4 : decode cX7_speaksAt 4 = .ok (.iload_n 1, 1) := by decide +kernel
theorem dX7_speaksAt_5 : decode cX7_speaksAt 5 = .ok (.iaload, 1) := by decide +kernel
theorem dX7_speaksAt_6 : decode cX7_speaksAt 6 = .ok (.iconst 4, 1) := by decide +kernel
theorem dX7_speaksAt_7 : decode cX7_speaksAt 7 = .ok (.if_icmp .gt 7, 3) := by decide +kernel
theorem dX7_speaksAt_10 : decode cX7_speaksAt 10 = .ok (.iconst 1, 1) := by decide +kernel
theorem dX7_speaksAt_11 : decode cX7_speaksAt 11 = .ok (.goto 4, 3) := by decide +kernel
theorem dX7_speaksAt_14 : decode cX7_speaksAt 14 = .ok (.iconst 0, 1) := by decide +kernel
theorem dX7_speaksAt_15 : decode cX7_speaksAt 15 = .ok (.ireturn, 1) := by decide +kernel
theorem dX7_speakingBits_0 : decode cX7_speakingBits 0 = .ok (.iconst 0, 1) := by decide +kernel
theorem dX7_speakingBits_1 : decode cX7_speakingBits 1 = .ok (.istore_n 1, 1) := by decide +kernel
theorem dX7_speakingBits_2 : decode cX7_speakingBits 2 = .ok (.iconst 0, 1) := by decide +kernel
theorem dX7_speakingBits_3 : decode cX7_speakingBits 3 = .ok (.istore_n 2, 1) := by decide +kernel
theorem dX7_speakingBits_4 : decode cX7_speakingBits 4 = .ok (.iload_n 2, 1) := by decide +kernel
theorem dX7_speakingBits_5 : decode cX7_speakingBits 5 = .ok (.aload_n 0, 1) := by decide +kernel
theorem dX7_speakingBits_6 : decode cX7_speakingBits 6 = .ok (.getfield 18, 3) := by decide +kernel
theorem dX7_speakingBits_9 : decode cX7_speakingBits 9 = .ok (.if_icmp .ge 23, 3) := by decide +kernel
theorem dX7_speakingBits_12 : decode cX7_speakingBits 12 = .ok (.aload_n 0, 1) := by decide +kernel
theorem dX7_speakingBits_13 : decode cX7_speakingBits 13 = .ok (.iload_n 2, 1) := by decide +kernel
theorem dX7_speakingBits_14 : decode cX7_speakingBits 14 = .ok (.invokevirtual 43, 3) := by decide +kernel
theorem dX7_speakingBits_17 : decode cX7_speakingBits 17 = .ok (.ifCond .eq 9, 3) := by decide +kernel
theorem dX7_speakingBits_20 : decode cX7_speakingBits 20 = .ok (.iload_n 1, 1) := by decide +kernel
theorem dX7_speakingBits_21 : decode cX7_speakingBits 21 = .ok (.iconst 1, 1) := by decide +kernel
theorem dX7_speakingBits_22 : decode cX7_speakingBits 22 = .ok (.iload_n 2, 1) := by decide +kernel
theorem dX7_speakingBits_23 : decode cX7_speakingBits 23 = .ok (.ishl, 1) := by decide +kernel
theorem dX7_speakingBits_24 : decode cX7_speakingBits 24 = .ok (.ior, 1) := by decide +kernel
theorem dX7_speakingBits_25 : decode cX7_speakingBits 25 = .ok (.istore_n 1, 1) := by decide +kernel
theorem dX7_speakingBits_26 : decode cX7_speakingBits 26 = .ok (.iinc 2 1, 3) := by decide +kernel
theorem dX7_speakingBits_29 : decode cX7_speakingBits 29 = .ok (.goto (-25), 3) := by decide +kernel
theorem dX7_speakingBits_32 : decode cX7_speakingBits 32 = .ok (.iload_n 1, 1) := by decide +kernel
theorem dX7_speakingBits_33 : decode cX7_speakingBits 33 = .ok (.ireturn, 1) := by decide +kernel
theorem dX7_firstSpeaking_0 : decode cX7_firstSpeaking 0 = .ok (.iconst 0, 1) := by decide +kernel
theorem dX7_firstSpeaking_1 : decode cX7_firstSpeaking 1 = .ok (.istore_n 1, 1) := by decide +kernel
theorem dX7_firstSpeaking_2 : decode cX7_firstSpeaking 2 = .ok (.iload_n 1, 1) := by decide +kernel
theorem dX7_firstSpeaking_3 : decode cX7_firstSpeaking 3 = .ok (.aload_n 0, 1) := by decide +kernel
theorem dX7_firstSpeaking_4 : decode cX7_firstSpeaking 4 = .ok (.getfield 18, 3) := by decide +kernel
theorem dX7_firstSpeaking_7 : decode cX7_firstSpeaking 7 = .ok (.if_icmp .ge 19, 3) := by decide +kernel
theorem dX7_firstSpeaking_10 : decode cX7_firstSpeaking 10 = .ok (.aload_n 0, 1) := by decide +kernel
theorem dX7_firstSpeaking_11 : decode cX7_firstSpeaking 11 = .ok (.iload_n 1, 1) := by decide +kernel
theorem dX7_firstSpeaking_12 : decode cX7_firstSpeaking 12 = .ok (.invokevirtual 43, 3) := by decide +kernel
theorem dX7_firstSpeaking_15 : decode cX7_firstSpeaking 15 = .ok (.ifCond .eq 5, 3) := by decide +kernel
theorem dX7_firstSpeaking_18 : decode cX7_firstSpeaking 18 = .ok (.iload_n 1, 1) := by decide +kernel
theorem dX7_firstSpeaking_19 : decode cX7_firstSpeaking 19 = .ok (.ireturn, 1) := by decide +kernel
theorem dX7_firstSpeaking_20 : decode cX7_firstSpeaking 20 = .ok (.iinc 1 1, 3) := by decide +kernel
theorem dX7_firstSpeaking_23 : decode cX7_firstSpeaking 23 = .ok (.goto (-21), 3) := by decide +kernel
theorem dX7_firstSpeaking_26 : decode cX7_firstSpeaking 26 = .ok (.iconst (-1), 1) := by decide +kernel
theorem dX7_firstSpeaking_27 : decode cX7_firstSpeaking 27 = .ok (.ireturn, 1) := by decide +kernel
theorem dX7_hasUnion_0 : decode cX7_hasUnion 0 = .ok (.iconst 0, 1) := by decide +kernel
theorem dX7_hasUnion_1 : decode cX7_hasUnion 1 = .ok (.istore_n 1, 1) := by decide +kernel
theorem dX7_hasUnion_2 : decode cX7_hasUnion 2 = .ok (.iload_n 1, 1) := by decide +kernel
theorem dX7_hasUnion_3 : decode cX7_hasUnion 3 = .ok (.aload_n 0, 1) := by decide +kernel
theorem dX7_hasUnion_4 : decode cX7_hasUnion 4 = .ok (.getfield 18, 3) := by decide +kernel
theorem dX7_hasUnion_7 : decode cX7_hasUnion 7 = .ok (.if_icmp .ge 21, 3) := by decide +kernel
theorem dX7_hasUnion_10 : decode cX7_hasUnion 10 = .ok (.aload_n 0, 1) := by decide +kernel
theorem dX7_hasUnion_11 : decode cX7_hasUnion 11 = .ok (.getfield 9, 3) := by decide +kernel
theorem dX7_hasUnion_14 : decode cX7_hasUnion 14 = .ok (.iload_n 1, 1) := by decide +kernel
theorem dX7_hasUnion_15 : decode cX7_hasUnion 15 = .ok (.iaload, 1) := by decide +kernel
theorem dX7_hasUnion_16 : decode cX7_hasUnion 16 = .ok (.iconst 4, 1) := by decide +kernel
theorem dX7_hasUnion_17 : decode cX7_hasUnion 17 = .ok (.if_icmp .ne 5, 3) := by decide +kernel
theorem dX7_hasUnion_20 : decode cX7_hasUnion 20 = .ok (.iconst 1, 1) := by decide +kernel
theorem dX7_hasUnion_21 : decode cX7_hasUnion 21 = .ok (.ireturn, 1) := by decide +kernel
theorem dX7_hasUnion_22 : decode cX7_hasUnion 22 = .ok (.iinc 1 1, 3) := by decide +kernel
theorem dX7_hasUnion_25 : decode cX7_hasUnion 25 = .ok (.goto (-23), 3) := by decide +kernel
theorem dX7_hasUnion_28 : decode cX7_hasUnion 28 = .ok (.iconst 0, 1) := by decide +kernel
theorem dX7_hasUnion_29 : decode cX7_hasUnion 29 = .ok (.ireturn, 1) := by decide +kernel
theorem dX8_init_0 : decode cX8_init 0 = .ok (.aload_n 0, 1) := by decide +kernel
theorem dX8_init_1 : decode cX8_init 1 = .ok (.invokespecial 3, 3) := by decide +kernel
theorem dX8_init_4 : decode cX8_init 4 = .ok (.aload_n 0, 1) := by decide +kernel
theorem dX8_init_5 : decode cX8_init 5 = .ok (.bipush 10, 2) := by decide +kernel
theorem dX8_init_7 : decode cX8_init 7 = .ok (.newarray .int, 2) := by decide +kernel
theorem dX8_init_9 : decode cX8_init 9 = .ok (.putfield 9, 3) := by decide +kernel
theorem dX8_init_12 : decode cX8_init 12 = .ok (.aload_n 0, 1) := by decide +kernel
theorem dX8_init_13 : decode cX8_init 13 = .ok (.bipush 10, 2) := by decide +kernel
theorem dX8_init_15 : decode cX8_init 15 = .ok (.newarray .int, 2) := by decide +kernel
theorem dX8_init_17 : decode cX8_init 17 = .ok (.putfield 15, 3) := by decide +kernel
theorem dX8_init_20 : decode cX8_init 20 = .ok (.aload_n 0, 1) := by decide +kernel
theorem dX8_init_21 : decode cX8_init 21 = .ok (.iconst 0, 1) := by decide +kernel
theorem dX8_init_22 : decode cX8_init 22 = .ok (.putfield 18, 3) := by decide +kernel
theorem dX8_init_25 : decode cX8_init 25 = .ok (.aload_n 0, 1) := by decide +kernel
theorem dX8_init_26 : decode cX8_init 26 = .ok (.iconst (-1), 1) := by decide +kernel
theorem dX8_init_27 : decode cX8_init 27 = .ok (.putfield 22, 3) := by decide +kernel
theorem dX8_init_30 : decode cX8_init 30 = .ok (.return_, 1) := by decide +kernel
theorem dX8_parse_0 : decode cX8_parse 0 = .ok (.aload_n 0, 1) := by decide +kernel
theorem dX8_parse_1 : decode cX8_parse 1 = .ok (.aload_n 1, 1) := by decide +kernel
theorem dX8_parse_2 : decode cX8_parse 2 = .ok (.invokestatic 25, 3) := by decide +kernel
theorem dX8_parse_5 : decode cX8_parse 5 = .ok (.putfield 22, 3) := by decide +kernel
theorem dX8_parse_8 : decode cX8_parse 8 = .ok (.aload_n 0, 1) := by decide +kernel
theorem dX8_parse_9 : decode cX8_parse 9 = .ok (.aload_n 0, 1) := by decide +kernel
theorem dX8_parse_10 : decode cX8_parse 10 = .ok (.getfield 22, 3) := by decide +kernel
theorem dX8_parse_13 : decode cX8_parse 13 = .ok (.iconst (-1), 1) := by decide +kernel
theorem dX8_parse_14 : decode cX8_parse 14 = .ok (.if_icmp .ne 14, 3) := by decide +kernel
theorem dX8_parse_17 : decode cX8_parse 17 = .ok (.aload_n 1, 1) := by decide +kernel
theorem dX8_parse_18 : decode cX8_parse 18 = .ok (.getfield 29, 3) := by decide +kernel
theorem dX8_parse_21 : decode cX8_parse 21 = .ok (.iconst 1, 1) := by decide +kernel
theorem dX8_parse_22 : decode cX8_parse 22 = .ok (.iadd, 1) := by decide +kernel
theorem dX8_parse_23 : decode cX8_parse 23 = .ok (.iconst 3, 1) := by decide +kernel
theorem dX8_parse_24 : decode cX8_parse 24 = .ok (.idiv, 1) := by decide +kernel
theorem dX8_parse_25 : decode cX8_parse 25 = .ok (.goto 4, 3) := by decide +kernel
theorem dX8_parse_28 : decode cX8_parse 28 = .ok (.iconst 0, 1) := by decide +kernel
theorem dX8_parse_29 : decode cX8_parse 29 = .ok (.putfield 18, 3) := by decide +kernel
theorem dX8_parse_32 : decode cX8_parse 32 = .ok (.iconst 0, 1) := by decide +kernel
theorem dX8_parse_33 : decode cX8_parse 33 = .ok (.istore_n 2, 1) := by decide +kernel
theorem dX8_parse_34 : decode cX8_parse 34 = .ok (.iload_n 2, 1) := by decide +kernel
theorem dX8_parse_35 : decode cX8_parse 35 = .ok (.aload_n 0, 1) := by decide +kernel
theorem dX8_parse_36 : decode cX8_parse 36 = .ok (.getfield 18, 3) := by decide +kernel
theorem dX8_parse_39 : decode cX8_parse 39 = .ok (.if_icmp .ge 45, 3) := by decide +kernel
theorem dX8_parse_42 : decode cX8_parse 42 = .ok (.aload_n 0, 1) := by decide +kernel
theorem dX8_parse_43 : decode cX8_parse 43 = .ok (.getfield 9, 3) := by decide +kernel
theorem dX8_parse_46 : decode cX8_parse 46 = .ok (.iload_n 2, 1) := by decide +kernel
theorem dX8_parse_47 : decode cX8_parse 47 = .ok (.aload_n 1, 1) := by decide +kernel
theorem dX8_parse_48 : decode cX8_parse 48 = .ok (.getfield 32, 3) := by decide +kernel
theorem dX8_parse_51 : decode cX8_parse 51 = .ok (.iconst 3, 1) := by decide +kernel
theorem dX8_parse_52 : decode cX8_parse 52 = .ok (.iload_n 2, 1) := by decide +kernel
theorem dX8_parse_53 : decode cX8_parse 53 = .ok (.imul, 1) := by decide +kernel
theorem dX8_parse_54 : decode cX8_parse 54 = .ok (.iaload, 1) := by decide +kernel
theorem dX8_parse_55 : decode cX8_parse 55 = .ok (.invokestatic 35, 3) := by decide +kernel
theorem dX8_parse_58 : decode cX8_parse 58 = .ok (.iastore, 1) := by decide +kernel
theorem dX8_parse_59 : decode cX8_parse 59 = .ok (.aload_n 0, 1) := by decide +kernel
theorem dX8_parse_60 : decode cX8_parse 60 = .ok (.getfield 15, 3) := by decide +kernel
theorem dX8_parse_63 : decode cX8_parse 63 = .ok (.iload_n 2, 1) := by decide +kernel
theorem dX8_parse_64 : decode cX8_parse 64 = .ok (.aload_n 1, 1) := by decide +kernel
theorem dX8_parse_65 : decode cX8_parse 65 = .ok (.getfield 32, 3) := by decide +kernel
theorem dX8_parse_68 : decode cX8_parse 68 = .ok (.iconst 3, 1) := by decide +kernel
theorem dX8_parse_69 : decode cX8_parse 69 = .ok (.iload_n 2, 1) := by decide +kernel
theorem dX8_parse_70 : decode cX8_parse 70 = .ok (.imul, 1) := by decide +kernel
theorem dX8_parse_71 : decode cX8_parse 71 = .ok (.iconst 1, 1) := by decide +kernel
theorem dX8_parse_72 : decode cX8_parse 72 = .ok (.iadd, 1) := by decide +kernel
theorem dX8_parse_73 : decode cX8_parse 73 = .ok (.iaload, 1) := by decide +kernel
theorem dX8_parse_74 : decode cX8_parse 74 = .ok (.invokestatic 35, 3) := by decide +kernel
theorem dX8_parse_77 : decode cX8_parse 77 = .ok (.iastore, 1) := by decide +kernel
theorem dX8_parse_78 : decode cX8_parse 78 = .ok (.iinc 2 1, 3) := by decide +kernel
theorem dX8_parse_81 : decode cX8_parse 81 = .ok (.goto (-47), 3) := by decide +kernel
theorem dX8_parse_84 : decode cX8_parse 84 = .ok (.return_, 1) := by decide +kernel
theorem dX8_firstWrong_0 : decode cX8_firstWrong 0 = .ok (.iconst 0, 1) := by decide +kernel
theorem dX8_firstWrong_1 : decode cX8_firstWrong 1 = .ok (.istore_n 1, 1) := by decide +kernel
theorem dX8_firstWrong_2 : decode cX8_firstWrong 2 = .ok (.iload_n 1, 1) := by decide +kernel
theorem dX8_firstWrong_3 : decode cX8_firstWrong 3 = .ok (.aload_n 0, 1) := by decide +kernel
theorem dX8_firstWrong_4 : decode cX8_firstWrong 4 = .ok (.getfield 29, 3) := by decide +kernel
theorem dX8_firstWrong_7 : decode cX8_firstWrong 7 = .ok (.if_icmp .ge 70, 3) := by decide +kernel
theorem dX8_firstWrong_10 : decode cX8_firstWrong 10 = .ok (.aload_n 0, 1) := by decide +kernel
theorem dX8_firstWrong_11 : decode cX8_firstWrong 11 = .ok (.getfield 32, 3) := by decide +kernel
theorem dX8_firstWrong_14 : decode cX8_firstWrong 14 = .ok (.iload_n 1, 1) := by decide +kernel
theorem dX8_firstWrong_15 : decode cX8_firstWrong 15 = .ok (.iaload, 1) := by decide +kernel
theorem dX8_firstWrong_16 : decode cX8_firstWrong 16 = .ok (.istore_n 2, 1) := by decide +kernel
theorem dX8_firstWrong_17 : decode cX8_firstWrong 17 = .ok (.iload_n 1, 1) := by decide +kernel
theorem dX8_firstWrong_18 : decode cX8_firstWrong 18 = .ok (.iconst 3, 1) := by decide +kernel
theorem dX8_firstWrong_19 : decode cX8_firstWrong 19 = .ok (.irem, 1) := by decide +kernel
theorem dX8_firstWrong_20 : decode cX8_firstWrong 20 = .ok (.iconst 2, 1) := by decide +kernel
theorem dX8_firstWrong_21 : decode cX8_firstWrong 21 = .ok (.if_icmp .ne 17, 3) := by decide +kernel
theorem dX8_firstWrong_24 : decode cX8_firstWrong 24 = .ok (.iload_n 2, 1) := by decide +kernel
theorem dX8_firstWrong_25 : decode cX8_firstWrong 25 = .ok (.bipush 59, 2) := by decide +kernel
theorem dX8_firstWrong_27 : decode cX8_firstWrong 27 = .ok (.if_icmp .ne 7, 3) := by decide +kernel
theorem dX8_firstWrong_30 : decode cX8_firstWrong 30 = .ok (.iconst 1, 1) := by decide +kernel
theorem dX8_firstWrong_31 : decode cX8_firstWrong 31 = .ok (.goto 25, 3) := by decide +kernel
theorem dX8_firstWrong_34 : decode cX8_firstWrong 34 = .ok (.iconst 0, 1) := by decide +kernel
theorem dX8_firstWrong_35 : decode cX8_firstWrong 35 = .ok (.goto 21, 3) := by decide +kernel
theorem dX8_firstWrong_38 : decode cX8_firstWrong 38 = .ok (.iload_n 2, 1) := by decide +kernel
theorem dX8_firstWrong_39 : decode cX8_firstWrong 39 = .ok (.invokestatic 39, 3) := by decide +kernel
theorem dX8_firstWrong_42 : decode cX8_firstWrong 42 = .ok (.ifCond .ne 9, 3) := by decide +kernel
theorem dX8_firstWrong_45 : decode cX8_firstWrong 45 = .ok (.iload_n 2, 1) := by decide +kernel
theorem dX8_firstWrong_46 : decode cX8_firstWrong 46 = .ok (.bipush 45, 2) := by decide +kernel
theorem dX8_firstWrong_48 : decode cX8_firstWrong 48 = .ok (.if_icmp .ne 7, 3) := by decide +kernel
theorem dX8_firstWrong_51 : decode cX8_firstWrong 51 = .ok (.iconst 1, 1) := by decide +kernel
theorem dX8_firstWrong_52 : decode cX8_firstWrong 52 = .ok (.goto 4, 3) := by decide +kernel
theorem dX8_firstWrong_55 : decode cX8_firstWrong 55 = .ok (.iconst 0, 1) := by decide +kernel
theorem dX8_firstWrong_56 : decode cX8_firstWrong 56 = .ok (.istore_n 3, 1) := by decide +kernel
theorem dX8_firstWrong_57 : decode cX8_firstWrong 57 = .ok (.iload_n 3, 1) := by decide +kernel
theorem dX8_firstWrong_58 : decode cX8_firstWrong 58 = .ok (.ifCond .eq 11, 3) := by decide +kernel
theorem dX8_firstWrong_61 : decode cX8_firstWrong 61 = .ok (.iload_n 1, 1) := by decide +kernel
theorem dX8_firstWrong_62 : decode cX8_firstWrong 62 = .ok (.iconst 3, 1) := by decide +kernel
theorem dX8_firstWrong_63 : decode cX8_firstWrong 63 = .ok (.idiv, 1) := by decide +kernel
theorem dX8_firstWrong_64 : decode cX8_firstWrong 64 = .ok (.bipush 10, 2) := by decide +kernel
theorem dX8_firstWrong_66 : decode cX8_firstWrong 66 = .ok (.if_icmp .lt 5, 3) := by decide +kernel
theorem dX8_firstWrong_69 : decode cX8_firstWrong 69 = .ok (.iload_n 1, 1) := by decide +kernel
theorem dX8_firstWrong_70 : decode cX8_firstWrong 70 = .ok (.ireturn, 1) := by decide +kernel
theorem dX8_firstWrong_71 : decode cX8_firstWrong 71 = .ok (.iinc 1 1, 3) := by decide +kernel
theorem dX8_firstWrong_74 : decode cX8_firstWrong 74 = .ok (.goto (-72), 3) := by decide +kernel
theorem dX8_firstWrong_77 : decode cX8_firstWrong 77 = .ok (.aload_n 0, 1) := by decide +kernel
theorem dX8_firstWrong_78 : decode cX8_firstWrong 78 = .ok (.getfield 29, 3) := by decide +kernel
theorem dX8_firstWrong_81 : decode cX8_firstWrong 81 = .ok (.ifCond .eq 13, 3) := by decide +kernel
theorem dX8_firstWrong_84 : decode cX8_firstWrong 84 = .ok (.aload_n 0, 1) := by decide +kernel
theorem dX8_firstWrong_85 : decode cX8_firstWrong 85 = .ok (.getfield 29, 3) := by decide +kernel
theorem dX8_firstWrong_88 : decode cX8_firstWrong 88 = .ok (.iconst 3, 1) := by decide +kernel
theorem dX8_firstWrong_89 : decode cX8_firstWrong 89 = .ok (.irem, 1) := by decide +kernel
theorem dX8_firstWrong_90 : decode cX8_firstWrong 90 = .ok (.iconst 2, 1) := by decide +kernel
theorem dX8_firstWrong_91 : decode cX8_firstWrong 91 = .ok (.if_icmp .ne 7, 3) := by decide +kernel
theorem dX8_firstWrong_94 : decode cX8_firstWrong 94 = .ok (.iconst (-1), 1) := by decide +kernel
theorem dX8_firstWrong_95 : decode cX8_firstWrong 95 = .ok (.goto 7, 3) := by decide +kernel
theorem dX8_firstWrong_98 : decode cX8_firstWrong 98 = .ok (.aload_n 0, 1) := by decide +kernel
theorem dX8_firstWrong_99 : decode cX8_firstWrong 99 = .ok (.getfield 29, 3) := by decide +kernel
theorem dX8_firstWrong_102 : decode cX8_firstWrong 102 = .ok (.ireturn, 1) := by decide +kernel
theorem dX8_valueOf_0 : decode cX8_valueOf 0 = .ok (.iload_n 0, 1) := by decide +kernel
theorem dX8_valueOf_1 : decode cX8_valueOf 1 = .ok (.bipush 45, 2) := by decide +kernel
theorem dX8_valueOf_3 : decode cX8_valueOf 3 = .ok (.if_icmp .ne 7, 3) := by decide +kernel
theorem dX8_valueOf_6 : decode cX8_valueOf 6 = .ok (.iconst (-1), 1) := by decide +kernel
theorem dX8_valueOf_7 : decode cX8_valueOf 7 = .ok (.goto 7, 3) := by decide +kernel
theorem dX8_valueOf_10 : decode cX8_valueOf 10 = .ok (.iload_n 0, 1) := by decide +kernel
theorem dX8_valueOf_11 : decode cX8_valueOf 11 = .ok (.bipush 48, 2) := by decide +kernel
theorem dX8_valueOf_13 : decode cX8_valueOf 13 = .ok (.isub, 1) := by decide +kernel
theorem dX8_valueOf_14 : decode cX8_valueOf 14 = .ok (.ireturn, 1) := by decide +kernel
theorem dX9_init_0 : decode cX9_init 0 = .ok (.aload_n 0, 1) := by decide +kernel
theorem dX9_init_1 : decode cX9_init 1 = .ok (.invokespecial 3, 3) := by decide +kernel
theorem dX9_init_4 : decode cX9_init 4 = .ok (.return_, 1) := by decide +kernel
theorem dX9_clear_0 : decode cX9_clear 0 = .ok (.aload_n 0, 1) := by decide +kernel
theorem dX9_clear_1 : decode cX9_clear 1 = .ok (.iconst 0, 1) := by decide +kernel
theorem dX9_clear_2 : decode cX9_clear 2 = .ok (.putfield 9, 3) := by decide +kernel
theorem dX9_clear_5 : decode cX9_clear 5 = .ok (.aload_n 0, 1) := by decide +kernel
theorem dX9_clear_6 : decode cX9_clear 6 = .ok (.iconst 0, 1) := by decide +kernel
theorem dX9_clear_7 : decode cX9_clear 7 = .ok (.putfield 15, 3) := by decide +kernel
theorem dX9_clear_10 : decode cX9_clear 10 = .ok (.aload_n 0, 1) := by decide +kernel
theorem dX9_clear_11 : decode cX9_clear 11 = .ok (.iconst 0, 1) := by decide +kernel
theorem dX9_clear_12 : decode cX9_clear 12 = .ok (.putfield 18, 3) := by decide +kernel
theorem dX9_clear_15 : decode cX9_clear 15 = .ok (.aload_n 0, 1) := by decide +kernel
theorem dX9_clear_16 : decode cX9_clear 16 = .ok (.iconst (-1), 1) := by decide +kernel
theorem dX9_clear_17 : decode cX9_clear 17 = .ok (.putfield 21, 3) := by decide +kernel
theorem dX9_clear_20 : decode cX9_clear 20 = .ok (.aload_n 0, 1) := by decide +kernel
theorem dX9_clear_21 : decode cX9_clear 21 = .ok (.iconst (-1), 1) := by decide +kernel
theorem dX9_clear_22 : decode cX9_clear 22 = .ok (.putfield 24, 3) := by decide +kernel
theorem dX9_clear_25 : decode cX9_clear 25 = .ok (.aload_n 0, 1) := by decide +kernel
theorem dX9_clear_26 : decode cX9_clear 26 = .ok (.iconst 0, 1) := by decide +kernel
theorem dX9_clear_27 : decode cX9_clear 27 = .ok (.putfield 27, 3) := by decide +kernel
theorem dX9_clear_30 : decode cX9_clear 30 = .ok (.return_, 1) := by decide +kernel
theorem dX9_take_0 : decode cX9_take 0 = .ok (.aload_n 0, 1) := by decide +kernel
theorem dX9_take_1 : decode cX9_take 1 = .ok (.dup, 1) := by decide +kernel
theorem dX9_take_2 : decode cX9_take 2 = .ok (.getfield 9, 3) := by decide +kernel
theorem dX9_take_5 : decode cX9_take 5 = .ok (.iconst 1, 1) := by decide +kernel
theorem dX9_take_6 : decode cX9_take 6 = .ok (.iadd, 1) := by decide +kernel
theorem dX9_take_7 : decode cX9_take 7 = .ok (.putfield 9, 3) := by decide +kernel
theorem dX9_take_10 : decode cX9_take 10 = .ok (.iload_n 1, 1) := by decide +kernel
theorem dX9_take_11 : decode cX9_take 11 = .ok (.iconst (-1), 1) := by decide +kernel
theorem dX9_take_12 : decode cX9_take 12 = .ok (.if_icmp .ne 4, 3) := by decide +kernel
theorem dX9_take_15 : decode cX9_take 15 = .ok (.return_, 1) := by decide +kernel
theorem dX9_take_16 : decode cX9_take 16 = .ok (.aload_n 0, 1) := by decide +kernel
theorem dX9_take_17 : decode cX9_take 17 = .ok (.dup, 1) := by decide +kernel
theorem dX9_take_18 : decode cX9_take 18 = .ok (.getfield 15, 3) := by decide +kernel
theorem dX9_take_21 : decode cX9_take 21 = .ok (.iconst 1, 1) := by decide +kernel
theorem dX9_take_22 : decode cX9_take 22 = .ok (.iadd, 1) := by decide +kernel
theorem dX9_take_23 : decode cX9_take 23 = .ok (.putfield 15, 3) := by decide +kernel
theorem dX9_take_26 : decode cX9_take 26 = .ok (.aload_n 0, 1) := by decide +kernel
theorem dX9_take_27 : decode cX9_take 27 = .ok (.dup, 1) := by decide +kernel
theorem dX9_take_28 : decode cX9_take 28 = .ok (.getfield 18, 3) := by decide +kernel
theorem dX9_take_31 : decode cX9_take 31 = .ok (.iload_n 1, 1) := by decide +kernel
theorem dX9_take_32 : decode cX9_take 32 = .ok (.iadd, 1) := by decide +kernel
theorem dX9_take_33 : decode cX9_take 33 = .ok (.putfield 18, 3) := by decide +kernel
theorem dX9_take_36 : decode cX9_take 36 = .ok (.aload_n 0, 1) := by decide +kernel
theorem dX9_take_37 : decode cX9_take 37 = .ok (.aload_n 0, 1) := by decide +kernel
theorem dX9_take_38 : decode cX9_take 38 = .ok (.getfield 21, 3) := by decide +kernel
theorem dX9_take_41 : decode cX9_take 41 = .ok (.iconst (-1), 1) := by decide +kernel
theorem dX9_take_42 : decode cX9_take 42 = .ok (.if_icmp .eq 11, 3) := by decide +kernel
theorem dX9_take_45 : decode cX9_take 45 = .ok (.iload_n 1, 1) := by decide +kernel
theorem dX9_take_46 : decode cX9_take 46 = .ok (.aload_n 0, 1) := by decide +kernel
theorem dX9_take_47 : decode cX9_take 47 = .ok (.getfield 21, 3) := by decide +kernel
theorem dX9_take_50 : decode cX9_take 50 = .ok (.if_icmp .ge 7, 3) := by decide +kernel
theorem dX9_take_53 : decode cX9_take 53 = .ok (.iload_n 1, 1) := by decide +kernel
theorem dX9_take_54 : decode cX9_take 54 = .ok (.goto 7, 3) := by decide +kernel
theorem dX9_take_57 : decode cX9_take 57 = .ok (.aload_n 0, 1) := by decide +kernel
theorem dX9_take_58 : decode cX9_take 58 = .ok (.getfield 21, 3) := by decide +kernel
theorem dX9_take_61 : decode cX9_take 61 = .ok (.putfield 21, 3) := by decide +kernel
theorem dX9_take_64 : decode cX9_take 64 = .ok (.aload_n 0, 1) := by decide +kernel
theorem dX9_take_65 : decode cX9_take 65 = .ok (.iload_n 1, 1) := by decide +kernel
theorem dX9_take_66 : decode cX9_take 66 = .ok (.aload_n 0, 1) := by decide +kernel
theorem dX9_take_67 : decode cX9_take 67 = .ok (.getfield 24, 3) := by decide +kernel
theorem dX9_take_70 : decode cX9_take 70 = .ok (.if_icmp .le 7, 3) := by decide +kernel
theorem dX9_take_73 : decode cX9_take 73 = .ok (.iload_n 1, 1) := by decide +kernel
theorem dX9_take_74 : decode cX9_take 74 = .ok (.goto 7, 3) := by decide +kernel
theorem dX9_take_77 : decode cX9_take 77 = .ok (.aload_n 0, 1) := by decide +kernel
theorem dX9_take_78 : decode cX9_take 78 = .ok (.getfield 24, 3) := by decide +kernel
theorem dX9_take_81 : decode cX9_take 81 = .ok (.putfield 24, 3) := by decide +kernel
theorem dX9_take_84 : decode cX9_take 84 = .ok (.aload_n 0, 1) := by decide +kernel
theorem dX9_take_85 : decode cX9_take 85 = .ok (.aload_n 0, 1) := by decide +kernel
theorem dX9_take_86 : decode cX9_take 86 = .ok (.getfield 27, 3) := by decide +kernel
theorem dX9_take_89 : decode cX9_take 89 = .ok (.ifCond .ne 8, 3) := by decide +kernel
theorem dX9_take_92 : decode cX9_take 92 = .ok (.iload_n 1, 1) := by decide +kernel
theorem dX9_take_93 : decode cX9_take 93 = .ok (.iload_n 2, 1) := by decide +kernel
theorem dX9_take_94 : decode cX9_take 94 = .ok (.if_icmp .ne 7, 3) := by decide +kernel
theorem dX9_take_97 : decode cX9_take 97 = .ok (.iconst 1, 1) := by decide +kernel
theorem dX9_take_98 : decode cX9_take 98 = .ok (.goto 4, 3) := by decide +kernel
theorem dX9_take_101 : decode cX9_take 101 = .ok (.iconst 0, 1) := by decide +kernel
theorem dX9_take_102 : decode cX9_take 102 = .ok (.putfield 27, 3) := by decide +kernel
theorem dX9_take_105 : decode cX9_take 105 = .ok (.return_, 1) := by decide +kernel
theorem dX9_isError_0 : decode cX9_isError 0 = .ok (.iload_n 1, 1) := by decide +kernel
theorem dX9_isError_1 : decode cX9_isError 1 = .ok (.iconst 5, 1) := by decide +kernel
theorem dX9_isError_2 : decode cX9_isError 2 = .ok (.if_icmp .ne 15, 3) := by decide +kernel
theorem dX9_isError_5 : decode cX9_isError 5 = .ok (.aload_n 0, 1) := by decide +kernel
theorem dX9_isError_6 : decode cX9_isError 6 = .ok (.getfield 9, 3) := by decide +kernel
theorem dX9_isError_9 : decode cX9_isError 9 = .ok (.iconst 1, 1) := by decide +kernel
theorem dX9_isError_10 : decode cX9_isError 10 = .ok (.if_icmp .le 7, 3) := by decide +kernel
theorem dX9_isError_13 : decode cX9_isError 13 = .ok (.iconst 1, 1) := by decide +kernel
theorem dX9_isError_14 : decode cX9_isError 14 = .ok (.goto 4, 3) := by decide +kernel
theorem dX9_isError_17 : decode cX9_isError 17 = .ok (.iconst 0, 1) := by decide +kernel
theorem dX9_isError_18 : decode cX9_isError 18 = .ok (.ireturn, 1) := by decide +kernel
theorem dX9_mean_0 : decode cX9_mean 0 = .ok (.aload_n 0, 1) := by decide +kernel
theorem dX9_mean_1 : decode cX9_mean 1 = .ok (.getfield 15, 3) := by decide +kernel
theorem dX9_mean_4 : decode cX9_mean 4 = .ok (.ifCond .le 17, 3) := by decide +kernel
theorem dX9_mean_7 : decode cX9_mean 7 = .ok (.aload_n 0, 1) := by decide +kernel
theorem dX9_mean_8 : decode cX9_mean 8 = .ok (.getfield 18, 3) := by decide +kernel
theorem dX9_mean_11 : decode cX9_mean 11 = .ok (.i2f, 1) := by decide +kernel
theorem dX9_mean_12 : decode cX9_mean 12 = .ok (.aload_n 0, 1) := by decide +kernel
theorem dX9_mean_13 : decode cX9_mean 13 = .ok (.getfield 15, 3) := by decide +kernel
theorem dX9_mean_16 : decode cX9_mean 16 = .ok (.i2f, 1) := by decide +kernel
theorem dX9_mean_17 : decode cX9_mean 17 = .ok (.fdiv, 1) := by decide +kernel
theorem dX9_mean_18 : decode cX9_mean 18 = .ok (.goto 4, 3) := by decide +kernel
theorem dX9_mean_21 : decode cX9_mean 21 = .ok (.fconst 0, 1) := by decide +kernel
theorem dX9_mean_22 : decode cX9_mean 22 = .ok (.freturn, 1) := by decide +kernel
theorem dX9_outcome_0 : decode cX9_outcome 0 = .ok (.iload_n 1, 1) := by decide +kernel
theorem dX9_outcome_1 : decode cX9_outcome 1 = .ok (.tableswitch 132 0 7 #[47, 52, 68, 73, 78, 97, 113, 126], 47) := by decide +kernel
theorem dX9_outcome_48 : decode cX9_outcome 48 = .ok (.aload_n 0, 1) := by decide +kernel
theorem dX9_outcome_49 : decode cX9_outcome 49 = .ok (.getfield 9, 3) := by decide +kernel
theorem dX9_outcome_52 : decode cX9_outcome 52 = .ok (.ireturn, 1) := by decide +kernel
theorem dX9_outcome_53 : decode cX9_outcome 53 = .ok (.aload_n 0, 1) := by decide +kernel
theorem dX9_outcome_54 : decode cX9_outcome 54 = .ok (.getfield 15, 3) := by decide +kernel
theorem dX9_outcome_57 : decode cX9_outcome 57 = .ok (.ifCond .le 10, 3) := by decide +kernel
theorem dX9_outcome_60 : decode cX9_outcome 60 = .ok (.aload_n 0, 1) := by decide +kernel
theorem dX9_outcome_61 : decode cX9_outcome 61 = .ok (.getfield 18, 3) := by decide +kernel
theorem dX9_outcome_64 : decode cX9_outcome 64 = .ok (.goto 4, 3) := by decide +kernel
theorem dX9_outcome_67 : decode cX9_outcome 67 = .ok (.iconst (-1), 1) := by decide +kernel
theorem dX9_outcome_68 : decode cX9_outcome 68 = .ok (.ireturn, 1) := by decide +kernel
theorem dX9_outcome_69 : decode cX9_outcome 69 = .ok (.aload_n 0, 1) := by decide +kernel
theorem dX9_outcome_70 : decode cX9_outcome 70 = .ok (.getfield 21, 3) := by decide +kernel
theorem dX9_outcome_73 : decode cX9_outcome 73 = .ok (.ireturn, 1) := by decide +kernel
theorem dX9_outcome_74 : decode cX9_outcome 74 = .ok (.aload_n 0, 1) := by decide +kernel
theorem dX9_outcome_75 : decode cX9_outcome 75 = .ok (.getfield 24, 3) := by decide +kernel
theorem dX9_outcome_78 : decode cX9_outcome 78 = .ok (.ireturn, 1) := by decide +kernel
theorem dX9_outcome_79 : decode cX9_outcome 79 = .ok (.aload_n 0, 1) := by decide +kernel
theorem dX9_outcome_80 : decode cX9_outcome 80 = .ok (.getfield 15, 3) := by decide +kernel
theorem dX9_outcome_83 : decode cX9_outcome 83 = .ok (.ifCond .le 13, 3) := by decide +kernel
theorem dX9_outcome_86 : decode cX9_outcome 86 = .ok (.aload_n 0, 1) := by decide +kernel
theorem dX9_outcome_87 : decode cX9_outcome 87 = .ok (.invokevirtual 31, 3) := by decide +kernel
theorem dX9_outcome_90 : decode cX9_outcome 90 = .ok (.invokestatic 35, 3) := by decide +kernel
theorem dX9_outcome_93 : decode cX9_outcome 93 = .ok (.goto 4, 3) := by decide +kernel
theorem dX9_outcome_96 : decode cX9_outcome 96 = .ok (.iconst (-1), 1) := by decide +kernel
theorem dX9_outcome_97 : decode cX9_outcome 97 = .ok (.ireturn, 1) := by decide +kernel
theorem dX9_outcome_98 : decode cX9_outcome 98 = .ok (.aload_n 0, 1) := by decide +kernel
theorem dX9_outcome_99 : decode cX9_outcome 99 = .ok (.getfield 15, 3) := by decide +kernel
theorem dX9_outcome_102 : decode cX9_outcome 102 = .ok (.ifCond .le 10, 3) := by decide +kernel
theorem dX9_outcome_105 : decode cX9_outcome 105 = .ok (.aload_n 0, 1) := by decide +kernel
theorem dX9_outcome_106 : decode cX9_outcome 106 = .ok (.getfield 18, 3) := by decide +kernel
theorem dX9_outcome_109 : decode cX9_outcome 109 = .ok (.goto 4, 3) := by decide +kernel
theorem dX9_outcome_112 : decode cX9_outcome 112 = .ok (.iconst (-1), 1) := by decide +kernel
theorem dX9_outcome_113 : decode cX9_outcome 113 = .ok (.ireturn, 1) := by decide +kernel
theorem dX9_outcome_114 : decode cX9_outcome 114 = .ok (.aload_n 0, 1) := by decide +kernel
theorem dX9_outcome_115 : decode cX9_outcome 115 = .ok (.getfield 9, 3) := by decide +kernel
theorem dX9_outcome_118 : decode cX9_outcome 118 = .ok (.ifCond .le 7, 3) := by decide +kernel
theorem dX9_outcome_121 : decode cX9_outcome 121 = .ok (.iconst 1, 1) := by decide +kernel
theorem dX9_outcome_122 : decode cX9_outcome 122 = .ok (.goto 4, 3) := by decide +kernel
theorem dX9_outcome_125 : decode cX9_outcome 125 = .ok (.iconst 0, 1) := by decide +kernel
theorem dX9_outcome_126 : decode cX9_outcome 126 = .ok (.ireturn, 1) := by decide +kernel
theorem dX9_outcome_127 : decode cX9_outcome 127 = .ok (.aload_n 0, 1) := by decide +kernel
theorem dX9_outcome_128 : decode cX9_outcome 128 = .ok (.iload_n 2, 1) := by decide +kernel
theorem dX9_outcome_129 : decode cX9_outcome 129 = .ok (.invokevirtual 39, 3) := by decide +kernel
theorem dX9_outcome_132 : decode cX9_outcome 132 = .ok (.ireturn, 1) := by decide +kernel
theorem dX9_outcome_133 : decode cX9_outcome 133 = .ok (.aload_n 0, 1) := by decide +kernel
theorem dX9_outcome_134 : decode cX9_outcome 134 = .ok (.iload_n 2, 1) := by decide +kernel
theorem dX9_outcome_135 : decode cX9_outcome 135 = .ok (.invokevirtual 39, 3) := by decide +kernel
theorem dX9_outcome_138 : decode cX9_outcome 138 = .ok (.iconst (-1), 1) := by decide +kernel
theorem dX9_outcome_139 : decode cX9_outcome 139 = .ok (.if_icmp .ne 7, 3) := by decide +kernel
theorem dX9_outcome_142 : decode cX9_outcome 142 = .ok (.iconst (-1), 1) := by decide +kernel
theorem dX9_outcome_143 : decode cX9_outcome 143 = .ok (.goto 10, 3) := by decide +kernel
theorem dX9_outcome_146 : decode cX9_outcome 146 = .ok (.iconst 1, 1) := by decide +kernel
theorem dX9_outcome_147 : decode cX9_outcome 147 = .ok (.aload_n 0, 1) := by decide +kernel
theorem dX9_outcome_148 : decode cX9_outcome 148 = .ok (.iload_n 2, 1) := by decide +kernel
theorem dX9_outcome_149 : decode cX9_outcome 149 = .ok (.invokevirtual 39, 3) := by decide +kernel
theorem dX9_outcome_152 : decode cX9_outcome 152 = .ok (.isub, 1) := by decide +kernel
theorem dX9_outcome_153 : decode cX9_outcome 153 = .ok (.ireturn, 1) := by decide +kernel
theorem dX9_isIn_0 : decode cX9_isIn 0 = .ok (.aload_n 0, 1) := by decide +kernel
theorem dX9_isIn_1 : decode cX9_isIn 1 = .ok (.getfield 27, 3) := by decide +kernel
theorem dX9_isIn_4 : decode cX9_isIn 4 = .ok (.ifCond .eq 5, 3) := by decide +kernel
theorem dX9_isIn_7 : decode cX9_isIn 7 = .ok (.iconst 1, 1) := by decide +kernel
theorem dX9_isIn_8 : decode cX9_isIn 8 = .ok (.ireturn, 1) := by decide +kernel
theorem dX9_isIn_9 : decode cX9_isIn 9 = .ok (.aload_n 0, 1) := by decide +kernel
theorem dX9_isIn_10 : decode cX9_isIn 10 = .ok (.getfield 9, 3) := by decide +kernel
theorem dX9_isIn_13 : decode cX9_isIn 13 = .ok (.ifCond .eq 19, 3) := by decide +kernel
theorem dX9_isIn_16 : decode cX9_isIn 16 = .ok (.iload_n 1, 1) := by decide +kernel
theorem dX9_isIn_17 : decode cX9_isIn 17 = .ok (.iconst (-1), 1) := by decide +kernel
theorem dX9_isIn_18 : decode cX9_isIn 18 = .ok (.if_icmp .eq 18, 3) := by decide +kernel
theorem dX9_isIn_21 : decode cX9_isIn 21 = .ok (.aload_n 0, 1) := by decide +kernel
theorem dX9_isIn_22 : decode cX9_isIn 22 = .ok (.getfield 15, 3) := by decide +kernel
theorem dX9_isIn_25 : decode cX9_isIn 25 = .ok (.aload_n 0, 1) := by decide +kernel
theorem dX9_isIn_26 : decode cX9_isIn 26 = .ok (.getfield 9, 3) := by decide +kernel
theorem dX9_isIn_29 : decode cX9_isIn 29 = .ok (.if_icmp .ne 7, 3) := by decide +kernel
theorem dX9_isIn_32 : decode cX9_isIn 32 = .ok (.iconst 0, 1) := by decide +kernel
theorem dX9_isIn_33 : decode cX9_isIn 33 = .ok (.goto 4, 3) := by decide +kernel
theorem dX9_isIn_36 : decode cX9_isIn 36 = .ok (.iconst (-1), 1) := by decide +kernel
theorem dX9_isIn_37 : decode cX9_isIn 37 = .ok (.ireturn, 1) := by decide +kernel
theorem dX10_init_0 : decode cX10_init 0 = .ok (.aload_n 0, 1) := by decide +kernel
theorem dX10_init_1 : decode cX10_init 1 = .ok (.invokespecial 1, 3) := by decide +kernel
theorem dX10_init_4 : decode cX10_init 4 = .ok (.aload_n 0, 1) := by decide +kernel
theorem dX10_init_5 : decode cX10_init 5 = .ok (.iconst 0, 1) := by decide +kernel
theorem dX10_init_6 : decode cX10_init 6 = .ok (.putfield 7, 3) := by decide +kernel
theorem dX10_init_9 : decode cX10_init 9 = .ok (.aload_n 0, 1) := by decide +kernel
theorem dX10_init_10 : decode cX10_init 10 = .ok (.iload_n 1, 1) := by decide +kernel
theorem dX10_init_11 : decode cX10_init 11 = .ok (.newarray .int, 2) := by decide +kernel
theorem dX10_init_13 : decode cX10_init 13 = .ok (.putfield 13, 3) := by decide +kernel
theorem dX10_init_16 : decode cX10_init 16 = .ok (.return_, 1) := by decide +kernel
theorem dX10_append_0 : decode cX10_append 0 = .ok (.aload_n 0, 1) := by decide +kernel
theorem dX10_append_1 : decode cX10_append 1 = .ok (.getfield 7, 3) := by decide +kernel
theorem dX10_append_4 : decode cX10_append 4 = .ok (.aload_n 0, 1) := by decide +kernel
theorem dX10_append_5 : decode cX10_append 5 = .ok (.getfield 13, 3) := by decide +kernel
theorem dX10_append_8 : decode cX10_append 8 = .ok (.arraylength, 1) := by decide +kernel
theorem dX10_append_9 : decode cX10_append 9 = .ok (.if_icmp .lt 5, 3) := by decide +kernel
theorem dX10_append_12 : decode cX10_append 12 = .ok (.iconst 0, 1) := by decide +kernel
theorem dX10_append_13 : decode cX10_append 13 = .ok (.ireturn, 1) := by decide +kernel
theorem dX10_append_14 : decode cX10_append 14 = .ok (.aload_n 0, 1) := by decide +kernel
theorem dX10_append_15 : decode cX10_append 15 = .ok (.getfield 13, 3) := by decide +kernel
theorem dX10_append_18 : decode cX10_append 18 = .ok (.aload_n 0, 1) := by decide +kernel
theorem dX10_append_19 : decode cX10_append 19 = .ok (.getfield 7, 3) := by decide +kernel
theorem dX10_append_22 : decode cX10_append 22 = .ok (.iload_n 1, 1) := by decide +kernel
theorem dX10_append_23 : decode cX10_append 23 = .ok (.iastore, 1) := by decide +kernel
theorem dX10_append_24 : decode cX10_append 24 = .ok (.aload_n 0, 1) := by decide +kernel
theorem dX10_append_25 : decode cX10_append 25 = .ok (.dup, 1) := by decide +kernel
theorem dX10_append_26 : decode cX10_append 26 = .ok (.getfield 7, 3) := by decide +kernel
theorem dX10_append_29 : decode cX10_append 29 = .ok (.iconst 1, 1) := by decide +kernel
theorem dX10_append_30 : decode cX10_append 30 = .ok (.iadd, 1) := by decide +kernel
theorem dX10_append_31 : decode cX10_append 31 = .ok (.putfield 7, 3) := by decide +kernel
theorem dX10_append_34 : decode cX10_append 34 = .ok (.iconst 1, 1) := by decide +kernel
theorem dX10_append_35 : decode cX10_append 35 = .ok (.ireturn, 1) := by decide +kernel
theorem dX10_appendFrom_0 : decode cX10_appendFrom 0 = .ok (.iconst 0, 1) := by decide +kernel
theorem dX10_appendFrom_1 : decode cX10_appendFrom 1 = .ok (.istore_n 2, 1) := by decide +kernel
theorem dX10_appendFrom_2 : decode cX10_appendFrom 2 = .ok (.iload_n 2, 1) := by decide +kernel
theorem dX10_appendFrom_3 : decode cX10_appendFrom 3 = .ok (.aload_n 1, 1) := by decide +kernel
theorem dX10_appendFrom_4 : decode cX10_appendFrom 4 = .ok (.getfield 17, 3) := by decide +kernel
theorem dX10_appendFrom_7 : decode cX10_appendFrom 7 = .ok (.if_icmp .ge 36, 3) := by decide +kernel
theorem dX10_appendFrom_10 : decode cX10_appendFrom 10 = .ok (.aload_n 1, 1) := by decide +kernel
theorem dX10_appendFrom_11 : decode cX10_appendFrom 11 = .ok (.getfield 20, 3) := by decide +kernel
theorem dX10_appendFrom_14 : decode cX10_appendFrom 14 = .ok (.iload_n 2, 1) := by decide +kernel
theorem dX10_appendFrom_15 : decode cX10_appendFrom 15 = .ok (.iaload, 1) := by decide +kernel
theorem dX10_appendFrom_16 : decode cX10_appendFrom 16 = .ok (.invokestatic 23, 3) := by decide +kernel
theorem dX10_appendFrom_19 : decode cX10_appendFrom 19 = .ok (.ifCond .eq 16, 3) := by decide +kernel
theorem dX10_appendFrom_22 : decode cX10_appendFrom 22 = .ok (.aload_n 0, 1) := by decide +kernel
theorem dX10_appendFrom_23 : decode cX10_appendFrom 23 = .ok (.aload_n 1, 1) := by decide +kernel
theorem dX10_appendFrom_24 : decode cX10_appendFrom 24 = .ok (.getfield 20, 3) := by decide +kernel
theorem dX10_appendFrom_27 : decode cX10_appendFrom 27 = .ok (.iload_n 2, 1) := by decide +kernel
theorem dX10_appendFrom_28 : decode cX10_appendFrom 28 = .ok (.iaload, 1) := by decide +kernel
theorem dX10_appendFrom_29 : decode cX10_appendFrom 29 = .ok (.invokevirtual 29, 3) := by decide +kernel
theorem dX10_appendFrom_32 : decode cX10_appendFrom 32 = .ok (.ifCond .ne 5, 3) := by decide +kernel
theorem dX10_appendFrom_35 : decode cX10_appendFrom 35 = .ok (.iload_n 2, 1) := by decide +kernel
theorem dX10_appendFrom_36 : decode cX10_appendFrom 36 = .ok (.ireturn, 1) := by decide +kernel
theorem dX10_appendFrom_37 : decode cX10_appendFrom 37 = .ok (.iinc 2 1, 3) := by decide +kernel
theorem dX10_appendFrom_40 : decode cX10_appendFrom 40 = .ok (.goto (-38), 3) := by decide +kernel
theorem dX10_appendFrom_43 : decode cX10_appendFrom 43 = .ok (.aload_n 1, 1) := by decide +kernel
theorem dX10_appendFrom_44 : decode cX10_appendFrom 44 = .ok (.getfield 17, 3) := by decide +kernel
theorem dX10_appendFrom_47 : decode cX10_appendFrom 47 = .ok (.ireturn, 1) := by decide +kernel
theorem dX11_init_0 : decode cX11_init 0 = .ok (.aload_n 0, 1) := by decide +kernel
theorem dX11_init_1 : decode cX11_init 1 = .ok (.invokespecial 3, 3) := by decide +kernel
theorem dX11_init_4 : decode cX11_init 4 = .ok (.aload_n 0, 1) := by decide +kernel
theorem dX11_init_5 : decode cX11_init 5 = .ok (.iconst 3, 1) := by decide +kernel
theorem dX11_init_6 : decode cX11_init 6 = .ok (.anewarray 9, 3) := by decide +kernel
theorem dX11_init_9 : decode cX11_init 9 = .ok (.putfield 11, 3) := by decide +kernel
theorem dX11_init_12 : decode cX11_init 12 = .ok (.aload_n 0, 1) := by decide +kernel
theorem dX11_init_13 : decode cX11_init 13 = .ok (.iconst 4, 1) := by decide +kernel
theorem dX11_init_14 : decode cX11_init 14 = .ok (.anewarray 15, 3) := by decide +kernel
theorem dX11_init_17 : decode cX11_init 17 = .ok (.putfield 17, 3) := by decide +kernel
theorem dX11_init_20 : decode cX11_init 20 = .ok (.aload_n 0, 1) := by decide +kernel
theorem dX11_init_21 : decode cX11_init 21 = .ok (.new 21, 3) := by decide +kernel
theorem dX11_init_24 : decode cX11_init 24 = .ok (.dup, 1) := by decide +kernel
theorem dX11_init_25 : decode cX11_init 25 = .ok (.invokespecial 23, 3) := by decide +kernel
theorem dX11_init_28 : decode cX11_init 28 = .ok (.putfield 24, 3) := by decide +kernel
theorem dX11_init_31 : decode cX11_init 31 = .ok (.aload_n 0, 1) := by decide +kernel
theorem dX11_init_32 : decode cX11_init 32 = .ok (.iconst 0, 1) := by decide +kernel
theorem dX11_init_33 : decode cX11_init 33 = .ok (.putfield 28, 3) := by decide +kernel
theorem dX11_init_36 : decode cX11_init 36 = .ok (.aload_n 0, 1) := by decide +kernel
theorem dX11_init_37 : decode cX11_init 37 = .ok (.iconst 0, 1) := by decide +kernel
theorem dX11_init_38 : decode cX11_init 38 = .ok (.putfield 32, 3) := by decide +kernel
theorem dX11_init_41 : decode cX11_init 41 = .ok (.aload_n 0, 1) := by decide +kernel
theorem dX11_init_42 : decode cX11_init 42 = .ok (.iconst 1, 1) := by decide +kernel
theorem dX11_init_43 : decode cX11_init 43 = .ok (.putfield 35, 3) := by decide +kernel
theorem dX11_init_46 : decode cX11_init 46 = .ok (.aload_n 0, 1) := by decide +kernel
theorem dX11_init_47 : decode cX11_init 47 = .ok (.getfield 11, 3) := by decide +kernel
theorem dX11_init_50 : decode cX11_init 50 = .ok (.iconst 0, 1) := by decide +kernel
theorem dX11_init_51 : decode cX11_init 51 = .ok (.new 9, 3) := by decide +kernel
theorem dX11_init_54 : decode cX11_init 54 = .ok (.dup, 1) := by decide +kernel
theorem dX11_init_55 : decode cX11_init 55 = .ok (.bipush 29, 2) := by decide +kernel
theorem dX11_init_57 : decode cX11_init 57 = .ok (.invokespecial 39, 3) := by decide +kernel
theorem dX11_init_60 : decode cX11_init 60 = .ok (.aastore, 1) := by decide +kernel
theorem dX11_init_61 : decode cX11_init 61 = .ok (.aload_n 0, 1) := by decide +kernel
theorem dX11_init_62 : decode cX11_init 62 = .ok (.getfield 11, 3) := by decide +kernel
theorem dX11_init_65 : decode cX11_init 65 = .ok (.iconst 1, 1) := by decide +kernel
theorem dX11_init_66 : decode cX11_init 66 = .ok (.new 9, 3) := by decide +kernel
theorem dX11_init_69 : decode cX11_init 69 = .ok (.dup, 1) := by decide +kernel
theorem dX11_init_70 : decode cX11_init 70 = .ok (.bipush 29, 2) := by decide +kernel
theorem dX11_init_72 : decode cX11_init 72 = .ok (.invokespecial 39, 3) := by decide +kernel
theorem dX11_init_75 : decode cX11_init 75 = .ok (.aastore, 1) := by decide +kernel
theorem dX11_init_76 : decode cX11_init 76 = .ok (.aload_n 0, 1) := by decide +kernel
theorem dX11_init_77 : decode cX11_init 77 = .ok (.getfield 11, 3) := by decide +kernel
theorem dX11_init_80 : decode cX11_init 80 = .ok (.iconst 2, 1) := by decide +kernel
theorem dX11_init_81 : decode cX11_init 81 = .ok (.new 9, 3) := by decide +kernel
theorem dX11_init_84 : decode cX11_init 84 = .ok (.dup, 1) := by decide +kernel
theorem dX11_init_85 : decode cX11_init 85 = .ok (.bipush 12, 2) := by decide +kernel
theorem dX11_init_87 : decode cX11_init 87 = .ok (.invokespecial 39, 3) := by decide +kernel
theorem dX11_init_90 : decode cX11_init 90 = .ok (.aastore, 1) := by decide +kernel
theorem dX11_init_91 : decode cX11_init 91 = .ok (.iconst 0, 1) := by decide +kernel
theorem dX11_init_92 : decode cX11_init 92 = .ok (.istore_n 1, 1) := by decide +kernel
theorem dX11_init_93 : decode cX11_init 93 = .ok (.iload_n 1, 1) := by decide +kernel
theorem dX11_init_94 : decode cX11_init 94 = .ok (.iconst 4, 1) := by decide +kernel
theorem dX11_init_95 : decode cX11_init 95 = .ok (.if_icmp .ge 22, 3) := by decide +kernel
theorem dX11_init_98 : decode cX11_init 98 = .ok (.aload_n 0, 1) := by decide +kernel
theorem dX11_init_99 : decode cX11_init 99 = .ok (.getfield 17, 3) := by decide +kernel
theorem dX11_init_102 : decode cX11_init 102 = .ok (.iload_n 1, 1) := by decide +kernel
theorem dX11_init_103 : decode cX11_init 103 = .ok (.new 15, 3) := by decide +kernel
theorem dX11_init_106 : decode cX11_init 106 = .ok (.dup, 1) := by decide +kernel
theorem dX11_init_107 : decode cX11_init 107 = .ok (.invokespecial 42, 3) := by decide +kernel
theorem dX11_init_110 : decode cX11_init 110 = .ok (.aastore, 1) := by decide +kernel
theorem dX11_init_111 : decode cX11_init 111 = .ok (.iinc 1 1, 3) := by decide +kernel
theorem dX11_init_114 : decode cX11_init 114 = .ok (.goto (-21), 3) := by decide +kernel
theorem dX11_init_117 : decode cX11_init 117 = .ok (.new 43, 3) := by decide +kernel
theorem dX11_init_120 : decode cX11_init 120 = .ok (.dup, 1) := by decide +kernel
theorem dX11_init_121 : decode cX11_init 121 = .ok (.invokespecial 45, 3) := by decide +kernel
theorem dX11_init_124 : decode cX11_init 124 = .ok (.astore_n 1, 1) := by decide +kernel
theorem dX11_init_125 : decode cX11_init 125 = .ok (.aload_n 0, 1) := by decide +kernel
theorem dX11_init_126 : decode cX11_init 126 = .ok (.new 46, 3) := by decide +kernel
theorem dX11_init_129 : decode cX11_init 129 = .ok (.dup, 1) := by decide +kernel
theorem dX11_init_130 : decode cX11_init 130 = .ok (.aload_n 1, 1) := by decide +kernel
theorem dX11_init_131 : decode cX11_init 131 = .ok (.invokespecial 48, 3) := by decide +kernel
theorem dX11_init_134 : decode cX11_init 134 = .ok (.putfield 51, 3) := by decide +kernel
theorem dX11_init_137 : decode cX11_init 137 = .ok (.aload_n 0, 1) := by decide +kernel
theorem dX11_init_138 : decode cX11_init 138 = .ok (.new 46, 3) := by decide +kernel
theorem dX11_init_141 : decode cX11_init 141 = .ok (.dup, 1) := by decide +kernel
theorem dX11_init_142 : decode cX11_init 142 = .ok (.aload_n 1, 1) := by decide +kernel
theorem dX11_init_143 : decode cX11_init 143 = .ok (.invokespecial 48, 3) := by decide +kernel
theorem dX11_init_146 : decode cX11_init 146 = .ok (.putfield 55, 3) := by decide +kernel
theorem dX11_init_149 : decode cX11_init 149 = .ok (.aload_n 0, 1) := by decide +kernel
theorem dX11_init_150 : decode cX11_init 150 = .ok (.new 46, 3) := by decide +kernel
theorem dX11_init_153 : decode cX11_init 153 = .ok (.dup, 1) := by decide +kernel
theorem dX11_init_154 : decode cX11_init 154 = .ok (.aload_n 1, 1) := by decide +kernel
theorem dX11_init_155 : decode cX11_init 155 = .ok (.invokespecial 48, 3) := by decide +kernel
theorem dX11_init_158 : decode cX11_init 158 = .ok (.putfield 58, 3) := by decide +kernel
theorem dX11_init_161 : decode cX11_init 161 = .ok (.return_, 1) := by decide +kernel
theorem dX11_type_0 : decode cX11_type 0 = .ok (.iload_n 1, 1) := by decide +kernel
theorem dX11_type_1 : decode cX11_type 1 = .ok (.iconst 3, 1) := by decide +kernel
theorem dX11_type_2 : decode cX11_type 2 = .ok (.invokestatic 61, 3) := by decide +kernel
theorem dX11_type_5 : decode cX11_type 5 = .ok (.ifCond .eq 10, 3) := by decide +kernel
theorem dX11_type_8 : decode cX11_type 8 = .ok (.iload_n 2, 1) := by decide +kernel
theorem dX11_type_9 : decode cX11_type 9 = .ok (.invokestatic 65, 3) := by decide +kernel
theorem dX11_type_12 : decode cX11_type 12 = .ok (.ifCond .ne 6, 3) := by decide +kernel
theorem dX11_type_15 : decode cX11_type 15 = .ok (.bipush (-2), 2) := by decide +kernel
theorem dX11_type_17 : decode cX11_type 17 = .ok (.ireturn, 1) := by decide +kernel
theorem dX11_type_18 : decode cX11_type 18 = .ok (.aload_n 0, 1) := by decide +kernel
theorem dX11_type_19 : decode cX11_type 19 = .ok (.getfield 11, 3) := by decide +kernel
theorem dX11_type_22 : decode cX11_type 22 = .ok (.iload_n 1, 1) := by decide +kernel
theorem dX11_type_23 : decode cX11_type 23 = .ok (.aaload, 1) := by decide +kernel
theorem dX11_type_24 : decode cX11_type 24 = .ok (.iload_n 2, 1) := by decide +kernel
theorem dX11_type_25 : decode cX11_type 25 = .ok (.invokevirtual 69, 3) := by decide +kernel
theorem dX11_type_28 : decode cX11_type 28 = .ok (.ifCond .ne 6, 3) := by decide +kernel
theorem dX11_type_31 : decode cX11_type 31 = .ok (.bipush (-4), 2) := by decide +kernel
theorem dX11_type_33 : decode cX11_type 33 = .ok (.ireturn, 1) := by decide +kernel
theorem dX11_type_34 : decode cX11_type 34 = .ok (.aload_n 0, 1) := by decide +kernel
theorem dX11_type_35 : decode cX11_type 35 = .ok (.iload_n 1, 1) := by decide +kernel
theorem dX11_type_36 : decode cX11_type 36 = .ok (.invokevirtual 72, 3) := by decide +kernel
theorem dX11_type_39 : decode cX11_type 39 = .ok (.aload_n 0, 1) := by decide +kernel
theorem dX11_type_40 : decode cX11_type 40 = .ok (.getfield 11, 3) := by decide +kernel
theorem dX11_type_43 : decode cX11_type 43 = .ok (.iload_n 1, 1) := by decide +kernel
theorem dX11_type_44 : decode cX11_type 44 = .ok (.aaload, 1) := by decide +kernel
theorem dX11_type_45 : decode cX11_type 45 = .ok (.getfield 75, 3) := by decide +kernel
theorem dX11_type_48 : decode cX11_type 48 = .ok (.ireturn, 1) := by decide +kernel
theorem dX11_wipe_0 : decode cX11_wipe 0 = .ok (.iload_n 1, 1) := by decide +kernel
theorem dX11_wipe_1 : decode cX11_wipe 1 = .ok (.iconst 3, 1) := by decide +kernel
theorem dX11_wipe_2 : decode cX11_wipe 2 = .ok (.invokestatic 61, 3) := by decide +kernel
theorem dX11_wipe_5 : decode cX11_wipe 5 = .ok (.ifCond .ne 6, 3) := by decide +kernel
theorem dX11_wipe_8 : decode cX11_wipe 8 = .ok (.bipush (-2), 2) := by decide +kernel
theorem dX11_wipe_10 : decode cX11_wipe 10 = .ok (.ireturn, 1) := by decide +kernel
theorem dX11_wipe_11 : decode cX11_wipe 11 = .ok (.aload_n 0, 1) := by decide +kernel
theorem dX11_wipe_12 : decode cX11_wipe 12 = .ok (.getfield 11, 3) := by decide +kernel
theorem dX11_wipe_15 : decode cX11_wipe 15 = .ok (.iload_n 1, 1) := by decide +kernel
theorem dX11_wipe_16 : decode cX11_wipe 16 = .ok (.aaload, 1) := by decide +kernel
theorem dX11_wipe_17 : decode cX11_wipe 17 = .ok (.getfield 75, 3) := by decide +kernel
theorem dX11_wipe_20 : decode cX11_wipe 20 = .ok (.istore_n 2, 1) := by decide +kernel
theorem dX11_wipe_21 : decode cX11_wipe 21 = .ok (.aload_n 0, 1) := by decide +kernel
theorem dX11_wipe_22 : decode cX11_wipe 22 = .ok (.getfield 11, 3) := by decide +kernel
theorem dX11_wipe_25 : decode cX11_wipe 25 = .ok (.iload_n 1, 1) := by decide +kernel
theorem dX11_wipe_26 : decode cX11_wipe 26 = .ok (.aaload, 1) := by decide +kernel
theorem dX11_wipe_27 : decode cX11_wipe 27 = .ok (.iconst 0, 1) := by decide +kernel
theorem dX11_wipe_28 : decode cX11_wipe 28 = .ok (.putfield 75, 3) := by decide +kernel
theorem dX11_wipe_31 : decode cX11_wipe 31 = .ok (.aload_n 0, 1) := by decide +kernel
theorem dX11_wipe_32 : decode cX11_wipe 32 = .ok (.iload_n 1, 1) := by decide +kernel
theorem dX11_wipe_33 : decode cX11_wipe 33 = .ok (.invokevirtual 72, 3) := by decide +kernel
theorem dX11_wipe_36 : decode cX11_wipe 36 = .ok (.iload_n 2, 1) := by decide +kernel
theorem dX11_wipe_37 : decode cX11_wipe 37 = .ok (.ireturn, 1) := by decide +kernel
theorem dX11_undo_0 : decode cX11_undo 0 = .ok (.iload_n 1, 1) := by decide +kernel
theorem dX11_undo_1 : decode cX11_undo 1 = .ok (.iconst 3, 1) := by decide +kernel
theorem dX11_undo_2 : decode cX11_undo 2 = .ok (.invokestatic 61, 3) := by decide +kernel
theorem dX11_undo_5 : decode cX11_undo 5 = .ok (.ifCond .ne 6, 3) := by decide +kernel
theorem dX11_undo_8 : decode cX11_undo 8 = .ok (.bipush (-2), 2) := by decide +kernel
theorem dX11_undo_10 : decode cX11_undo 10 = .ok (.ireturn, 1) := by decide +kernel
theorem dX11_undo_11 : decode cX11_undo 11 = .ok (.aload_n 0, 1) := by decide +kernel
theorem dX11_undo_12 : decode cX11_undo 12 = .ok (.getfield 11, 3) := by decide +kernel
theorem dX11_undo_15 : decode cX11_undo 15 = .ok (.iload_n 1, 1) := by decide +kernel
theorem dX11_undo_16 : decode cX11_undo 16 = .ok (.aaload, 1) := by decide +kernel
theorem dX11_undo_17 : decode cX11_undo 17 = .ok (.getfield 75, 3) := by decide +kernel
theorem dX11_undo_20 : decode cX11_undo 20 = .ok (.ifCond .ne 6, 3) := by decide +kernel
theorem dX11_undo_23 : decode cX11_undo 23 = .ok (.bipush (-3), 2) := by decide +kernel
theorem dX11_undo_25 : decode cX11_undo 25 = .ok (.ireturn, 1) := by decide +kernel
theorem dX11_undo_26 : decode cX11_undo 26 = .ok (.aload_n 0, 1) := by decide +kernel
theorem dX11_undo_27 : decode cX11_undo 27 = .ok (.getfield 11, 3) := by decide +kernel
theorem dX11_undo_30 : decode cX11_undo 30 = .ok (.iload_n 1, 1) := by decide +kernel
theorem dX11_undo_31 : decode cX11_undo 31 = .ok (.aaload, 1) := by decide +kernel
theorem dX11_undo_32 : decode cX11_undo 32 = .ok (.dup, 1) := by decide +kernel
theorem dX11_undo_33 : decode cX11_undo 33 = .ok (.getfield 75, 3) := by decide +kernel
theorem dX11_undo_36 : decode cX11_undo 36 = .ok (.iconst 1, 1) := by decide +kernel
theorem dX11_undo_37 : decode cX11_undo 37 = .ok (.isub, 1) := by decide +kernel
theorem dX11_undo_38 : decode cX11_undo 38 = .ok (.putfield 75, 3) := by decide +kernel
theorem dX11_undo_41 : decode cX11_undo 41 = .ok (.aload_n 0, 1) := by decide +kernel
theorem dX11_undo_42 : decode cX11_undo 42 = .ok (.iload_n 1, 1) := by decide +kernel
theorem dX11_undo_43 : decode cX11_undo 43 = .ok (.invokevirtual 72, 3) := by decide +kernel
theorem dX11_undo_46 : decode cX11_undo 46 = .ok (.aload_n 0, 1) := by decide +kernel
theorem dX11_undo_47 : decode cX11_undo 47 = .ok (.getfield 11, 3) := by decide +kernel
theorem dX11_undo_50 : decode cX11_undo 50 = .ok (.iload_n 1, 1) := by decide +kernel
theorem dX11_undo_51 : decode cX11_undo 51 = .ok (.aaload, 1) := by decide +kernel
theorem dX11_undo_52 : decode cX11_undo 52 = .ok (.getfield 75, 3) := by decide +kernel
theorem dX11_undo_55 : decode cX11_undo 55 = .ok (.ireturn, 1) := by decide +kernel
theorem dX11_fault_0 : decode cX11_fault 0 = .ok (.iload_n 1, 1) := by decide +kernel
theorem dX11_fault_1 : decode cX11_fault 1 = .ok (.iconst 3, 1) := by decide +kernel
theorem dX11_fault_2 : decode cX11_fault 2 = .ok (.invokestatic 61, 3) := by decide +kernel
theorem dX11_fault_5 : decode cX11_fault 5 = .ok (.ifCond .ne 6, 3) := by decide +kernel
theorem dX11_fault_8 : decode cX11_fault 8 = .ok (.bipush (-2), 2) := by decide +kernel
theorem dX11_fault_10 : decode cX11_fault 10 = .ok (.ireturn, 1) := by decide +kernel
theorem dX11_fault_11 : decode cX11_fault 11 = .ok (.iload_n 1, 1) := by decide +kernel
theorem dX11_fault_12 : decode cX11_fault 12 = .ok (.iconst 2, 1) := by decide +kernel
theorem dX11_fault_13 : decode cX11_fault 13 = .ok (.if_icmp .ne 16, 3) := by decide +kernel
theorem dX11_fault_16 : decode cX11_fault 16 = .ok (.aload_n 0, 1) := by decide +kernel
theorem dX11_fault_17 : decode cX11_fault 17 = .ok (.getfield 24, 3) := by decide +kernel
theorem dX11_fault_20 : decode cX11_fault 20 = .ok (.getfield 78, 3) := by decide +kernel
theorem dX11_fault_23 : decode cX11_fault 23 = .ok (.getfield 82, 3) := by decide +kernel
theorem dX11_fault_26 : decode cX11_fault 26 = .ok (.goto 11, 3) := by decide +kernel
theorem dX11_fault_29 : decode cX11_fault 29 = .ok (.aload_n 0, 1) := by decide +kernel
theorem dX11_fault_30 : decode cX11_fault 30 = .ok (.iload_n 1, 1) := by decide +kernel
theorem dX11_fault_31 : decode cX11_fault 31 = .ok (.invokevirtual 87, 3) := by decide +kernel
theorem dX11_fault_34 : decode cX11_fault 34 = .ok (.getfield 91, 3) := by decide +kernel
theorem dX11_fault_37 : decode cX11_fault 37 = .ok (.ireturn, 1) := by decide +kernel
theorem dX11_row_0 : decode cX11_row 0 = .ok (.iload_n 1, 1) := by decide +kernel
theorem dX11_row_1 : decode cX11_row 1 = .ok (.iconst 2, 1) := by decide +kernel
theorem dX11_row_2 : decode cX11_row 2 = .ok (.invokestatic 61, 3) := by decide +kernel
theorem dX11_row_5 : decode cX11_row 5 = .ok (.ifCond .eq 26, 3) := by decide +kernel
theorem dX11_row_8 : decode cX11_row 8 = .ok (.iload_n 3, 1) := by decide +kernel
theorem dX11_row_9 : decode cX11_row 9 = .ok (.iconst 2, 1) := by decide +kernel
theorem dX11_row_10 : decode cX11_row 10 = .ok (.invokestatic 61, 3) := by decide +kernel
theorem dX11_row_13 : decode cX11_row 13 = .ok (.ifCond .eq 18, 3) := by decide +kernel
theorem dX11_row_16 : decode cX11_row 16 = .ok (.iload_n 2, 1) := by decide +kernel
theorem dX11_row_17 : decode cX11_row 17 = .ok (.aload_n 0, 1) := by decide +kernel
theorem dX11_row_18 : decode cX11_row 18 = .ok (.iload_n 1, 1) := by decide +kernel
theorem dX11_row_19 : decode cX11_row 19 = .ok (.invokevirtual 87, 3) := by decide +kernel
theorem dX11_row_22 : decode cX11_row 22 = .ok (.getfield 94, 3) := by decide +kernel
theorem dX11_row_25 : decode cX11_row 25 = .ok (.invokestatic 61, 3) := by decide +kernel
theorem dX11_row_28 : decode cX11_row 28 = .ok (.ifCond .ne 6, 3) := by decide +kernel
theorem dX11_row_31 : decode cX11_row 31 = .ok (.bipush (-2), 2) := by decide +kernel
theorem dX11_row_33 : decode cX11_row 33 = .ok (.ireturn, 1) := by decide +kernel
theorem dX11_row_34 : decode cX11_row 34 = .ok (.iload_n 3, 1) := by decide +kernel
theorem dX11_row_35 : decode cX11_row 35 = .ok (.ifCond .ne 16, 3) := by decide +kernel
theorem dX11_row_38 : decode cX11_row 38 = .ok (.aload_n 0, 1) := by decide +kernel
theorem dX11_row_39 : decode cX11_row 39 = .ok (.iload_n 1, 1) := by decide +kernel
theorem dX11_row_40 : decode cX11_row 40 = .ok (.invokevirtual 87, 3) := by decide +kernel
theorem dX11_row_43 : decode cX11_row 43 = .ok (.getfield 95, 3) := by decide +kernel
theorem dX11_row_46 : decode cX11_row 46 = .ok (.iload_n 2, 1) := by decide +kernel
theorem dX11_row_47 : decode cX11_row 47 = .ok (.iaload, 1) := by decide +kernel
theorem dX11_row_48 : decode cX11_row 48 = .ok (.goto 13, 3) := by decide +kernel
theorem dX11_row_51 : decode cX11_row 51 = .ok (.aload_n 0, 1) := by decide +kernel
theorem dX11_row_52 : decode cX11_row 52 = .ok (.iload_n 1, 1) := by decide +kernel
theorem dX11_row_53 : decode cX11_row 53 = .ok (.invokevirtual 87, 3) := by decide +kernel
theorem dX11_row_56 : decode cX11_row 56 = .ok (.getfield 99, 3) := by decide +kernel
theorem dX11_row_59 : decode cX11_row 59 = .ok (.iload_n 2, 1) := by decide +kernel
theorem dX11_row_60 : decode cX11_row 60 = .ok (.iaload, 1) := by decide +kernel
theorem dX11_row_61 : decode cX11_row 61 = .ok (.ireturn, 1) := by decide +kernel
theorem dX11_step_0 : decode cX11_step 0 = .ok (.iload_n 2, 1) := by decide +kernel
theorem dX11_step_1 : decode cX11_step 1 = .ok (.iconst 2, 1) := by decide +kernel
theorem dX11_step_2 : decode cX11_step 2 = .ok (.invokestatic 61, 3) := by decide +kernel
theorem dX11_step_5 : decode cX11_step 5 = .ok (.ifCond .eq 20, 3) := by decide +kernel
theorem dX11_step_8 : decode cX11_step 8 = .ok (.iload_n 1, 1) := by decide +kernel
theorem dX11_step_9 : decode cX11_step 9 = .ok (.aload_n 0, 1) := by decide +kernel
theorem dX11_step_10 : decode cX11_step 10 = .ok (.getfield 24, 3) := by decide +kernel
theorem dX11_step_13 : decode cX11_step 13 = .ok (.getfield 78, 3) := by decide +kernel
theorem dX11_step_16 : decode cX11_step 16 = .ok (.getfield 102, 3) := by decide +kernel
theorem dX11_step_19 : decode cX11_step 19 = .ok (.invokestatic 61, 3) := by decide +kernel
theorem dX11_step_22 : decode cX11_step 22 = .ok (.ifCond .ne 6, 3) := by decide +kernel
theorem dX11_step_25 : decode cX11_step 25 = .ok (.bipush (-2), 2) := by decide +kernel
theorem dX11_step_27 : decode cX11_step 27 = .ok (.ireturn, 1) := by decide +kernel
theorem dX11_step_28 : decode cX11_step 28 = .ok (.iload_n 2, 1) := by decide +kernel
theorem dX11_step_29 : decode cX11_step 29 = .ok (.ifCond .ne 18, 3) := by decide +kernel
theorem dX11_step_32 : decode cX11_step 32 = .ok (.aload_n 0, 1) := by decide +kernel
theorem dX11_step_33 : decode cX11_step 33 = .ok (.getfield 24, 3) := by decide +kernel
theorem dX11_step_36 : decode cX11_step 36 = .ok (.getfield 78, 3) := by decide +kernel
theorem dX11_step_39 : decode cX11_step 39 = .ok (.getfield 103, 3) := by decide +kernel
theorem dX11_step_42 : decode cX11_step 42 = .ok (.iload_n 1, 1) := by decide +kernel
theorem dX11_step_43 : decode cX11_step 43 = .ok (.iaload, 1) := by decide +kernel
theorem dX11_step_44 : decode cX11_step 44 = .ok (.goto 15, 3) := by decide +kernel
theorem dX11_step_47 : decode cX11_step 47 = .ok (.aload_n 0, 1) := by decide +kernel
theorem dX11_step_48 : decode cX11_step 48 = .ok (.getfield 24, 3) := by decide +kernel
theorem dX11_step_51 : decode cX11_step 51 = .ok (.getfield 78, 3) := by decide +kernel
theorem dX11_step_54 : decode cX11_step 54 = .ok (.getfield 106, 3) := by decide +kernel
theorem dX11_step_57 : decode cX11_step 57 = .ok (.iload_n 1, 1) := by decide +kernel
theorem dX11_step_58 : decode cX11_step 58 = .ok (.iaload, 1) := by decide +kernel
theorem dX11_step_59 : decode cX11_step 59 = .ok (.ireturn, 1) := by decide +kernel
theorem dX11_end_0 : decode cX11_end 0 = .ok (.iload_n 1, 1) := by decide +kernel
theorem dX11_end_1 : decode cX11_end 1 = .ok (.bipush 9, 2) := by decide +kernel
theorem dX11_end_3 : decode cX11_end 3 = .ok (.invokestatic 61, 3) := by decide +kernel
theorem dX11_end_6 : decode cX11_end 6 = .ok (.ifCond .ne 6, 3) := by decide +kernel
theorem dX11_end_9 : decode cX11_end 9 = .ok (.bipush (-2), 2) := by decide +kernel
theorem dX11_end_11 : decode cX11_end 11 = .ok (.ireturn, 1) := by decide +kernel
theorem dX11_end_12 : decode cX11_end 12 = .ok (.aload_n 0, 1) := by decide +kernel
theorem dX11_end_13 : decode cX11_end 13 = .ok (.getfield 28, 3) := by decide +kernel
theorem dX11_end_16 : decode cX11_end 16 = .ok (.istore_n 2, 1) := by decide +kernel
theorem dX11_end_17 : decode cX11_end 17 = .ok (.aload_n 0, 1) := by decide +kernel
theorem dX11_end_18 : decode cX11_end 18 = .ok (.iload_n 1, 1) := by decide +kernel
theorem dX11_end_19 : decode cX11_end 19 = .ok (.putfield 28, 3) := by decide +kernel
theorem dX11_end_22 : decode cX11_end 22 = .ok (.aload_n 0, 1) := by decide +kernel
theorem dX11_end_23 : decode cX11_end 23 = .ok (.iconst 1, 1) := by decide +kernel
theorem dX11_end_24 : decode cX11_end 24 = .ok (.putfield 35, 3) := by decide +kernel
theorem dX11_end_27 : decode cX11_end 27 = .ok (.iload_n 2, 1) := by decide +kernel
theorem dX11_end_28 : decode cX11_end 28 = .ok (.ireturn, 1) := by decide +kernel
theorem dX11_error_0 : decode cX11_error 0 = .ok (.iload_n 1, 1) := by decide +kernel
theorem dX11_error_1 : decode cX11_error 1 = .ok (.invokestatic 109, 3) := by decide +kernel
theorem dX11_error_4 : decode cX11_error 4 = .ok (.ifCond .ne 6, 3) := by decide +kernel
theorem dX11_error_7 : decode cX11_error 7 = .ok (.bipush (-2), 2) := by decide +kernel
theorem dX11_error_9 : decode cX11_error 9 = .ok (.ireturn, 1) := by decide +kernel
theorem dX11_error_10 : decode cX11_error 10 = .ok (.aload_n 0, 1) := by decide +kernel
theorem dX11_error_11 : decode cX11_error 11 = .ok (.invokevirtual 112, 3) := by decide +kernel
theorem dX11_error_14 : decode cX11_error 14 = .ok (.aload_n 0, 1) := by decide +kernel
theorem dX11_error_15 : decode cX11_error 15 = .ok (.iload_n 1, 1) := by decide +kernel
theorem dX11_error_16 : decode cX11_error 16 = .ok (.invokevirtual 115, 3) := by decide +kernel
theorem dX11_error_19 : decode cX11_error 19 = .ok (.getfield 119, 3) := by decide +kernel
theorem dX11_error_22 : decode cX11_error 22 = .ok (.getfield 123, 3) := by decide +kernel
theorem dX11_error_25 : decode cX11_error 25 = .ok (.ireturn, 1) := by decide +kernel
theorem dX11_answer_0 : decode cX11_answer 0 = .ok (.iload_n 1, 1) := by decide +kernel
theorem dX11_answer_1 : decode cX11_answer 1 = .ok (.invokestatic 109, 3) := by decide +kernel
theorem dX11_answer_4 : decode cX11_answer 4 = .ok (.ifCond .eq 14, 3) := by decide +kernel
theorem dX11_answer_7 : decode cX11_answer 7 = .ok (.iload_n 2, 1) := by decide +kernel
theorem dX11_answer_8 : decode cX11_answer 8 = .ok (.aload_n 0, 1) := by decide +kernel
theorem dX11_answer_9 : decode cX11_answer 9 = .ok (.invokevirtual 128, 3) := by decide +kernel
theorem dX11_answer_12 : decode cX11_answer 12 = .ok (.invokestatic 61, 3) := by decide +kernel
theorem dX11_answer_15 : decode cX11_answer 15 = .ok (.ifCond .ne 6, 3) := by decide +kernel
theorem dX11_answer_18 : decode cX11_answer 18 = .ok (.bipush (-2), 2) := by decide +kernel
theorem dX11_answer_20 : decode cX11_answer 20 = .ok (.ireturn, 1) := by decide +kernel
theorem dX11_answer_21 : decode cX11_answer 21 = .ok (.aload_n 0, 1) := by decide +kernel
theorem dX11_answer_22 : decode cX11_answer 22 = .ok (.invokevirtual 112, 3) := by decide +kernel
theorem dX11_answer_25 : decode cX11_answer 25 = .ok (.aload_n 0, 1) := by decide +kernel
theorem dX11_answer_26 : decode cX11_answer 26 = .ok (.iload_n 1, 1) := by decide +kernel
theorem dX11_answer_27 : decode cX11_answer 27 = .ok (.invokevirtual 115, 3) := by decide +kernel
theorem dX11_answer_30 : decode cX11_answer 30 = .ok (.getfield 119, 3) := by decide +kernel
theorem dX11_answer_33 : decode cX11_answer 33 = .ok (.iload_n 2, 1) := by decide +kernel
theorem dX11_answer_34 : decode cX11_answer 34 = .ok (.invokevirtual 132, 3) := by decide +kernel
theorem dX11_answer_37 : decode cX11_answer 37 = .ok (.ireturn, 1) := by decide +kernel
theorem dX11_same_0 : decode cX11_same 0 = .ok (.aload_n 0, 1) := by decide +kernel
theorem dX11_same_1 : decode cX11_same 1 = .ok (.invokevirtual 112, 3) := by decide +kernel
theorem dX11_same_4 : decode cX11_same 4 = .ok (.aload_n 0, 1) := by decide +kernel
theorem dX11_same_5 : decode cX11_same 5 = .ok (.invokevirtual 136, 3) := by decide +kernel
theorem dX11_same_8 : decode cX11_same 8 = .ok (.ireturn, 1) := by decide +kernel
theorem dX11_total_0 : decode cX11_total 0 = .ok (.aload_n 0, 1) := by decide +kernel
theorem dX11_total_1 : decode cX11_total 1 = .ok (.invokevirtual 112, 3) := by decide +kernel
theorem dX11_total_4 : decode cX11_total 4 = .ok (.aload_n 0, 1) := by decide +kernel
theorem dX11_total_5 : decode cX11_total 5 = .ok (.getfield 51, 3) := by decide +kernel
theorem dX11_total_8 : decode cX11_total 8 = .ok (.getfield 119, 3) := by decide +kernel
theorem dX11_total_11 : decode cX11_total 11 = .ok (.aload_n 0, 1) := by decide +kernel
theorem dX11_total_12 : decode cX11_total 12 = .ok (.getfield 28, 3) := by decide +kernel
theorem dX11_total_15 : decode cX11_total 15 = .ok (.aload_n 0, 1) := by decide +kernel
theorem dX11_total_16 : decode cX11_total 16 = .ok (.invokevirtual 128, 3) := by decide +kernel
theorem dX11_total_19 : decode cX11_total 19 = .ok (.invokevirtual 139, 3) := by decide +kernel
theorem dX11_total_22 : decode cX11_total 22 = .ok (.ireturn, 1) := by decide +kernel
theorem dX11_speaks_0 : decode cX11_speaks 0 = .ok (.aload_n 0, 1) := by decide +kernel
theorem dX11_speaks_1 : decode cX11_speaks 1 = .ok (.getfield 24, 3) := by decide +kernel
theorem dX11_speaks_4 : decode cX11_speaks 4 = .ok (.getfield 78, 3) := by decide +kernel
theorem dX11_speaks_7 : decode cX11_speaks 7 = .ok (.invokevirtual 143, 3) := by decide +kernel
theorem dX11_speaks_10 : decode cX11_speaks 10 = .ok (.aload_n 0, 1) := by decide +kernel
theorem dX11_speaks_11 : decode cX11_speaks 11 = .ok (.getfield 28, 3) := by decide +kernel
theorem dX11_speaks_14 : decode cX11_speaks 14 = .ok (.invokestatic 146, 3) := by decide +kernel
theorem dX11_speaks_17 : decode cX11_speaks 17 = .ok (.ifCond .eq 9, 3) := by decide +kernel
theorem dX11_speaks_20 : decode cX11_speaks 20 = .ok (.sipush 4096, 3) := by decide +kernel
theorem dX11_speaks_23 : decode cX11_speaks 23 = .ok (.goto 4, 3) := by decide +kernel
theorem dX11_speaks_26 : decode cX11_speaks 26 = .ok (.iconst 0, 1) := by decide +kernel
theorem dX11_speaks_27 : decode cX11_speaks 27 = .ok (.ior, 1) := by decide +kernel
theorem dX11_speaks_28 : decode cX11_speaks 28 = .ok (.ireturn, 1) := by decide +kernel
theorem dX11_domain_0 : decode cX11_domain 0 = .ok (.iload_n 1, 1) := by decide +kernel
theorem dX11_domain_1 : decode cX11_domain 1 = .ok (.iconst (-1), 1) := by decide +kernel
theorem dX11_domain_2 : decode cX11_domain 2 = .ok (.if_icmp .lt 17, 3) := by decide +kernel
theorem dX11_domain_5 : decode cX11_domain 5 = .ok (.iload_n 1, 1) := by decide +kernel
theorem dX11_domain_6 : decode cX11_domain 6 = .ok (.bipush 10, 2) := by decide +kernel
theorem dX11_domain_8 : decode cX11_domain 8 = .ok (.if_icmp .ge 11, 3) := by decide +kernel
theorem dX11_domain_11 : decode cX11_domain 11 = .ok (.iload_n 2, 1) := by decide +kernel
theorem dX11_domain_12 : decode cX11_domain 12 = .ok (.iconst 2, 1) := by decide +kernel
theorem dX11_domain_13 : decode cX11_domain 13 = .ok (.invokestatic 61, 3) := by decide +kernel
theorem dX11_domain_16 : decode cX11_domain 16 = .ok (.ifCond .ne 6, 3) := by decide +kernel
theorem dX11_domain_19 : decode cX11_domain 19 = .ok (.bipush (-2), 2) := by decide +kernel
theorem dX11_domain_21 : decode cX11_domain 21 = .ok (.ireturn, 1) := by decide +kernel
theorem dX11_domain_22 : decode cX11_domain 22 = .ok (.aload_n 0, 1) := by decide +kernel
theorem dX11_domain_23 : decode cX11_domain 23 = .ok (.invokevirtual 112, 3) := by decide +kernel
theorem dX11_domain_26 : decode cX11_domain 26 = .ok (.iload_n 1, 1) := by decide +kernel
theorem dX11_domain_27 : decode cX11_domain 27 = .ok (.iconst (-1), 1) := by decide +kernel
theorem dX11_domain_28 : decode cX11_domain 28 = .ok (.if_icmp .ne 16, 3) := by decide +kernel
theorem dX11_domain_31 : decode cX11_domain 31 = .ok (.aload_n 0, 1) := by decide +kernel
theorem dX11_domain_32 : decode cX11_domain 32 = .ok (.getfield 55, 3) := by decide +kernel
theorem dX11_domain_35 : decode cX11_domain 35 = .ok (.getfield 149, 3) := by decide +kernel
theorem dX11_domain_38 : decode cX11_domain 38 = .ok (.getfield 153, 3) := by decide +kernel
theorem dX11_domain_41 : decode cX11_domain 41 = .ok (.goto 9, 3) := by decide +kernel
theorem dX11_domain_44 : decode cX11_domain 44 = .ok (.aload_n 0, 1) := by decide +kernel
theorem dX11_domain_45 : decode cX11_domain 45 = .ok (.iload_n 1, 1) := by decide +kernel
theorem dX11_domain_46 : decode cX11_domain 46 = .ok (.iload_n 2, 1) := by decide +kernel
theorem dX11_domain_47 : decode cX11_domain 47 = .ok (.invokevirtual 156, 3) := by decide +kernel
theorem dX11_domain_50 : decode cX11_domain 50 = .ok (.ireturn, 1) := by decide +kernel
theorem dX11_plan_0 : decode cX11_plan 0 = .ok (.iload_n 1, 1) := by decide +kernel
theorem dX11_plan_1 : decode cX11_plan 1 = .ok (.bipush 20, 2) := by decide +kernel
theorem dX11_plan_3 : decode cX11_plan 3 = .ok (.invokestatic 61, 3) := by decide +kernel
theorem dX11_plan_6 : decode cX11_plan 6 = .ok (.ifCond .ne 6, 3) := by decide +kernel
theorem dX11_plan_9 : decode cX11_plan 9 = .ok (.bipush (-2), 2) := by decide +kernel
theorem dX11_plan_11 : decode cX11_plan 11 = .ok (.ireturn, 1) := by decide +kernel
theorem dX11_plan_12 : decode cX11_plan 12 = .ok (.aload_n 0, 1) := by decide +kernel
theorem dX11_plan_13 : decode cX11_plan 13 = .ok (.invokevirtual 112, 3) := by decide +kernel
theorem dX11_plan_16 : decode cX11_plan 16 = .ok (.aload_n 0, 1) := by decide +kernel
theorem dX11_plan_17 : decode cX11_plan 17 = .ok (.getfield 55, 3) := by decide +kernel
theorem dX11_plan_20 : decode cX11_plan 20 = .ok (.getfield 159, 3) := by decide +kernel
theorem dX11_plan_23 : decode cX11_plan 23 = .ok (.iload_n 1, 1) := by decide +kernel
theorem dX11_plan_24 : decode cX11_plan 24 = .ok (.invokevirtual 163, 3) := by decide +kernel
theorem dX11_plan_27 : decode cX11_plan 27 = .ok (.ireturn, 1) := by decide +kernel
theorem dX11_cost_0 : decode cX11_cost 0 = .ok (.iload_n 1, 1) := by decide +kernel
theorem dX11_cost_1 : decode cX11_cost 1 = .ok (.invokestatic 109, 3) := by decide +kernel
theorem dX11_cost_4 : decode cX11_cost 4 = .ok (.ifCond .eq 11, 3) := by decide +kernel
theorem dX11_cost_7 : decode cX11_cost 7 = .ok (.iload_n 2, 1) := by decide +kernel
theorem dX11_cost_8 : decode cX11_cost 8 = .ok (.iconst 5, 1) := by decide +kernel
theorem dX11_cost_9 : decode cX11_cost 9 = .ok (.invokestatic 61, 3) := by decide +kernel
theorem dX11_cost_12 : decode cX11_cost 12 = .ok (.ifCond .ne 6, 3) := by decide +kernel
theorem dX11_cost_15 : decode cX11_cost 15 = .ok (.bipush (-2), 2) := by decide +kernel
theorem dX11_cost_17 : decode cX11_cost 17 = .ok (.ireturn, 1) := by decide +kernel
theorem dX11_cost_18 : decode cX11_cost 18 = .ok (.aload_n 0, 1) := by decide +kernel
theorem dX11_cost_19 : decode cX11_cost 19 = .ok (.invokevirtual 112, 3) := by decide +kernel
theorem dX11_cost_22 : decode cX11_cost 22 = .ok (.aload_n 0, 1) := by decide +kernel
theorem dX11_cost_23 : decode cX11_cost 23 = .ok (.iload_n 1, 1) := by decide +kernel
theorem dX11_cost_24 : decode cX11_cost 24 = .ok (.invokevirtual 115, 3) := by decide +kernel
theorem dX11_cost_27 : decode cX11_cost 27 = .ok (.getfield 119, 3) := by decide +kernel
theorem dX11_cost_30 : decode cX11_cost 30 = .ok (.iload_n 2, 1) := by decide +kernel
theorem dX11_cost_31 : decode cX11_cost 31 = .ok (.invokevirtual 168, 3) := by decide +kernel
theorem dX11_cost_34 : decode cX11_cost 34 = .ok (.ireturn, 1) := by decide +kernel
theorem dX11_log_0 : decode cX11_log 0 = .ok (.iload_n 1, 1) := by decide +kernel
theorem dX11_log_1 : decode cX11_log 1 = .ok (.invokestatic 109, 3) := by decide +kernel
theorem dX11_log_4 : decode cX11_log 4 = .ok (.ifCond .eq 13, 3) := by decide +kernel
theorem dX11_log_7 : decode cX11_log 7 = .ok (.iload_n 2, 1) := by decide +kernel
theorem dX11_log_8 : decode cX11_log 8 = .ok (.sipush 200, 3) := by decide +kernel
theorem dX11_log_11 : decode cX11_log 11 = .ok (.invokestatic 61, 3) := by decide +kernel
theorem dX11_log_14 : decode cX11_log 14 = .ok (.ifCond .ne 6, 3) := by decide +kernel
theorem dX11_log_17 : decode cX11_log 17 = .ok (.bipush (-2), 2) := by decide +kernel
theorem dX11_log_19 : decode cX11_log 19 = .ok (.ireturn, 1) := by decide +kernel
theorem dX11_log_20 : decode cX11_log 20 = .ok (.aload_n 0, 1) := by decide +kernel
theorem dX11_log_21 : decode cX11_log 21 = .ok (.invokevirtual 112, 3) := by decide +kernel
theorem dX11_log_24 : decode cX11_log 24 = .ok (.aload_n 0, 1) := by decide +kernel
theorem dX11_log_25 : decode cX11_log 25 = .ok (.iload_n 1, 1) := by decide +kernel
theorem dX11_log_26 : decode cX11_log 26 = .ok (.invokevirtual 115, 3) := by decide +kernel
theorem dX11_log_29 : decode cX11_log 29 = .ok (.getfield 119, 3) := by decide +kernel
theorem dX11_log_32 : decode cX11_log 32 = .ok (.iload_n 2, 1) := by decide +kernel
theorem dX11_log_33 : decode cX11_log 33 = .ok (.invokevirtual 171, 3) := by decide +kernel
theorem dX11_log_36 : decode cX11_log 36 = .ok (.ireturn, 1) := by decide +kernel
theorem dX11_spare_0 : decode cX11_spare 0 = .ok (.aload_n 0, 1) := by decide +kernel
theorem dX11_spare_1 : decode cX11_spare 1 = .ok (.invokevirtual 112, 3) := by decide +kernel
theorem dX11_spare_4 : decode cX11_spare 4 = .ok (.aload_n 0, 1) := by decide +kernel
theorem dX11_spare_5 : decode cX11_spare 5 = .ok (.invokevirtual 174, 3) := by decide +kernel
theorem dX11_spare_8 : decode cX11_spare 8 = .ok (.ireturn, 1) := by decide +kernel
theorem dX11_sheet_0 : decode cX11_sheet 0 = .ok (.iload_n 1, 1) := by decide +kernel
theorem dX11_sheet_1 : decode cX11_sheet 1 = .ok (.iconst 4, 1) := by decide +kernel
theorem dX11_sheet_2 : decode cX11_sheet 2 = .ok (.invokestatic 61, 3) := by decide +kernel
theorem dX11_sheet_5 : decode cX11_sheet 5 = .ok (.ifCond .eq 17, 3) := by decide +kernel
theorem dX11_sheet_8 : decode cX11_sheet 8 = .ok (.iload_n 2, 1) := by decide +kernel
theorem dX11_sheet_9 : decode cX11_sheet 9 = .ok (.iconst 3, 1) := by decide +kernel
theorem dX11_sheet_10 : decode cX11_sheet 10 = .ok (.invokestatic 61, 3) := by decide +kernel
theorem dX11_sheet_13 : decode cX11_sheet 13 = .ok (.ifCond .eq 9, 3) := by decide +kernel
theorem dX11_sheet_16 : decode cX11_sheet 16 = .ok (.iload_n 3, 1) := by decide +kernel
theorem dX11_sheet_17 : decode cX11_sheet 17 = .ok (.bipush 60, 2) := by decide +kernel
theorem dX11_sheet_19 : decode cX11_sheet 19 = .ok (.if_icmp .le 6, 3) := by decide +kernel
theorem dX11_sheet_22 : decode cX11_sheet 22 = .ok (.bipush (-2), 2) := by decide +kernel
theorem dX11_sheet_24 : decode cX11_sheet 24 = .ok (.ireturn, 1) := by decide +kernel
theorem dX11_sheet_25 : decode cX11_sheet 25 = .ok (.iload_n 3, 1) := by decide +kernel
theorem dX11_sheet_26 : decode cX11_sheet 26 = .ok (.ifCond .ge 9, 3) := by decide +kernel
theorem dX11_sheet_29 : decode cX11_sheet 29 = .ok (.aload_n 0, 1) := by decide +kernel
theorem dX11_sheet_30 : decode cX11_sheet 30 = .ok (.iconst 5, 1) := by decide +kernel
theorem dX11_sheet_31 : decode cX11_sheet 31 = .ok (.invokevirtual 177, 3) := by decide +kernel
theorem dX11_sheet_34 : decode cX11_sheet 34 = .ok (.ireturn, 1) := by decide +kernel
theorem dX11_sheet_35 : decode cX11_sheet 35 = .ok (.aload_n 0, 1) := by decide +kernel
theorem dX11_sheet_36 : decode cX11_sheet 36 = .ok (.getfield 17, 3) := by decide +kernel
theorem dX11_sheet_39 : decode cX11_sheet 39 = .ok (.iload_n 1, 1) := by decide +kernel
theorem dX11_sheet_40 : decode cX11_sheet 40 = .ok (.aaload, 1) := by decide +kernel
theorem dX11_sheet_41 : decode cX11_sheet 41 = .ok (.iload_n 2, 1) := by decide +kernel
theorem dX11_sheet_42 : decode cX11_sheet 42 = .ok (.iload_n 3, 1) := by decide +kernel
theorem dX11_sheet_43 : decode cX11_sheet 43 = .ok (.invokevirtual 180, 3) := by decide +kernel
theorem dX11_sheet_46 : decode cX11_sheet 46 = .ok (.iload_n 3, 1) := by decide +kernel
theorem dX11_sheet_47 : decode cX11_sheet 47 = .ok (.ireturn, 1) := by decide +kernel
theorem dX11_lose_0 : decode cX11_lose 0 = .ok (.iload_n 1, 1) := by decide +kernel
theorem dX11_lose_1 : decode cX11_lose 1 = .ok (.iconst 4, 1) := by decide +kernel
theorem dX11_lose_2 : decode cX11_lose 2 = .ok (.invokestatic 61, 3) := by decide +kernel
theorem dX11_lose_5 : decode cX11_lose 5 = .ok (.ifCond .ne 6, 3) := by decide +kernel
theorem dX11_lose_8 : decode cX11_lose 8 = .ok (.bipush (-2), 2) := by decide +kernel
theorem dX11_lose_10 : decode cX11_lose 10 = .ok (.ireturn, 1) := by decide +kernel
theorem dX11_lose_11 : decode cX11_lose 11 = .ok (.aload_n 0, 1) := by decide +kernel
theorem dX11_lose_12 : decode cX11_lose 12 = .ok (.getfield 17, 3) := by decide +kernel
theorem dX11_lose_15 : decode cX11_lose 15 = .ok (.iload_n 1, 1) := by decide +kernel
theorem dX11_lose_16 : decode cX11_lose 16 = .ok (.aaload, 1) := by decide +kernel
theorem dX11_lose_17 : decode cX11_lose 17 = .ok (.invokevirtual 184, 3) := by decide +kernel
theorem dX11_lose_20 : decode cX11_lose 20 = .ok (.ifCond .eq 9, 3) := by decide +kernel
theorem dX11_lose_23 : decode cX11_lose 23 = .ok (.aload_n 0, 1) := by decide +kernel
theorem dX11_lose_24 : decode cX11_lose 24 = .ok (.iconst 1, 1) := by decide +kernel
theorem dX11_lose_25 : decode cX11_lose 25 = .ok (.invokevirtual 177, 3) := by decide +kernel
theorem dX11_lose_28 : decode cX11_lose 28 = .ok (.ireturn, 1) := by decide +kernel
theorem dX11_lose_29 : decode cX11_lose 29 = .ok (.aload_n 0, 1) := by decide +kernel
theorem dX11_lose_30 : decode cX11_lose 30 = .ok (.getfield 17, 3) := by decide +kernel
theorem dX11_lose_33 : decode cX11_lose 33 = .ok (.iload_n 1, 1) := by decide +kernel
theorem dX11_lose_34 : decode cX11_lose 34 = .ok (.aaload, 1) := by decide +kernel
theorem dX11_lose_35 : decode cX11_lose 35 = .ok (.getfield 188, 3) := by decide +kernel
theorem dX11_lose_38 : decode cX11_lose 38 = .ok (.istore_n 2, 1) := by decide +kernel
theorem dX11_lose_39 : decode cX11_lose 39 = .ok (.aload_n 0, 1) := by decide +kernel
theorem dX11_lose_40 : decode cX11_lose 40 = .ok (.getfield 17, 3) := by decide +kernel
theorem dX11_lose_43 : decode cX11_lose 43 = .ok (.iload_n 1, 1) := by decide +kernel
theorem dX11_lose_44 : decode cX11_lose 44 = .ok (.aaload, 1) := by decide +kernel
theorem dX11_lose_45 : decode cX11_lose 45 = .ok (.invokevirtual 189, 3) := by decide +kernel
theorem dX11_lose_48 : decode cX11_lose 48 = .ok (.iload_n 2, 1) := by decide +kernel
theorem dX11_lose_49 : decode cX11_lose 49 = .ok (.ireturn, 1) := by decide +kernel
theorem dX11_put_0 : decode cX11_put 0 = .ok (.iload_n 1, 1) := by decide +kernel
theorem dX11_put_1 : decode cX11_put 1 = .ok (.iconst 4, 1) := by decide +kernel
theorem dX11_put_2 : decode cX11_put 2 = .ok (.invokestatic 61, 3) := by decide +kernel
theorem dX11_put_5 : decode cX11_put 5 = .ok (.ifCond .eq 11, 3) := by decide +kernel
theorem dX11_put_8 : decode cX11_put 8 = .ok (.iload_n 2, 1) := by decide +kernel
theorem dX11_put_9 : decode cX11_put 9 = .ok (.iconst 3, 1) := by decide +kernel
theorem dX11_put_10 : decode cX11_put 10 = .ok (.invokestatic 61, 3) := by decide +kernel
theorem dX11_put_13 : decode cX11_put 13 = .ok (.ifCond .ne 6, 3) := by decide +kernel
theorem dX11_put_16 : decode cX11_put 16 = .ok (.bipush (-2), 2) := by decide +kernel
theorem dX11_put_18 : decode cX11_put 18 = .ok (.ireturn, 1) := by decide +kernel
theorem dX11_put_19 : decode cX11_put 19 = .ok (.aload_n 0, 1) := by decide +kernel
theorem dX11_put_20 : decode cX11_put 20 = .ok (.getfield 17, 3) := by decide +kernel
theorem dX11_put_23 : decode cX11_put 23 = .ok (.iload_n 1, 1) := by decide +kernel
theorem dX11_put_24 : decode cX11_put 24 = .ok (.aaload, 1) := by decide +kernel
theorem dX11_put_25 : decode cX11_put 25 = .ok (.iload_n 2, 1) := by decide +kernel
theorem dX11_put_26 : decode cX11_put 26 = .ok (.iload_n 3, 1) := by decide +kernel
theorem dX11_put_27 : decode cX11_put 27 = .ok (.invokevirtual 192, 3) := by decide +kernel
theorem dX11_put_30 : decode cX11_put 30 = .ok (.istore 5, 2) := by decide +kernel
theorem dX11_put_32 : decode cX11_put 32 = .ok (.iload 5, 2) := by decide +kernel
theorem dX11_put_34 : decode cX11_put 34 = .ok (.ifCond .eq 10, 3) := by decide +kernel
theorem dX11_put_37 : decode cX11_put 37 = .ok (.aload_n 0, 1) := by decide +kernel
theorem dX11_put_38 : decode cX11_put 38 = .ok (.iload 5, 2) := by decide +kernel
theorem dX11_put_40 : decode cX11_put 40 = .ok (.invokevirtual 177, 3) := by decide +kernel
theorem dX11_put_43 : decode cX11_put 43 = .ok (.ireturn, 1) := by decide +kernel
theorem dX11_put_44 : decode cX11_put 44 = .ok (.aload_n 0, 1) := by decide +kernel
theorem dX11_put_45 : decode cX11_put 45 = .ok (.getfield 17, 3) := by decide +kernel
theorem dX11_put_48 : decode cX11_put 48 = .ok (.iload_n 1, 1) := by decide +kernel
theorem dX11_put_49 : decode cX11_put 49 = .ok (.aaload, 1) := by decide +kernel
theorem dX11_put_50 : decode cX11_put 50 = .ok (.iload_n 3, 1) := by decide +kernel
theorem dX11_put_51 : decode cX11_put 51 = .ok (.iload 4, 2) := by decide +kernel
theorem dX11_put_53 : decode cX11_put 53 = .ok (.invokevirtual 195, 3) := by decide +kernel
theorem dX11_put_56 : decode cX11_put 56 = .ok (.iconst 1, 1) := by decide +kernel
theorem dX11_put_57 : decode cX11_put 57 = .ok (.ireturn, 1) := by decide +kernel
theorem dX11_get_0 : decode cX11_get 0 = .ok (.iload_n 1, 1) := by decide +kernel
theorem dX11_get_1 : decode cX11_get 1 = .ok (.iconst 4, 1) := by decide +kernel
theorem dX11_get_2 : decode cX11_get 2 = .ok (.invokestatic 61, 3) := by decide +kernel
theorem dX11_get_5 : decode cX11_get 5 = .ok (.ifCond .eq 11, 3) := by decide +kernel
theorem dX11_get_8 : decode cX11_get 8 = .ok (.iload_n 2, 1) := by decide +kernel
theorem dX11_get_9 : decode cX11_get 9 = .ok (.iconst 3, 1) := by decide +kernel
theorem dX11_get_10 : decode cX11_get 10 = .ok (.invokestatic 61, 3) := by decide +kernel
theorem dX11_get_13 : decode cX11_get 13 = .ok (.ifCond .ne 6, 3) := by decide +kernel
theorem dX11_get_16 : decode cX11_get 16 = .ok (.ldc 198, 2) := by decide +kernel
theorem dX11_get_18 : decode cX11_get 18 = .ok (.ireturn, 1) := by decide +kernel
theorem dX11_get_19 : decode cX11_get 19 = .ok (.aload_n 0, 1) := by decide +kernel
theorem dX11_get_20 : decode cX11_get 20 = .ok (.getfield 17, 3) := by decide +kernel
theorem dX11_get_23 : decode cX11_get 23 = .ok (.iload_n 1, 1) := by decide +kernel
theorem dX11_get_24 : decode cX11_get 24 = .ok (.aaload, 1) := by decide +kernel
theorem dX11_get_25 : decode cX11_get 25 = .ok (.iload_n 2, 1) := by decide +kernel
theorem dX11_get_26 : decode cX11_get 26 = .ok (.iload_n 3, 1) := by decide +kernel
theorem dX11_get_27 : decode cX11_get 27 = .ok (.invokevirtual 192, 3) := by decide +kernel
theorem dX11_get_30 : decode cX11_get 30 = .ok (.istore 4, 2) := by decide +kernel
theorem dX11_get_32 : decode cX11_get 32 = .ok (.iload 4, 2) := by decide +kernel
theorem dX11_get_34 : decode cX11_get 34 = .ok (.ifCond .eq 12, 3) := by decide +kernel
theorem dX11_get_37 : decode cX11_get 37 = .ok (.aload_n 0, 1) := by decide +kernel
theorem dX11_get_38 : decode cX11_get 38 = .ok (.iload 4, 2) := by decide +kernel
theorem dX11_get_40 : decode cX11_get 40 = .ok (.putfield 32, 3) := by decide +kernel
theorem dX11_get_43 : decode cX11_get 43 = .ok (.ldc 198, 2) := by decide +kernel
theorem dX11_get_45 : decode cX11_get 45 = .ok (.ireturn, 1) := by decide +kernel
theorem dX11_get_46 : decode cX11_get 46 = .ok (.aload_n 0, 1) := by decide +kernel
theorem dX11_get_47 : decode cX11_get 47 = .ok (.getfield 17, 3) := by decide +kernel
theorem dX11_get_50 : decode cX11_get 50 = .ok (.iload_n 1, 1) := by decide +kernel
theorem dX11_get_51 : decode cX11_get 51 = .ok (.aaload, 1) := by decide +kernel
theorem dX11_get_52 : decode cX11_get 52 = .ok (.getfield 199, 3) := by decide +kernel
theorem dX11_get_55 : decode cX11_get 55 = .ok (.iload_n 3, 1) := by decide +kernel
theorem dX11_get_56 : decode cX11_get 56 = .ok (.iaload, 1) := by decide +kernel
theorem dX11_get_57 : decode cX11_get 57 = .ok (.ireturn, 1) := by decide +kernel
theorem dX11_copy_0 : decode cX11_copy 0 = .ok (.iload_n 1, 1) := by decide +kernel
theorem dX11_copy_1 : decode cX11_copy 1 = .ok (.iconst 4, 1) := by decide +kernel
theorem dX11_copy_2 : decode cX11_copy 2 = .ok (.invokestatic 61, 3) := by decide +kernel
theorem dX11_copy_5 : decode cX11_copy 5 = .ok (.ifCond .eq 11, 3) := by decide +kernel
theorem dX11_copy_8 : decode cX11_copy 8 = .ok (.iload_n 3, 1) := by decide +kernel
theorem dX11_copy_9 : decode cX11_copy 9 = .ok (.iconst 4, 1) := by decide +kernel
theorem dX11_copy_10 : decode cX11_copy 10 = .ok (.invokestatic 61, 3) := by decide +kernel
theorem dX11_copy_13 : decode cX11_copy 13 = .ok (.ifCond .ne 6, 3) := by decide +kernel
theorem dX11_copy_16 : decode cX11_copy 16 = .ok (.bipush (-2), 2) := by decide +kernel
theorem dX11_copy_18 : decode cX11_copy 18 = .ok (.ireturn, 1) := by decide +kernel
theorem dX11_copy_19 : decode cX11_copy 19 = .ok (.aload_n 0, 1) := by decide +kernel
theorem dX11_copy_20 : decode cX11_copy 20 = .ok (.getfield 17, 3) := by decide +kernel
theorem dX11_copy_23 : decode cX11_copy 23 = .ok (.iload_n 1, 1) := by decide +kernel
theorem dX11_copy_24 : decode cX11_copy 24 = .ok (.aaload, 1) := by decide +kernel
theorem dX11_copy_25 : decode cX11_copy 25 = .ok (.invokevirtual 184, 3) := by decide +kernel
theorem dX11_copy_28 : decode cX11_copy 28 = .ok (.ifCond .ne 15, 3) := by decide +kernel
theorem dX11_copy_31 : decode cX11_copy 31 = .ok (.aload_n 0, 1) := by decide +kernel
theorem dX11_copy_32 : decode cX11_copy 32 = .ok (.getfield 17, 3) := by decide +kernel
theorem dX11_copy_35 : decode cX11_copy 35 = .ok (.iload_n 3, 1) := by decide +kernel
theorem dX11_copy_36 : decode cX11_copy 36 = .ok (.aaload, 1) := by decide +kernel
theorem dX11_copy_37 : decode cX11_copy 37 = .ok (.invokevirtual 184, 3) := by decide +kernel
theorem dX11_copy_40 : decode cX11_copy 40 = .ok (.ifCond .eq 9, 3) := by decide +kernel
theorem dX11_copy_43 : decode cX11_copy 43 = .ok (.aload_n 0, 1) := by decide +kernel
theorem dX11_copy_44 : decode cX11_copy 44 = .ok (.iconst 1, 1) := by decide +kernel
theorem dX11_copy_45 : decode cX11_copy 45 = .ok (.invokevirtual 177, 3) := by decide +kernel
theorem dX11_copy_48 : decode cX11_copy 48 = .ok (.ireturn, 1) := by decide +kernel
theorem dX11_copy_49 : decode cX11_copy 49 = .ok (.aload_n 0, 1) := by decide +kernel
theorem dX11_copy_50 : decode cX11_copy 50 = .ok (.getfield 17, 3) := by decide +kernel
theorem dX11_copy_53 : decode cX11_copy 53 = .ok (.iload_n 1, 1) := by decide +kernel
theorem dX11_copy_54 : decode cX11_copy 54 = .ok (.aaload, 1) := by decide +kernel
theorem dX11_copy_55 : decode cX11_copy 55 = .ok (.getfield 202, 3) := by decide +kernel
theorem dX11_copy_58 : decode cX11_copy 58 = .ok (.aload_n 0, 1) := by decide +kernel
theorem dX11_copy_59 : decode cX11_copy 59 = .ok (.getfield 17, 3) := by decide +kernel
theorem dX11_copy_62 : decode cX11_copy 62 = .ok (.iload_n 3, 1) := by decide +kernel
theorem dX11_copy_63 : decode cX11_copy 63 = .ok (.aaload, 1) := by decide +kernel
theorem dX11_copy_64 : decode cX11_copy 64 = .ok (.getfield 202, 3) := by decide +kernel
theorem dX11_copy_67 : decode cX11_copy 67 = .ok (.if_icmp .eq 9, 3) := by decide +kernel
theorem dX11_copy_70 : decode cX11_copy 70 = .ok (.aload_n 0, 1) := by decide +kernel
theorem dX11_copy_71 : decode cX11_copy 71 = .ok (.iconst 4, 1) := by decide +kernel
theorem dX11_copy_72 : decode cX11_copy 72 = .ok (.invokevirtual 177, 3) := by decide +kernel
theorem dX11_copy_75 : decode cX11_copy 75 = .ok (.ireturn, 1) := by decide +kernel
theorem dX11_copy_76 : decode cX11_copy 76 = .ok (.aload_n 0, 1) := by decide +kernel
theorem dX11_copy_77 : decode cX11_copy 77 = .ok (.getfield 17, 3) := by decide +kernel
theorem dX11_copy_80 : decode cX11_copy 80 = .ok (.iload_n 1, 1) := by decide +kernel
theorem dX11_copy_81 : decode cX11_copy 81 = .ok (.aaload, 1) := by decide +kernel
theorem dX11_copy_82 : decode cX11_copy 82 = .ok (.iload_n 2, 1) := by decide +kernel
theorem dX11_copy_83 : decode cX11_copy 83 = .ok (.iload 5, 2) := by decide +kernel
theorem dX11_copy_85 : decode cX11_copy 85 = .ok (.invokevirtual 205, 3) := by decide +kernel
theorem dX11_copy_88 : decode cX11_copy 88 = .ok (.ifCond .eq 19, 3) := by decide +kernel
theorem dX11_copy_91 : decode cX11_copy 91 = .ok (.aload_n 0, 1) := by decide +kernel
theorem dX11_copy_92 : decode cX11_copy 92 = .ok (.getfield 17, 3) := by decide +kernel
