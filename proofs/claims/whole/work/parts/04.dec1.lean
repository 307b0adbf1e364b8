theorem d_B_come_8 : decode c_B_come 8 = .ok (.new 62, 3) := by decide +kernel
theorem d_B_come_11 : decode c_B_come 11 = .ok (.dup, 1) := by decide +kernel
theorem d_B_come_12 : decode c_B_come 12 = .ok (.ldc 127, 2) := by decide +kernel
theorem d_B_come_14 : decode c_B_come 14 = .ok (.invokespecial 66, 3) := by decide +kernel
theorem d_B_come_17 : decode c_B_come 17 = .ok (.athrow, 1) := by decide +kernel
theorem d_B_come_18 : decode c_B_come 18 = .ok (.aload_n 0, 1) := by decide +kernel
theorem d_B_come_19 : decode c_B_come 19 = .ok (.getfield 40, 3) := by decide +kernel
theorem d_B_come_22 : decode c_B_come 22 = .ok (.istore_n 1, 1) := by decide +kernel
theorem d_B_come_23 : decode c_B_come 23 = .ok (.aload_n 0, 1) := by decide +kernel
theorem d_B_come_24 : decode c_B_come 24 = .ok (.iconst (-1), 1) := by decide +kernel
theorem d_B_come_25 : decode c_B_come 25 = .ok (.putfield 40, 3) := by decide +kernel
theorem d_B_come_28 : decode c_B_come 28 = .ok (.iload_n 1, 1) := by decide +kernel
theorem d_B_come_29 : decode c_B_come 29 = .ok (.aload_n 0, 1) := by decide +kernel
theorem d_B_come_30 : decode c_B_come 30 = .ok (.getfield 13, 3) := by decide +kernel
theorem d_B_come_33 : decode c_B_come 33 = .ok (.if_icmp .ne 14, 3) := by decide +kernel
theorem d_B_come_36 : decode c_B_come 36 = .ok (.aload_n 0, 1) := by decide +kernel
theorem d_B_come_37 : decode c_B_come 37 = .ok (.aload_n 0, 1) := by decide +kernel
theorem d_B_come_38 : decode c_B_come 38 = .ok (.getfield 100, 3) := by decide +kernel
theorem d_B_come_41 : decode c_B_come 41 = .ok (.invokevirtual 129, 3) := by decide +kernel
theorem d_B_come_44 : decode c_B_come 44 = .ok (.goto 12, 3) := by decide +kernel
theorem d_B_come_47 : decode c_B_come 47 = .ok (.aload_n 0, 1) := by decide +kernel
theorem d_B_come_48 : decode c_B_come 48 = .ok (.iload_n 1, 1) := by decide +kernel
theorem d_B_come_49 : decode c_B_come 49 = .ok (.aload_n 0, 1) := by decide +kernel
theorem d_B_come_50 : decode c_B_come 50 = .ok (.getfield 100, 3) := by decide +kernel
theorem d_B_come_53 : decode c_B_come 53 = .ok (.invokevirtual 133, 3) := by decide +kernel
theorem d_B_come_56 : decode c_B_come 56 = .ok (.ireturn, 1) := by decide +kernel
theorem d_B_hearOwn_0 : decode c_B_hearOwn 0 = .ok (.iload_n 1, 1) := by decide +kernel
theorem d_B_hearOwn_1 : decode c_B_hearOwn 1 = .ok (.aload_n 0, 1) := by decide +kernel
theorem d_B_hearOwn_2 : decode c_B_hearOwn 2 = .ok (.getfield 151, 3) := by decide +kernel
theorem d_B_hearOwn_5 : decode c_B_hearOwn 5 = .ok (.if_icmp .gt 5, 3) := by decide +kernel
theorem d_B_hearOwn_8 : decode c_B_hearOwn 8 = .ok (.iconst 4, 1) := by decide +kernel
theorem d_B_hearOwn_9 : decode c_B_hearOwn 9 = .ok (.ireturn, 1) := by decide +kernel
theorem d_B_hearOwn_10 : decode c_B_hearOwn 10 = .ok (.aload_n 0, 1) := by decide +kernel
theorem d_B_hearOwn_11 : decode c_B_hearOwn 11 = .ok (.iload_n 1, 1) := by decide +kernel
theorem d_B_hearOwn_12 : decode c_B_hearOwn 12 = .ok (.putfield 151, 3) := by decide +kernel
theorem d_B_hearOwn_15 : decode c_B_hearOwn 15 = .ok (.iconst 3, 1) := by decide +kernel
theorem d_B_hearOwn_16 : decode c_B_hearOwn 16 = .ok (.ireturn, 1) := by decide +kernel
theorem d_B_hearOther_0 : decode c_B_hearOther 0 = .ok (.aload_n 0, 1) := by decide +kernel
theorem d_B_hearOther_1 : decode c_B_hearOther 1 = .ok (.getfield 27, 3) := by decide +kernel
theorem d_B_hearOther_4 : decode c_B_hearOther 4 = .ok (.getfield 164, 3) := by decide +kernel
theorem d_B_hearOther_7 : decode c_B_hearOther 7 = .ok (.iload_n 1, 1) := by decide +kernel
theorem d_B_hearOther_8 : decode c_B_hearOther 8 = .ok (.iaload, 1) := by decide +kernel
theorem d_B_hearOther_9 : decode c_B_hearOther 9 = .ok (.iload_n 2, 1) := by decide +kernel
theorem d_B_hearOther_10 : decode c_B_hearOther 10 = .ok (.if_icmp .ne 5, 3) := by decide +kernel
theorem d_B_hearOther_13 : decode c_B_hearOther 13 = .ok (.iconst 1, 1) := by decide +kernel
theorem d_B_hearOther_14 : decode c_B_hearOther 14 = .ok (.ireturn, 1) := by decide +kernel
theorem d_B_hearOther_15 : decode c_B_hearOther 15 = .ok (.aload_n 0, 1) := by decide +kernel
theorem d_B_hearOther_16 : decode c_B_hearOther 16 = .ok (.getfield 27, 3) := by decide +kernel
theorem d_B_hearOther_19 : decode c_B_hearOther 19 = .ok (.getfield 164, 3) := by decide +kernel
theorem d_B_hearOther_22 : decode c_B_hearOther 22 = .ok (.iload_n 1, 1) := by decide +kernel
theorem d_B_hearOther_23 : decode c_B_hearOther 23 = .ok (.iaload, 1) := by decide +kernel
theorem d_B_hearOther_24 : decode c_B_hearOther 24 = .ok (.iload_n 2, 1) := by decide +kernel
theorem d_B_hearOther_25 : decode c_B_hearOther 25 = .ok (.if_icmp .le 5, 3) := by decide +kernel
theorem d_B_hearOther_28 : decode c_B_hearOther 28 = .ok (.iconst 2, 1) := by decide +kernel
theorem d_B_hearOther_29 : decode c_B_hearOther 29 = .ok (.ireturn, 1) := by decide +kernel
theorem d_B_hearOther_30 : decode c_B_hearOther 30 = .ok (.aload_n 0, 1) := by decide +kernel
theorem d_B_hearOther_31 : decode c_B_hearOther 31 = .ok (.bipush 64, 2) := by decide +kernel
theorem d_B_hearOther_33 : decode c_B_hearOther 33 = .ok (.iload_n 1, 1) := by decide +kernel
theorem d_B_hearOther_34 : decode c_B_hearOther 34 = .ok (.iload_n 2, 1) := by decide +kernel
theorem d_B_hearOther_35 : decode c_B_hearOther 35 = .ok (.invokevirtual 157, 3) := by decide +kernel
theorem d_B_hearOther_38 : decode c_B_hearOther 38 = .ok (.iconst 0, 1) := by decide +kernel
theorem d_B_hearOther_39 : decode c_B_hearOther 39 = .ok (.ireturn, 1) := by decide +kernel
theorem d_B_pass_0 : decode c_B_pass 0 = .ok (.iload_n 1, 1) := by decide +kernel
theorem d_B_pass_1 : decode c_B_pass 1 = .ok (.ifCond .lt 10, 3) := by decide +kernel
theorem d_B_pass_4 : decode c_B_pass 4 = .ok (.iload_n 1, 1) := by decide +kernel
theorem d_B_pass_5 : decode c_B_pass 5 = .ok (.sipush 10000, 3) := by decide +kernel
theorem d_B_pass_8 : decode c_B_pass 8 = .ok (.if_icmp .le 13, 3) := by decide +kernel
theorem d_B_pass_11 : decode c_B_pass 11 = .ok (.new 52, 3) := by decide +kernel
theorem d_B_pass_14 : decode c_B_pass 14 = .ok (.dup, 1) := by decide +kernel
theorem d_B_pass_15 : decode c_B_pass 15 = .ok (.ldc 136, 2) := by decide +kernel
theorem d_B_pass_17 : decode c_B_pass 17 = .ok (.invokespecial 56, 3) := by decide +kernel
theorem d_B_pass_20 : decode c_B_pass 20 = .ok (.athrow, 1) := by decide +kernel
theorem d_B_pass_21 : decode c_B_pass 21 = .ok (.aload_n 0, 1) := by decide +kernel
theorem d_B_pass_22 : decode c_B_pass 22 = .ok (.getfield 138, 3) := by decide +kernel
theorem d_B_pass_25 : decode c_B_pass 25 = .ok (.iload_n 1, 1) := by decide +kernel
theorem d_B_pass_26 : decode c_B_pass 26 = .ok (.iadd, 1) := by decide +kernel
theorem d_B_pass_27 : decode c_B_pass 27 = .ok (.ldc 141, 2) := by decide +kernel
theorem d_B_pass_29 : decode c_B_pass 29 = .ok (.if_icmp .le 13, 3) := by decide +kernel
theorem d_B_pass_32 : decode c_B_pass 32 = .ok (.new 62, 3) := by decide +kernel
theorem d_B_pass_35 : decode c_B_pass 35 = .ok (.dup, 1) := by decide +kernel
theorem d_B_pass_36 : decode c_B_pass 36 = .ok (.ldc 142, 2) := by decide +kernel
theorem d_B_pass_38 : decode c_B_pass 38 = .ok (.invokespecial 66, 3) := by decide +kernel
theorem d_B_pass_41 : decode c_B_pass 41 = .ok (.athrow, 1) := by decide +kernel
theorem d_B_pass_42 : decode c_B_pass 42 = .ok (.aload_n 0, 1) := by decide +kernel
theorem d_B_pass_43 : decode c_B_pass 43 = .ok (.dup, 1) := by decide +kernel
theorem d_B_pass_44 : decode c_B_pass 44 = .ok (.getfield 138, 3) := by decide +kernel
theorem d_B_pass_47 : decode c_B_pass 47 = .ok (.iload_n 1, 1) := by decide +kernel
theorem d_B_pass_48 : decode c_B_pass 48 = .ok (.iadd, 1) := by decide +kernel
theorem d_B_pass_49 : decode c_B_pass 49 = .ok (.putfield 138, 3) := by decide +kernel
theorem d_B_pass_52 : decode c_B_pass 52 = .ok (.aload_n 0, 1) := by decide +kernel
theorem d_B_pass_53 : decode c_B_pass 53 = .ok (.invokevirtual 144, 3) := by decide +kernel
theorem d_B_pass_56 : decode c_B_pass 56 = .ok (.ireturn, 1) := by decide +kernel
theorem d_B_takeOutOld_0 : decode c_B_takeOutOld 0 = .ok (.iconst 0, 1) := by decide +kernel
theorem d_B_takeOutOld_1 : decode c_B_takeOutOld 1 = .ok (.istore_n 1, 1) := by decide +kernel
theorem d_B_takeOutOld_2 : decode c_B_takeOutOld 2 = .ok (.iconst 0, 1) := by decide +kernel
theorem d_B_takeOutOld_3 : decode c_B_takeOutOld 3 = .ok (.istore_n 2, 1) := by decide +kernel
theorem d_B_takeOutOld_4 : decode c_B_takeOutOld 4 = .ok (.iload_n 2, 1) := by decide +kernel
theorem d_B_takeOutOld_5 : decode c_B_takeOutOld 5 = .ok (.bipush 64, 2) := by decide +kernel
theorem d_B_takeOutOld_7 : decode c_B_takeOutOld 7 = .ok (.if_icmp .ge 42, 3) := by decide +kernel
theorem d_B_takeOutOld_10 : decode c_B_takeOutOld 10 = .ok (.aload_n 0, 1) := by decide +kernel
theorem d_B_takeOutOld_11 : decode c_B_takeOutOld 11 = .ok (.getfield 27, 3) := by decide +kernel
theorem d_B_takeOutOld_14 : decode c_B_takeOutOld 14 = .ok (.iload_n 2, 1) := by decide +kernel
theorem d_B_takeOutOld_15 : decode c_B_takeOutOld 15 = .ok (.invokevirtual 186, 3) := by decide +kernel
theorem d_B_takeOutOld_18 : decode c_B_takeOutOld 18 = .ok (.ifCond .eq 25, 3) := by decide +kernel
theorem d_B_takeOutOld_21 : decode c_B_takeOutOld 21 = .ok (.aload_n 0, 1) := by decide +kernel
theorem d_B_takeOutOld_22 : decode c_B_takeOutOld 22 = .ok (.iload_n 2, 1) := by decide +kernel
theorem d_B_takeOutOld_23 : decode c_B_takeOutOld 23 = .ok (.invokevirtual 189, 3) := by decide +kernel
theorem d_B_takeOutOld_26 : decode c_B_takeOutOld 26 = .ok (.sipush 5000, 3) := by decide +kernel
theorem d_B_takeOutOld_29 : decode c_B_takeOutOld 29 = .ok (.if_icmp .lt 14, 3) := by decide +kernel
theorem d_B_takeOutOld_32 : decode c_B_takeOutOld 32 = .ok (.aload_n 0, 1) := by decide +kernel
theorem d_B_takeOutOld_33 : decode c_B_takeOutOld 33 = .ok (.getfield 27, 3) := by decide +kernel
theorem d_B_takeOutOld_36 : decode c_B_takeOutOld 36 = .ok (.iload_n 2, 1) := by decide +kernel
theorem d_B_takeOutOld_37 : decode c_B_takeOutOld 37 = .ok (.invokevirtual 103, 3) := by decide +kernel
theorem d_B_takeOutOld_40 : decode c_B_takeOutOld 40 = .ok (.iinc 1 1, 3) := by decide +kernel
theorem d_B_takeOutOld_43 : decode c_B_takeOutOld 43 = .ok (.iinc 2 1, 3) := by decide +kernel
theorem d_B_takeOutOld_46 : decode c_B_takeOutOld 46 = .ok (.goto (-42), 3) := by decide +kernel
theorem d_B_takeOutOld_49 : decode c_B_takeOutOld 49 = .ok (.iload_n 1, 1) := by decide +kernel
theorem d_B_takeOutOld_50 : decode c_B_takeOutOld 50 = .ok (.ifCond .le 10, 3) := by decide +kernel
theorem d_B_takeOutOld_53 : decode c_B_takeOutOld 53 = .ok (.aload_n 0, 1) := by decide +kernel
theorem d_B_takeOutOld_54 : decode c_B_takeOutOld 54 = .ok (.getfield 36, 3) := by decide +kernel
theorem d_B_takeOutOld_57 : decode c_B_takeOutOld 57 = .ok (.invokevirtual 224, 3) := by decide +kernel
theorem d_B_takeOutOld_60 : decode c_B_takeOutOld 60 = .ok (.iload_n 1, 1) := by decide +kernel
theorem d_B_takeOutOld_61 : decode c_B_takeOutOld 61 = .ok (.ireturn, 1) := by decide +kernel
theorem d_B_number_0 : decode c_B_number 0 = .ok (.iload_n 1, 1) := by decide +kernel
theorem d_B_number_1 : decode c_B_number 1 = .ok (.invokestatic 161, 3) := by decide +kernel
theorem d_B_number_4 : decode c_B_number 4 = .ok (.aload_n 0, 1) := by decide +kernel
theorem d_B_number_5 : decode c_B_number 5 = .ok (.getfield 27, 3) := by decide +kernel
theorem d_B_number_8 : decode c_B_number 8 = .ok (.getfield 164, 3) := by decide +kernel
theorem d_B_number_11 : decode c_B_number 11 = .ok (.iload_n 1, 1) := by decide +kernel
theorem d_B_number_12 : decode c_B_number 12 = .ok (.iaload, 1) := by decide +kernel
theorem d_B_number_13 : decode c_B_number 13 = .ok (.ireturn, 1) := by decide +kernel
theorem d_B_refuseNoRouter_0 : decode c_B_refuseNoRouter 0 = .ok (.iload_n 0, 1) := by decide +kernel
theorem d_B_refuseNoRouter_1 : decode c_B_refuseNoRouter 1 = .ok (.invokestatic 9, 3) := by decide +kernel
theorem d_B_refuseNoRouter_4 : decode c_B_refuseNoRouter 4 = .ok (.ifCond .ne 13, 3) := by decide +kernel
theorem d_B_refuseNoRouter_7 : decode c_B_refuseNoRouter 7 = .ok (.new 52, 3) := by decide +kernel
theorem d_B_refuseNoRouter_10 : decode c_B_refuseNoRouter 10 = .ok (.dup, 1) := by decide +kernel
theorem d_B_refuseNoRouter_11 : decode c_B_refuseNoRouter 11 = .ok (.ldc 231, 2) := by decide +kernel
theorem d_B_refuseNoRouter_13 : decode c_B_refuseNoRouter 13 = .ok (.invokespecial 56, 3) := by decide +kernel
theorem d_B_refuseNoRouter_16 : decode c_B_refuseNoRouter 16 = .ok (.athrow, 1) := by decide +kernel
theorem d_B_refuseNoRouter_17 : decode c_B_refuseNoRouter 17 = .ok (.return_, 1) := by decide +kernel
theorem d_B_told_0 : decode c_B_told 0 = .ok (.iload_n 1, 1) := by decide +kernel
theorem d_B_told_1 : decode c_B_told 1 = .ok (.invokestatic 9, 3) := by decide +kernel
theorem d_B_told_4 : decode c_B_told 4 = .ok (.ifCond .eq 12, 3) := by decide +kernel
theorem d_B_told_7 : decode c_B_told 7 = .ok (.iload_n 3, 1) := by decide +kernel
theorem d_B_told_8 : decode c_B_told 8 = .ok (.ifCond .lt 8, 3) := by decide +kernel
theorem d_B_told_11 : decode c_B_told 11 = .ok (.iload_n 3, 1) := by decide +kernel
theorem d_B_told_12 : decode c_B_told 12 = .ok (.iconst 2, 1) := by decide +kernel
theorem d_B_told_13 : decode c_B_told 13 = .ok (.if_icmp .le 13, 3) := by decide +kernel
theorem d_B_told_16 : decode c_B_told 16 = .ok (.new 52, 3) := by decide +kernel
theorem d_B_told_19 : decode c_B_told 19 = .ok (.dup, 1) := by decide +kernel
theorem d_B_told_20 : decode c_B_told 20 = .ok (.ldc 167, 2) := by decide +kernel
theorem d_B_told_22 : decode c_B_told 22 = .ok (.invokespecial 56, 3) := by decide +kernel
theorem d_B_told_25 : decode c_B_told 25 = .ok (.athrow, 1) := by decide +kernel
theorem d_B_told_26 : decode c_B_told 26 = .ok (.iload_n 2, 1) := by decide +kernel
theorem d_B_told_27 : decode c_B_told 27 = .ok (.ifCond .lt 16, 3) := by decide +kernel
theorem d_B_told_30 : decode c_B_told 30 = .ok (.iload_n 2, 1) := by decide +kernel
theorem d_B_told_31 : decode c_B_told 31 = .ok (.aload_n 0, 1) := by decide +kernel
theorem d_B_told_32 : decode c_B_told 32 = .ok (.getfield 27, 3) := by decide +kernel
theorem d_B_told_35 : decode c_B_told 35 = .ok (.getfield 123, 3) := by decide +kernel
theorem d_B_told_38 : decode c_B_told 38 = .ok (.iload_n 1, 1) := by decide +kernel
theorem d_B_told_39 : decode c_B_told 39 = .ok (.iaload, 1) := by decide +kernel
theorem d_B_told_40 : decode c_B_told 40 = .ok (.if_icmp .lt 13, 3) := by decide +kernel
theorem d_B_told_43 : decode c_B_told 43 = .ok (.new 169, 3) := by decide +kernel
theorem d_B_told_46 : decode c_B_told 46 = .ok (.dup, 1) := by decide +kernel
theorem d_B_told_47 : decode c_B_told 47 = .ok (.ldc 171, 2) := by decide +kernel
theorem d_B_told_49 : decode c_B_told 49 = .ok (.invokespecial 173, 3) := by decide +kernel
theorem d_B_told_52 : decode c_B_told 52 = .ok (.athrow, 1) := by decide +kernel
theorem d_B_told_53 : decode c_B_told 53 = .ok (.iload_n 1, 1) := by decide +kernel
theorem d_B_told_54 : decode c_B_told 54 = .ok (.iload_n 2, 1) := by decide +kernel
theorem d_B_told_55 : decode c_B_told 55 = .ok (.invokestatic 174, 3) := by decide +kernel
theorem d_B_told_58 : decode c_B_told 58 = .ok (.istore 4, 2) := by decide +kernel
theorem d_B_told_60 : decode c_B_told 60 = .ok (.iload_n 3, 1) := by decide +kernel
theorem d_B_told_61 : decode c_B_told 61 = .ok (.ifCond .ne 14, 3) := by decide +kernel
theorem d_B_told_64 : decode c_B_told 64 = .ok (.aload_n 0, 1) := by decide +kernel
theorem d_B_told_65 : decode c_B_told 65 = .ok (.getfield 27, 3) := by decide +kernel
theorem d_B_told_68 : decode c_B_told 68 = .ok (.getfield 177, 3) := by decide +kernel
theorem d_B_told_71 : decode c_B_told 71 = .ok (.iload 4, 2) := by decide +kernel
theorem d_B_told_73 : decode c_B_told 73 = .ok (.iaload, 1) := by decide +kernel
theorem d_B_told_74 : decode c_B_told 74 = .ok (.ireturn, 1) := by decide +kernel
theorem d_B_told_75 : decode c_B_told 75 = .ok (.iload_n 3, 1) := by decide +kernel
theorem d_B_told_76 : decode c_B_told 76 = .ok (.iconst 1, 1) := by decide +kernel
theorem d_B_told_77 : decode c_B_told 77 = .ok (.if_icmp .ne 16, 3) := by decide +kernel
theorem d_B_told_80 : decode c_B_told 80 = .ok (.aload_n 0, 1) := by decide +kernel
theorem d_B_told_81 : decode c_B_told 81 = .ok (.getfield 27, 3) := by decide +kernel
theorem d_B_told_84 : decode c_B_told 84 = .ok (.getfield 180, 3) := by decide +kernel
theorem d_B_told_87 : decode c_B_told 87 = .ok (.iload 4, 2) := by decide +kernel
theorem d_B_told_89 : decode c_B_told 89 = .ok (.iaload, 1) := by decide +kernel
theorem d_B_told_90 : decode c_B_told 90 = .ok (.goto 13, 3) := by decide +kernel
theorem d_B_told_93 : decode c_B_told 93 = .ok (.aload_n 0, 1) := by decide +kernel
theorem d_B_told_94 : decode c_B_told 94 = .ok (.getfield 27, 3) := by decide +kernel
theorem d_B_told_97 : decode c_B_told 97 = .ok (.getfield 183, 3) := by decide +kernel
theorem d_B_told_100 : decode c_B_told 100 = .ok (.iload 4, 2) := by decide +kernel
theorem d_B_told_102 : decode c_B_told 102 = .ok (.iaload, 1) := by decide +kernel
theorem d_B_told_103 : decode c_B_told 103 = .ok (.ireturn, 1) := by decide +kernel
theorem d_B_entries_0 : decode c_B_entries 0 = .ok (.iload_n 1, 1) := by decide +kernel
theorem d_B_entries_1 : decode c_B_entries 1 = .ok (.invokestatic 161, 3) := by decide +kernel
theorem d_B_entries_4 : decode c_B_entries 4 = .ok (.aload_n 0, 1) := by decide +kernel
theorem d_B_entries_5 : decode c_B_entries 5 = .ok (.getfield 27, 3) := by decide +kernel
theorem d_B_entries_8 : decode c_B_entries 8 = .ok (.iload_n 1, 1) := by decide +kernel
theorem d_B_entries_9 : decode c_B_entries 9 = .ok (.invokevirtual 186, 3) := by decide +kernel
theorem d_B_entries_12 : decode c_B_entries 12 = .ok (.ifCond .eq 15, 3) := by decide +kernel
theorem d_B_entries_15 : decode c_B_entries 15 = .ok (.aload_n 0, 1) := by decide +kernel
theorem d_B_entries_16 : decode c_B_entries 16 = .ok (.getfield 27, 3) := by decide +kernel
theorem d_B_entries_19 : decode c_B_entries 19 = .ok (.getfield 123, 3) := by decide +kernel
theorem d_B_entries_22 : decode c_B_entries 22 = .ok (.iload_n 1, 1) := by decide +kernel
theorem d_B_entries_23 : decode c_B_entries 23 = .ok (.iaload, 1) := by decide +kernel
theorem d_B_entries_24 : decode c_B_entries 24 = .ok (.goto 4, 3) := by decide +kernel
theorem d_B_entries_27 : decode c_B_entries 27 = .ok (.iconst (-1), 1) := by decide +kernel
theorem d_B_entries_28 : decode c_B_entries 28 = .ok (.ireturn, 1) := by decide +kernel
theorem d_B_age_0 : decode c_B_age 0 = .ok (.iload_n 1, 1) := by decide +kernel
theorem d_B_age_1 : decode c_B_age 1 = .ok (.invokestatic 161, 3) := by decide +kernel
theorem d_B_age_4 : decode c_B_age 4 = .ok (.aload_n 0, 1) := by decide +kernel
theorem d_B_age_5 : decode c_B_age 5 = .ok (.getfield 27, 3) := by decide +kernel
theorem d_B_age_8 : decode c_B_age 8 = .ok (.iload_n 1, 1) := by decide +kernel
theorem d_B_age_9 : decode c_B_age 9 = .ok (.invokevirtual 186, 3) := by decide +kernel
theorem d_B_age_12 : decode c_B_age 12 = .ok (.ifCond .eq 11, 3) := by decide +kernel
theorem d_B_age_15 : decode c_B_age 15 = .ok (.aload_n 0, 1) := by decide +kernel
theorem d_B_age_16 : decode c_B_age 16 = .ok (.iload_n 1, 1) := by decide +kernel
theorem d_B_age_17 : decode c_B_age 17 = .ok (.invokevirtual 189, 3) := by decide +kernel
theorem d_B_age_20 : decode c_B_age 20 = .ok (.goto 4, 3) := by decide +kernel
theorem d_B_age_23 : decode c_B_age 23 = .ok (.iconst (-1), 1) := by decide +kernel
theorem d_B_age_24 : decode c_B_age 24 = .ok (.ireturn, 1) := by decide +kernel
theorem d_B_distance_0 : decode c_B_distance 0 = .ok (.iload_n 1, 1) := by decide +kernel
theorem d_B_distance_1 : decode c_B_distance 1 = .ok (.invokestatic 161, 3) := by decide +kernel
theorem d_B_distance_4 : decode c_B_distance 4 = .ok (.aload_n 0, 1) := by decide +kernel
theorem d_B_distance_5 : decode c_B_distance 5 = .ok (.getfield 36, 3) := by decide +kernel
theorem d_B_distance_8 : decode c_B_distance 8 = .ok (.invokevirtual 192, 3) := by decide +kernel
theorem d_B_distance_11 : decode c_B_distance 11 = .ok (.aload_n 0, 1) := by decide +kernel
theorem d_B_distance_12 : decode c_B_distance 12 = .ok (.getfield 36, 3) := by decide +kernel
theorem d_B_distance_15 : decode c_B_distance 15 = .ok (.getfield 195, 3) := by decide +kernel
theorem d_B_distance_18 : decode c_B_distance 18 = .ok (.iload_n 1, 1) := by decide +kernel
theorem d_B_distance_19 : decode c_B_distance 19 = .ok (.iaload, 1) := by decide +kernel
theorem d_B_distance_20 : decode c_B_distance 20 = .ok (.ireturn, 1) := by decide +kernel
theorem d_B_cost_0 : decode c_B_cost 0 = .ok (.iload_n 1, 1) := by decide +kernel
theorem d_B_cost_1 : decode c_B_cost 1 = .ok (.invokestatic 198, 3) := by decide +kernel
theorem d_B_cost_4 : decode c_B_cost 4 = .ok (.aload_n 0, 1) := by decide +kernel
theorem d_B_cost_5 : decode c_B_cost 5 = .ok (.getfield 36, 3) := by decide +kernel
theorem d_B_cost_8 : decode c_B_cost 8 = .ok (.invokevirtual 192, 3) := by decide +kernel
theorem d_B_cost_11 : decode c_B_cost 11 = .ok (.aload_n 0, 1) := by decide +kernel
theorem d_B_cost_12 : decode c_B_cost 12 = .ok (.getfield 36, 3) := by decide +kernel
theorem d_B_cost_15 : decode c_B_cost 15 = .ok (.iload_n 1, 1) := by decide +kernel
theorem d_B_cost_16 : decode c_B_cost 16 = .ok (.invokevirtual 201, 3) := by decide +kernel
theorem d_B_cost_19 : decode c_B_cost 19 = .ok (.ireturn, 1) := by decide +kernel
theorem d_B_refuseNoNet_0 : decode c_B_refuseNoNet 0 = .ok (.iload_n 0, 1) := by decide +kernel
theorem d_B_refuseNoNet_1 : decode c_B_refuseNoNet 1 = .ok (.invokestatic 46, 3) := by decide +kernel
theorem d_B_refuseNoNet_4 : decode c_B_refuseNoNet 4 = .ok (.ifCond .ne 13, 3) := by decide +kernel
theorem d_B_refuseNoNet_7 : decode c_B_refuseNoNet 7 = .ok (.new 52, 3) := by decide +kernel
theorem d_B_refuseNoNet_10 : decode c_B_refuseNoNet 10 = .ok (.dup, 1) := by decide +kernel
theorem d_B_refuseNoNet_11 : decode c_B_refuseNoNet 11 = .ok (.ldc 233, 2) := by decide +kernel
theorem d_B_refuseNoNet_13 : decode c_B_refuseNoNet 13 = .ok (.invokespecial 56, 3) := by decide +kernel
theorem d_B_refuseNoNet_16 : decode c_B_refuseNoNet 16 = .ok (.athrow, 1) := by decide +kernel
theorem d_B_refuseNoNet_17 : decode c_B_refuseNoNet 17 = .ok (.return_, 1) := by decide +kernel
theorem d_B_firsts_0 : decode c_B_firsts 0 = .ok (.iload_n 1, 1) := by decide +kernel
theorem d_B_firsts_1 : decode c_B_firsts 1 = .ok (.invokestatic 198, 3) := by decide +kernel
theorem d_B_firsts_4 : decode c_B_firsts 4 = .ok (.aload_n 0, 1) := by decide +kernel
theorem d_B_firsts_5 : decode c_B_firsts 5 = .ok (.getfield 36, 3) := by decide +kernel
theorem d_B_firsts_8 : decode c_B_firsts 8 = .ok (.invokevirtual 192, 3) := by decide +kernel
theorem d_B_firsts_11 : decode c_B_firsts 11 = .ok (.aload_n 0, 1) := by decide +kernel
theorem d_B_firsts_12 : decode c_B_firsts 12 = .ok (.getfield 36, 3) := by decide +kernel
theorem d_B_firsts_15 : decode c_B_firsts 15 = .ok (.iload_n 1, 1) := by decide +kernel
theorem d_B_firsts_16 : decode c_B_firsts 16 = .ok (.invokevirtual 204, 3) := by decide +kernel
theorem d_B_firsts_19 : decode c_B_firsts 19 = .ok (.invokestatic 207, 3) := by decide +kernel
theorem d_B_firsts_22 : decode c_B_firsts 22 = .ok (.ireturn, 1) := by decide +kernel
theorem d_B_first_0 : decode c_B_first 0 = .ok (.iload_n 1, 1) := by decide +kernel
theorem d_B_first_1 : decode c_B_first 1 = .ok (.invokestatic 198, 3) := by decide +kernel
theorem d_B_first_4 : decode c_B_first 4 = .ok (.aload_n 0, 1) := by decide +kernel
theorem d_B_first_5 : decode c_B_first 5 = .ok (.getfield 36, 3) := by decide +kernel
theorem d_B_first_8 : decode c_B_first 8 = .ok (.invokevirtual 192, 3) := by decide +kernel
theorem d_B_first_11 : decode c_B_first 11 = .ok (.aload_n 0, 1) := by decide +kernel
theorem d_B_first_12 : decode c_B_first 12 = .ok (.getfield 36, 3) := by decide +kernel
theorem d_B_first_15 : decode c_B_first 15 = .ok (.iload_n 1, 1) := by decide +kernel
theorem d_B_first_16 : decode c_B_first 16 = .ok (.invokevirtual 204, 3) := by decide +kernel
theorem d_B_first_19 : decode c_B_first 19 = .ok (.istore_n 3, 1) := by decide +kernel
theorem d_B_first_20 : decode c_B_first 20 = .ok (.iload_n 2, 1) := by decide +kernel
theorem d_B_first_21 : decode c_B_first 21 = .ok (.ifCond .lt 11, 3) := by decide +kernel
theorem d_B_first_24 : decode c_B_first 24 = .ok (.iload_n 2, 1) := by decide +kernel
theorem d_B_first_25 : decode c_B_first 25 = .ok (.iload_n 3, 1) := by decide +kernel
theorem d_B_first_26 : decode c_B_first 26 = .ok (.invokestatic 207, 3) := by decide +kernel
theorem d_B_first_29 : decode c_B_first 29 = .ok (.if_icmp .lt 13, 3) := by decide +kernel
theorem d_B_first_32 : decode c_B_first 32 = .ok (.new 169, 3) := by decide +kernel
theorem d_B_first_35 : decode c_B_first 35 = .ok (.dup, 1) := by decide +kernel
theorem d_B_first_36 : decode c_B_first 36 = .ok (.ldc 212, 2) := by decide +kernel
theorem d_B_first_38 : decode c_B_first 38 = .ok (.invokespecial 173, 3) := by decide +kernel
theorem d_B_first_41 : decode c_B_first 41 = .ok (.athrow, 1) := by decide +kernel
theorem d_B_first_42 : decode c_B_first 42 = .ok (.aload_n 0, 1) := by decide +kernel
theorem d_B_first_43 : decode c_B_first 43 = .ok (.getfield 13, 3) := by decide +kernel
theorem d_B_first_46 : decode c_B_first 46 = .ok (.iload_n 3, 1) := by decide +kernel
theorem d_B_first_47 : decode c_B_first 47 = .ok (.iload_n 2, 1) := by decide +kernel
theorem d_B_first_48 : decode c_B_first 48 = .ok (.invokestatic 214, 3) := by decide +kernel
theorem d_B_first_51 : decode c_B_first 51 = .ok (.invokestatic 174, 3) := by decide +kernel
theorem d_B_first_54 : decode c_B_first 54 = .ok (.istore 4, 2) := by decide +kernel
theorem d_B_first_56 : decode c_B_first 56 = .ok (.aload_n 0, 1) := by decide +kernel
theorem d_B_first_57 : decode c_B_first 57 = .ok (.getfield 27, 3) := by decide +kernel
theorem d_B_first_60 : decode c_B_first 60 = .ok (.getfield 180, 3) := by decide +kernel
theorem d_B_first_63 : decode c_B_first 63 = .ok (.iload 4, 2) := by decide +kernel
theorem d_B_first_65 : decode c_B_first 65 = .ok (.iaload, 1) := by decide +kernel
theorem d_B_first_66 : decode c_B_first 66 = .ok (.aload_n 0, 1) := by decide +kernel
theorem d_B_first_67 : decode c_B_first 67 = .ok (.getfield 27, 3) := by decide +kernel
theorem d_B_first_70 : decode c_B_first 70 = .ok (.getfield 177, 3) := by decide +kernel
theorem d_B_first_73 : decode c_B_first 73 = .ok (.iload 4, 2) := by decide +kernel
theorem d_B_first_75 : decode c_B_first 75 = .ok (.iaload, 1) := by decide +kernel
theorem d_B_first_76 : decode c_B_first 76 = .ok (.invokestatic 78, 3) := by decide +kernel
theorem d_B_first_79 : decode c_B_first 79 = .ok (.ireturn, 1) := by decide +kernel
theorem d_B_placeOfBit_0 : decode c_B_placeOfBit 0 = .ok (.iload_n 0, 1) := by decide +kernel
theorem d_B_placeOfBit_1 : decode c_B_placeOfBit 1 = .ok (.istore_n 2, 1) := by decide +kernel
theorem d_B_placeOfBit_2 : decode c_B_placeOfBit 2 = .ok (.iconst 0, 1) := by decide +kernel
theorem d_B_placeOfBit_3 : decode c_B_placeOfBit 3 = .ok (.istore_n 3, 1) := by decide +kernel
theorem d_B_placeOfBit_4 : decode c_B_placeOfBit 4 = .ok (.iload_n 3, 1) := by decide +kernel
theorem d_B_placeOfBit_5 : decode c_B_placeOfBit 5 = .ok (.iload_n 1, 1) := by decide +kernel
theorem d_B_placeOfBit_6 : decode c_B_placeOfBit 6 = .ok (.if_icmp .ge 15, 3) := by decide +kernel
theorem d_B_placeOfBit_9 : decode c_B_placeOfBit 9 = .ok (.iload_n 2, 1) := by decide +kernel
theorem d_B_placeOfBit_10 : decode c_B_placeOfBit 10 = .ok (.iload_n 2, 1) := by decide +kernel
theorem d_B_placeOfBit_11 : decode c_B_placeOfBit 11 = .ok (.iconst 1, 1) := by decide +kernel
theorem d_B_placeOfBit_12 : decode c_B_placeOfBit 12 = .ok (.isub, 1) := by decide +kernel
theorem d_B_placeOfBit_13 : decode c_B_placeOfBit 13 = .ok (.iand, 1) := by decide +kernel
theorem d_B_placeOfBit_14 : decode c_B_placeOfBit 14 = .ok (.istore_n 2, 1) := by decide +kernel
theorem d_B_placeOfBit_15 : decode c_B_placeOfBit 15 = .ok (.iinc 3 1, 3) := by decide +kernel
theorem d_B_placeOfBit_18 : decode c_B_placeOfBit 18 = .ok (.goto (-14), 3) := by decide +kernel
theorem d_B_placeOfBit_21 : decode c_B_placeOfBit 21 = .ok (.iload_n 2, 1) := by decide +kernel
theorem d_B_placeOfBit_22 : decode c_B_placeOfBit 22 = .ok (.invokestatic 235, 3) := by decide +kernel
theorem d_B_placeOfBit_25 : decode c_B_placeOfBit 25 = .ok (.ireturn, 1) := by decide +kernel
theorem d_M_init_0 : decode c_M_init 0 = .ok (.aload_n 0, 1) := by decide +kernel
theorem d_M_init_1 : decode c_M_init 1 = .ok (.invokespecial 1, 3) := by decide +kernel
theorem d_M_init_4 : decode c_M_init 4 = .ok (.aload_n 0, 1) := by decide +kernel
theorem d_M_init_5 : decode c_M_init 5 = .ok (.bipush 64, 2) := by decide +kernel
theorem d_M_init_7 : decode c_M_init 7 = .ok (.newarray .int, 2) := by decide +kernel
theorem d_M_init_9 : decode c_M_init 9 = .ok (.putfield 7, 3) := by decide +kernel
theorem d_M_init_12 : decode c_M_init 12 = .ok (.aload_n 0, 1) := by decide +kernel
theorem d_M_init_13 : decode c_M_init 13 = .ok (.sipush 4096, 3) := by decide +kernel
theorem d_M_init_16 : decode c_M_init 16 = .ok (.newarray .boolean, 2) := by decide +kernel
theorem d_M_init_18 : decode c_M_init 18 = .ok (.putfield 13, 3) := by decide +kernel
theorem d_M_init_21 : decode c_M_init 21 = .ok (.aload_n 0, 1) := by decide +kernel
theorem d_M_init_22 : decode c_M_init 22 = .ok (.bipush (-10), 2) := by decide +kernel
theorem d_M_init_24 : decode c_M_init 24 = .ok (.putfield 17, 3) := by decide +kernel
theorem d_M_init_27 : decode c_M_init 27 = .ok (.aload_n 0, 1) := by decide +kernel
theorem d_M_init_28 : decode c_M_init 28 = .ok (.bipush 66, 2) := by decide +kernel
theorem d_M_init_30 : decode c_M_init 30 = .ok (.newarray .int, 2) := by decide +kernel
theorem d_M_init_32 : decode c_M_init 32 = .ok (.putfield 21, 3) := by decide +kernel
theorem d_M_init_35 : decode c_M_init 35 = .ok (.aload_n 0, 1) := by decide +kernel
theorem d_M_init_36 : decode c_M_init 36 = .ok (.bipush 66, 2) := by decide +kernel
theorem d_M_init_38 : decode c_M_init 38 = .ok (.newarray .int, 2) := by decide +kernel
theorem d_M_init_40 : decode c_M_init 40 = .ok (.putfield 24, 3) := by decide +kernel
theorem d_M_init_43 : decode c_M_init 43 = .ok (.aload_n 0, 1) := by decide +kernel
theorem d_M_init_44 : decode c_M_init 44 = .ok (.bipush 66, 2) := by decide +kernel
theorem d_M_init_46 : decode c_M_init 46 = .ok (.newarray .int, 2) := by decide +kernel
theorem d_M_init_48 : decode c_M_init 48 = .ok (.putfield 27, 3) := by decide +kernel
theorem d_M_init_51 : decode c_M_init 51 = .ok (.aload_n 0, 1) := by decide +kernel
theorem d_M_init_52 : decode c_M_init 52 = .ok (.sipush 1584, 3) := by decide +kernel
theorem d_M_init_55 : decode c_M_init 55 = .ok (.newarray .int, 2) := by decide +kernel
theorem d_M_init_57 : decode c_M_init 57 = .ok (.putfield 30, 3) := by decide +kernel
theorem d_M_init_60 : decode c_M_init 60 = .ok (.aload_n 0, 1) := by decide +kernel
theorem d_M_init_61 : decode c_M_init 61 = .ok (.sipush 1584, 3) := by decide +kernel
theorem d_M_init_64 : decode c_M_init 64 = .ok (.newarray .int, 2) := by decide +kernel
theorem d_M_init_66 : decode c_M_init 66 = .ok (.putfield 33, 3) := by decide +kernel
theorem d_M_init_69 : decode c_M_init 69 = .ok (.aload_n 0, 1) := by decide +kernel
theorem d_M_init_70 : decode c_M_init 70 = .ok (.sipush 1584, 3) := by decide +kernel
theorem d_M_init_73 : decode c_M_init 73 = .ok (.newarray .int, 2) := by decide +kernel
theorem d_M_init_75 : decode c_M_init 75 = .ok (.putfield 36, 3) := by decide +kernel
theorem d_M_init_78 : decode c_M_init 78 = .ok (.aload_n 0, 1) := by decide +kernel
theorem d_M_init_79 : decode c_M_init 79 = .ok (.sipush 1536, 3) := by decide +kernel
theorem d_M_init_82 : decode c_M_init 82 = .ok (.newarray .boolean, 2) := by decide +kernel
theorem d_M_init_84 : decode c_M_init 84 = .ok (.putfield 39, 3) := by decide +kernel
theorem d_M_init_87 : decode c_M_init 87 = .ok (.aload_n 0, 1) := by decide +kernel
theorem d_M_init_88 : decode c_M_init 88 = .ok (.bipush 64, 2) := by decide +kernel
theorem d_M_init_90 : decode c_M_init 90 = .ok (.newarray .int, 2) := by decide +kernel
theorem d_M_init_92 : decode c_M_init 92 = .ok (.putfield 42, 3) := by decide +kernel
theorem d_M_init_95 : decode c_M_init 95 = .ok (.aload_n 0, 1) := by decide +kernel
theorem d_M_init_96 : decode c_M_init 96 = .ok (.iload_n 1, 1) := by decide +kernel
theorem d_M_init_97 : decode c_M_init 97 = .ok (.ifCond .lt 9, 3) := by decide +kernel
theorem d_M_init_100 : decode c_M_init 100 = .ok (.iload_n 1, 1) := by decide +kernel
theorem d_M_init_101 : decode c_M_init 101 = .ok (.bipush 63, 2) := by decide +kernel
theorem d_M_init_103 : decode c_M_init 103 = .ok (.if_icmp .le 7, 3) := by decide +kernel
theorem d_M_init_106 : decode c_M_init 106 = .ok (.iconst 0, 1) := by decide +kernel
theorem d_M_init_107 : decode c_M_init 107 = .ok (.goto 4, 3) := by decide +kernel
theorem d_M_init_110 : decode c_M_init 110 = .ok (.iload_n 1, 1) := by decide +kernel
theorem d_M_init_111 : decode c_M_init 111 = .ok (.putfield 45, 3) := by decide +kernel
theorem d_M_init_114 : decode c_M_init 114 = .ok (.return_, 1) := by decide +kernel
theorem d_M_thrown_0 : decode c_M_thrown 0 = .ok (.aload_n 0, 1) := by decide +kernel
theorem d_M_thrown_1 : decode c_M_thrown 1 = .ok (.getfield 48, 3) := by decide +kernel
theorem d_M_thrown_4 : decode c_M_thrown 4 = .ok (.ireturn, 1) := by decide +kernel
theorem d_M_port_0 : decode c_M_port 0 = .ok (.aload_n 0, 1) := by decide +kernel
theorem d_M_port_1 : decode c_M_port 1 = .ok (.iload_n 1, 1) := by decide +kernel
theorem d_M_port_2 : decode c_M_port 2 = .ok (.iconst 0, 1) := by decide +kernel
theorem d_M_port_3 : decode c_M_port 3 = .ok (.bipush 63, 2) := by decide +kernel
theorem d_M_port_5 : decode c_M_port 5 = .ok (.invokestatic 51, 3) := by decide +kernel
theorem d_M_port_8 : decode c_M_port 8 = .ok (.ifCond .eq 14, 3) := by decide +kernel
theorem d_M_port_11 : decode c_M_port 11 = .ok (.iload_n 2, 1) := by decide +kernel
theorem d_M_port_12 : decode c_M_port 12 = .ok (.iconst 0, 1) := by decide +kernel
theorem d_M_port_13 : decode c_M_port 13 = .ok (.sipush 1000, 3) := by decide +kernel
theorem d_M_port_16 : decode c_M_port 16 = .ok (.invokestatic 51, 3) := by decide +kernel
theorem d_M_port_19 : decode c_M_port 19 = .ok (.ifCond .ne 7, 3) := by decide +kernel
theorem d_M_port_22 : decode c_M_port 22 = .ok (.iconst 1, 1) := by decide +kernel
theorem d_M_port_23 : decode c_M_port 23 = .ok (.goto 30, 3) := by decide +kernel
theorem d_M_port_26 : decode c_M_port 26 = .ok (.iload_n 2, 1) := by decide +kernel
theorem d_M_port_27 : decode c_M_port 27 = .ok (.ifCond .le 25, 3) := by decide +kernel
theorem d_M_port_30 : decode c_M_port 30 = .ok (.aload_n 0, 1) := by decide +kernel
theorem d_M_port_31 : decode c_M_port 31 = .ok (.getfield 7, 3) := by decide +kernel
theorem d_M_port_34 : decode c_M_port 34 = .ok (.iload_n 1, 1) := by decide +kernel
theorem d_M_port_35 : decode c_M_port 35 = .ok (.iaload, 1) := by decide +kernel
theorem d_M_port_36 : decode c_M_port 36 = .ok (.ifCond .ne 16, 3) := by decide +kernel
theorem d_M_port_39 : decode c_M_port 39 = .ok (.aload_n 0, 1) := by decide +kernel
theorem d_M_port_40 : decode c_M_port 40 = .ok (.invokevirtual 55, 3) := by decide +kernel
theorem d_M_port_43 : decode c_M_port 43 = .ok (.bipush 8, 2) := by decide +kernel
theorem d_M_port_45 : decode c_M_port 45 = .ok (.if_icmp .ne 7, 3) := by decide +kernel
theorem d_M_port_48 : decode c_M_port 48 = .ok (.iconst 2, 1) := by decide +kernel
theorem d_M_port_49 : decode c_M_port 49 = .ok (.goto 4, 3) := by decide +kernel
theorem d_M_port_52 : decode c_M_port 52 = .ok (.iconst 0, 1) := by decide +kernel
theorem d_M_port_53 : decode c_M_port 53 = .ok (.putfield 48, 3) := by decide +kernel
theorem d_M_port_56 : decode c_M_port 56 = .ok (.aload_n 0, 1) := by decide +kernel
theorem d_M_port_57 : decode c_M_port 57 = .ok (.getfield 48, 3) := by decide +kernel
theorem d_M_port_60 : decode c_M_port 60 = .ok (.ifCond .le 5, 3) := by decide +kernel
theorem d_M_port_63 : decode c_M_port 63 = .ok (.iconst 0, 1) := by decide +kernel
theorem d_M_port_64 : decode c_M_port 64 = .ok (.ireturn, 1) := by decide +kernel
theorem d_M_port_65 : decode c_M_port 65 = .ok (.aload_n 0, 1) := by decide +kernel
theorem d_M_port_66 : decode c_M_port 66 = .ok (.getfield 7, 3) := by decide +kernel
theorem d_M_port_69 : decode c_M_port 69 = .ok (.iload_n 1, 1) := by decide +kernel
theorem d_M_port_70 : decode c_M_port 70 = .ok (.iaload, 1) := by decide +kernel
theorem d_M_port_71 : decode c_M_port 71 = .ok (.istore_n 3, 1) := by decide +kernel
theorem d_M_port_72 : decode c_M_port 72 = .ok (.aload_n 0, 1) := by decide +kernel
theorem d_M_port_73 : decode c_M_port 73 = .ok (.getfield 7, 3) := by decide +kernel
theorem d_M_port_76 : decode c_M_port 76 = .ok (.iload_n 1, 1) := by decide +kernel
theorem d_M_port_77 : decode c_M_port 77 = .ok (.iload_n 2, 1) := by decide +kernel
theorem d_M_port_78 : decode c_M_port 78 = .ok (.iastore, 1) := by decide +kernel
theorem d_M_port_79 : decode c_M_port 79 = .ok (.iconst 0, 1) := by decide +kernel
theorem d_M_port_80 : decode c_M_port 80 = .ok (.istore 4, 2) := by decide +kernel
theorem d_M_port_82 : decode c_M_port 82 = .ok (.iload 4, 2) := by decide +kernel
theorem d_M_port_84 : decode c_M_port 84 = .ok (.bipush 64, 2) := by decide +kernel
theorem d_M_port_86 : decode c_M_port 86 = .ok (.if_icmp .ge 26, 3) := by decide +kernel
theorem d_M_port_89 : decode c_M_port 89 = .ok (.iload_n 2, 1) := by decide +kernel
theorem d_M_port_90 : decode c_M_port 90 = .ok (.ifCond .ne 22, 3) := by decide +kernel
theorem d_M_port_93 : decode c_M_port 93 = .ok (.aload_n 0, 1) := by decide +kernel
theorem d_M_port_94 : decode c_M_port 94 = .ok (.getfield 13, 3) := by decide +kernel
theorem d_M_port_97 : decode c_M_port 97 = .ok (.bipush 64, 2) := by decide +kernel
theorem d_M_port_99 : decode c_M_port 99 = .ok (.iload_n 1, 1) := by decide +kernel
theorem d_M_port_100 : decode c_M_port 100 = .ok (.imul, 1) := by decide +kernel
theorem d_M_port_101 : decode c_M_port 101 = .ok (.iload 4, 2) := by decide +kernel
theorem d_M_port_103 : decode c_M_port 103 = .ok (.iadd, 1) := by decide +kernel
theorem d_M_port_104 : decode c_M_port 104 = .ok (.iconst 0, 1) := by decide +kernel
theorem d_M_port_105 : decode c_M_port 105 = .ok (.bastore, 1) := by decide +kernel
theorem d_M_port_106 : decode c_M_port 106 = .ok (.iinc 4 1, 3) := by decide +kernel
theorem d_M_port_109 : decode c_M_port 109 = .ok (.goto (-27), 3) := by decide +kernel
theorem d_M_port_112 : decode c_M_port 112 = .ok (.iload_n 3, 1) := by decide +kernel
theorem d_M_port_113 : decode c_M_port 113 = .ok (.ireturn, 1) := by decide +kernel
theorem d_M_in_0 : decode c_M_in 0 = .ok (.iload_n 0, 1) := by decide +kernel
theorem d_M_in_1 : decode c_M_in 1 = .ok (.iload_n 1, 1) := by decide +kernel
theorem d_M_in_2 : decode c_M_in 2 = .ok (.if_icmp .lt 12, 3) := by decide +kernel
theorem d_M_in_5 : decode c_M_in 5 = .ok (.iload_n 0, 1) := by decide +kernel
theorem d_M_in_6 : decode c_M_in 6 = .ok (.iload_n 2, 1) := by decide +kernel
theorem d_M_in_7 : decode c_M_in 7 = .ok (.if_icmp .gt 7, 3) := by decide +kernel
theorem d_M_in_10 : decode c_M_in 10 = .ok (.iconst 1, 1) := by decide +kernel
theorem d_M_in_11 : decode c_M_in 11 = .ok (.goto 4, 3) := by decide +kernel
theorem d_M_in_14 : decode c_M_in 14 = .ok (.iconst 0, 1) := by decide +kernel
theorem d_M_in_15 : decode c_M_in 15 = .ok (.ireturn, 1) := by decide +kernel
theorem d_M_portCount_0 : decode c_M_portCount 0 = .ok (.iconst 0, 1) := by decide +kernel
theorem d_M_portCount_1 : decode c_M_portCount 1 = .ok (.istore_n 1, 1) := by decide +kernel
theorem d_M_portCount_2 : decode c_M_portCount 2 = .ok (.iconst 0, 1) := by decide +kernel
theorem d_M_portCount_3 : decode c_M_portCount 3 = .ok (.istore_n 2, 1) := by decide +kernel
theorem d_M_portCount_4 : decode c_M_portCount 4 = .ok (.iload_n 2, 1) := by decide +kernel
theorem d_M_portCount_5 : decode c_M_portCount 5 = .ok (.bipush 64, 2) := by decide +kernel
theorem d_M_portCount_7 : decode c_M_portCount 7 = .ok (.if_icmp .ge 26, 3) := by decide +kernel
theorem d_M_portCount_10 : decode c_M_portCount 10 = .ok (.iload_n 1, 1) := by decide +kernel
theorem d_M_portCount_11 : decode c_M_portCount 11 = .ok (.aload_n 0, 1) := by decide +kernel
theorem d_M_portCount_12 : decode c_M_portCount 12 = .ok (.getfield 7, 3) := by decide +kernel
theorem d_M_portCount_15 : decode c_M_portCount 15 = .ok (.iload_n 2, 1) := by decide +kernel
theorem d_M_portCount_16 : decode c_M_portCount 16 = .ok (.iaload, 1) := by decide +kernel
theorem d_M_portCount_17 : decode c_M_portCount 17 = .ok (.ifCond .le 7, 3) := by decide +kernel
theorem d_M_portCount_20 : decode c_M_portCount 20 = .ok (.iconst 1, 1) := by decide +kernel
theorem d_M_portCount_21 : decode c_M_portCount 21 = .ok (.goto 4, 3) := by decide +kernel
theorem d_M_portCount_24 : decode c_M_portCount 24 = .ok (.iconst 0, 1) := by decide +kernel
theorem d_M_portCount_25 : decode c_M_portCount 25 = .ok (.iadd, 1) := by decide +kernel
theorem d_M_portCount_26 : decode c_M_portCount 26 = .ok (.istore_n 1, 1) := by decide +kernel
theorem d_M_portCount_27 : decode c_M_portCount 27 = .ok (.iinc 2 1, 3) := by decide +kernel
theorem d_M_portCount_30 : decode c_M_portCount 30 = .ok (.goto (-26), 3) := by decide +kernel
theorem d_M_portCount_33 : decode c_M_portCount 33 = .ok (.iload_n 1, 1) := by decide +kernel
theorem d_M_portCount_34 : decode c_M_portCount 34 = .ok (.ireturn, 1) := by decide +kernel
theorem d_M_friend_0 : decode c_M_friend 0 = .ok (.aload_n 0, 1) := by decide +kernel
theorem d_M_friend_1 : decode c_M_friend 1 = .ok (.iload_n 1, 1) := by decide +kernel
theorem d_M_friend_2 : decode c_M_friend 2 = .ok (.iconst 0, 1) := by decide +kernel
theorem d_M_friend_3 : decode c_M_friend 3 = .ok (.bipush 63, 2) := by decide +kernel
theorem d_M_friend_5 : decode c_M_friend 5 = .ok (.invokestatic 51, 3) := by decide +kernel
theorem d_M_friend_8 : decode c_M_friend 8 = .ok (.ifCond .eq 21, 3) := by decide +kernel
theorem d_M_friend_11 : decode c_M_friend 11 = .ok (.iload_n 2, 1) := by decide +kernel
theorem d_M_friend_12 : decode c_M_friend 12 = .ok (.iconst 0, 1) := by decide +kernel
theorem d_M_friend_13 : decode c_M_friend 13 = .ok (.bipush 63, 2) := by decide +kernel
theorem d_M_friend_15 : decode c_M_friend 15 = .ok (.invokestatic 51, 3) := by decide +kernel
theorem d_M_friend_18 : decode c_M_friend 18 = .ok (.ifCond .eq 11, 3) := by decide +kernel
theorem d_M_friend_21 : decode c_M_friend 21 = .ok (.iload_n 1, 1) := by decide +kernel
theorem d_M_friend_22 : decode c_M_friend 22 = .ok (.aload_n 0, 1) := by decide +kernel
theorem d_M_friend_23 : decode c_M_friend 23 = .ok (.getfield 45, 3) := by decide +kernel
theorem d_M_friend_26 : decode c_M_friend 26 = .ok (.if_icmp .ne 7, 3) := by decide +kernel
theorem d_M_friend_29 : decode c_M_friend 29 = .ok (.iconst 1, 1) := by decide +kernel
theorem d_M_friend_30 : decode c_M_friend 30 = .ok (.goto 4, 3) := by decide +kernel
theorem d_M_friend_33 : decode c_M_friend 33 = .ok (.iconst 0, 1) := by decide +kernel
theorem d_M_friend_34 : decode c_M_friend 34 = .ok (.putfield 48, 3) := by decide +kernel
theorem d_M_friend_37 : decode c_M_friend 37 = .ok (.aload_n 0, 1) := by decide +kernel
theorem d_M_friend_38 : decode c_M_friend 38 = .ok (.getfield 48, 3) := by decide +kernel
theorem d_M_friend_41 : decode c_M_friend 41 = .ok (.ifCond .le 5, 3) := by decide +kernel
theorem d_M_friend_44 : decode c_M_friend 44 = .ok (.iconst 0, 1) := by decide +kernel
theorem d_M_friend_45 : decode c_M_friend 45 = .ok (.ireturn, 1) := by decide +kernel
theorem d_M_friend_46 : decode c_M_friend 46 = .ok (.aload_n 0, 1) := by decide +kernel
theorem d_M_friend_47 : decode c_M_friend 47 = .ok (.getfield 13, 3) := by decide +kernel
theorem d_M_friend_50 : decode c_M_friend 50 = .ok (.bipush 64, 2) := by decide +kernel
theorem d_M_friend_52 : decode c_M_friend 52 = .ok (.iload_n 2, 1) := by decide +kernel
theorem d_M_friend_53 : decode c_M_friend 53 = .ok (.imul, 1) := by decide +kernel
theorem d_M_friend_54 : decode c_M_friend 54 = .ok (.iload_n 1, 1) := by decide +kernel
theorem d_M_friend_55 : decode c_M_friend 55 = .ok (.iadd, 1) := by decide +kernel
theorem d_M_friend_56 : decode c_M_friend 56 = .ok (.baload, 1) := by decide +kernel
theorem d_M_friend_57 : decode c_M_friend 57 = .ok (.istore 4, 2) := by decide +kernel
theorem d_M_friend_59 : decode c_M_friend 59 = .ok (.aload_n 0, 1) := by decide +kernel
theorem d_M_friend_60 : decode c_M_friend 60 = .ok (.aload_n 0, 1) := by decide +kernel
theorem d_M_friend_61 : decode c_M_friend 61 = .ok (.getfield 7, 3) := by decide +kernel
theorem d_M_friend_64 : decode c_M_friend 64 = .ok (.iload_n 2, 1) := by decide +kernel
theorem d_M_friend_65 : decode c_M_friend 65 = .ok (.iaload, 1) := by decide +kernel
theorem d_M_friend_66 : decode c_M_friend 66 = .ok (.ifCond .eq 21, 3) := by decide +kernel
theorem d_M_friend_69 : decode c_M_friend 69 = .ok (.iload_n 3, 1) := by decide +kernel
theorem d_M_friend_70 : decode c_M_friend 70 = .ok (.ifCond .eq 21, 3) := by decide +kernel
theorem d_M_friend_73 : decode c_M_friend 73 = .ok (.iload 4, 2) := by decide +kernel
theorem d_M_friend_75 : decode c_M_friend 75 = .ok (.ifCond .ne 16, 3) := by decide +kernel
theorem d_M_friend_78 : decode c_M_friend 78 = .ok (.aload_n 0, 1) := by decide +kernel
theorem d_M_friend_79 : decode c_M_friend 79 = .ok (.invokevirtual 59, 3) := by decide +kernel
theorem d_M_friend_82 : decode c_M_friend 82 = .ok (.bipush 16, 2) := by decide +kernel
theorem d_M_friend_84 : decode c_M_friend 84 = .ok (.if_icmp .ne 7, 3) := by decide +kernel
theorem d_M_friend_87 : decode c_M_friend 87 = .ok (.iconst 2, 1) := by decide +kernel
theorem d_M_friend_88 : decode c_M_friend 88 = .ok (.goto 4, 3) := by decide +kernel
theorem d_M_friend_91 : decode c_M_friend 91 = .ok (.iconst 0, 1) := by decide +kernel
theorem d_M_friend_92 : decode c_M_friend 92 = .ok (.putfield 48, 3) := by decide +kernel
theorem d_M_friend_95 : decode c_M_friend 95 = .ok (.aload_n 0, 1) := by decide +kernel
theorem d_M_friend_96 : decode c_M_friend 96 = .ok (.getfield 48, 3) := by decide +kernel
theorem d_M_friend_99 : decode c_M_friend 99 = .ok (.ifCond .le 5, 3) := by decide +kernel
theorem d_M_friend_102 : decode c_M_friend 102 = .ok (.iconst 0, 1) := by decide +kernel
theorem d_M_friend_103 : decode c_M_friend 103 = .ok (.ireturn, 1) := by decide +kernel
theorem d_M_friend_104 : decode c_M_friend 104 = .ok (.aload_n 0, 1) := by decide +kernel
theorem d_M_friend_105 : decode c_M_friend 105 = .ok (.getfield 13, 3) := by decide +kernel
theorem d_M_friend_108 : decode c_M_friend 108 = .ok (.bipush 64, 2) := by decide +kernel
theorem d_M_friend_110 : decode c_M_friend 110 = .ok (.iload_n 2, 1) := by decide +kernel
theorem d_M_friend_111 : decode c_M_friend 111 = .ok (.imul, 1) := by decide +kernel
theorem d_M_friend_112 : decode c_M_friend 112 = .ok (.iload_n 1, 1) := by decide +kernel
theorem d_M_friend_113 : decode c_M_friend 113 = .ok (.iadd, 1) := by decide +kernel
theorem d_M_friend_114 : decode c_M_friend 114 = .ok (.iload_n 3, 1) := by decide +kernel
theorem d_M_friend_115 : decode c_M_friend 115 = .ok (.bastore, 1) := by decide +kernel
theorem d_M_friend_116 : decode c_M_friend 116 = .ok (.iload 4, 2) := by decide +kernel
theorem d_M_friend_118 : decode c_M_friend 118 = .ok (.iload_n 3, 1) := by decide +kernel
theorem d_M_friend_119 : decode c_M_friend 119 = .ok (.if_icmp .eq 7, 3) := by decide +kernel
theorem d_M_friend_122 : decode c_M_friend 122 = .ok (.iconst 1, 1) := by decide +kernel
theorem d_M_friend_123 : decode c_M_friend 123 = .ok (.goto 4, 3) := by decide +kernel
theorem d_M_friend_126 : decode c_M_friend 126 = .ok (.iconst 0, 1) := by decide +kernel
theorem d_M_friend_127 : decode c_M_friend 127 = .ok (.ireturn, 1) := by decide +kernel
theorem d_M_friendCount_0 : decode c_M_friendCount 0 = .ok (.iconst 0, 1) := by decide +kernel
theorem d_M_friendCount_1 : decode c_M_friendCount 1 = .ok (.istore_n 1, 1) := by decide +kernel
theorem d_M_friendCount_2 : decode c_M_friendCount 2 = .ok (.iconst 0, 1) := by decide +kernel
theorem d_M_friendCount_3 : decode c_M_friendCount 3 = .ok (.istore_n 2, 1) := by decide +kernel
theorem d_M_friendCount_4 : decode c_M_friendCount 4 = .ok (.iload_n 2, 1) := by decide +kernel
theorem d_M_friendCount_5 : decode c_M_friendCount 5 = .ok (.sipush 4096, 3) := by decide +kernel
theorem d_M_friendCount_8 : decode c_M_friendCount 8 = .ok (.if_icmp .ge 26, 3) := by decide +kernel
theorem d_M_friendCount_11 : decode c_M_friendCount 11 = .ok (.iload_n 1, 1) := by decide +kernel
theorem d_M_friendCount_12 : decode c_M_friendCount 12 = .ok (.aload_n 0, 1) := by decide +kernel
theorem d_M_friendCount_13 : decode c_M_friendCount 13 = .ok (.getfield 13, 3) := by decide +kernel
theorem d_M_friendCount_16 : decode c_M_friendCount 16 = .ok (.iload_n 2, 1) := by decide +kernel
theorem d_M_friendCount_17 : decode c_M_friendCount 17 = .ok (.baload, 1) := by decide +kernel
theorem d_M_friendCount_18 : decode c_M_friendCount 18 = .ok (.ifCond .eq 7, 3) := by decide +kernel
theorem d_M_friendCount_21 : decode c_M_friendCount 21 = .ok (.iconst 1, 1) := by decide +kernel
theorem d_M_friendCount_22 : decode c_M_friendCount 22 = .ok (.goto 4, 3) := by decide +kernel
theorem d_M_friendCount_25 : decode c_M_friendCount 25 = .ok (.iconst 0, 1) := by decide +kernel
theorem d_M_friendCount_26 : decode c_M_friendCount 26 = .ok (.iadd, 1) := by decide +kernel
theorem d_M_friendCount_27 : decode c_M_friendCount 27 = .ok (.istore_n 1, 1) := by decide +kernel
theorem d_M_friendCount_28 : decode c_M_friendCount 28 = .ok (.iinc 2 1, 3) := by decide +kernel
theorem d_M_friendCount_31 : decode c_M_friendCount 31 = .ok (.goto (-27), 3) := by decide +kernel
theorem d_M_friendCount_34 : decode c_M_friendCount 34 = .ok (.iload_n 1, 1) := by decide +kernel
theorem d_M_friendCount_35 : decode c_M_friendCount 35 = .ok (.ireturn, 1) := by decide +kernel
theorem d_M_begin_0 : decode c_M_begin 0 = .ok (.aload_n 0, 1) := by decide +kernel
theorem d_M_begin_1 : decode c_M_begin 1 = .ok (.iload_n 1, 1) := by decide +kernel
theorem d_M_begin_2 : decode c_M_begin 2 = .ok (.iconst 0, 1) := by decide +kernel
theorem d_M_begin_3 : decode c_M_begin 3 = .ok (.bipush 63, 2) := by decide +kernel
theorem d_M_begin_5 : decode c_M_begin 5 = .ok (.invokestatic 51, 3) := by decide +kernel
theorem d_M_begin_8 : decode c_M_begin 8 = .ok (.ifCond .eq 17, 3) := by decide +kernel
theorem d_M_begin_11 : decode c_M_begin 11 = .ok (.iload_n 2, 1) := by decide +kernel
theorem d_M_begin_12 : decode c_M_begin 12 = .ok (.iconst 1, 1) := by decide +kernel
theorem d_M_begin_13 : decode c_M_begin 13 = .ok (.ldc 66, 2) := by decide +kernel
theorem d_M_begin_15 : decode c_M_begin 15 = .ok (.invokestatic 51, 3) := by decide +kernel
theorem d_M_begin_18 : decode c_M_begin 18 = .ok (.ifCond .eq 7, 3) := by decide +kernel
theorem d_M_begin_21 : decode c_M_begin 21 = .ok (.iconst 0, 1) := by decide +kernel
theorem d_M_begin_22 : decode c_M_begin 22 = .ok (.goto 4, 3) := by decide +kernel
theorem d_M_begin_25 : decode c_M_begin 25 = .ok (.iconst 1, 1) := by decide +kernel
theorem d_M_begin_26 : decode c_M_begin 26 = .ok (.putfield 48, 3) := by decide +kernel
theorem d_M_begin_29 : decode c_M_begin 29 = .ok (.aload_n 0, 1) := by decide +kernel
theorem d_M_begin_30 : decode c_M_begin 30 = .ok (.getfield 48, 3) := by decide +kernel
theorem d_M_begin_33 : decode c_M_begin 33 = .ok (.ifCond .ne 24, 3) := by decide +kernel
theorem d_M_begin_36 : decode c_M_begin 36 = .ok (.aload_n 0, 1) := by decide +kernel
theorem d_M_begin_37 : decode c_M_begin 37 = .ok (.iload_n 1, 1) := by decide +kernel
theorem d_M_begin_38 : decode c_M_begin 38 = .ok (.putfield 67, 3) := by decide +kernel
theorem d_M_begin_41 : decode c_M_begin 41 = .ok (.aload_n 0, 1) := by decide +kernel
theorem d_M_begin_42 : decode c_M_begin 42 = .ok (.getfield 21, 3) := by decide +kernel
theorem d_M_begin_45 : decode c_M_begin 45 = .ok (.bipush 64, 2) := by decide +kernel
theorem d_M_begin_47 : decode c_M_begin 47 = .ok (.iload_n 2, 1) := by decide +kernel
theorem d_M_begin_48 : decode c_M_begin 48 = .ok (.iastore, 1) := by decide +kernel
theorem d_M_begin_49 : decode c_M_begin 49 = .ok (.aload_n 0, 1) := by decide +kernel
theorem d_M_begin_50 : decode c_M_begin 50 = .ok (.getfield 27, 3) := by decide +kernel
theorem d_M_begin_53 : decode c_M_begin 53 = .ok (.bipush 64, 2) := by decide +kernel
theorem d_M_begin_55 : decode c_M_begin 55 = .ok (.iconst 0, 1) := by decide +kernel
theorem d_M_begin_56 : decode c_M_begin 56 = .ok (.iastore, 1) := by decide +kernel
theorem d_M_begin_57 : decode c_M_begin 57 = .ok (.return_, 1) := by decide +kernel
theorem d_M_entry_0 : decode c_M_entry 0 = .ok (.iload_n 1, 1) := by decide +kernel
theorem d_M_entry_1 : decode c_M_entry 1 = .ok (.iconst (-1), 1) := by decide +kernel
theorem d_M_entry_2 : decode c_M_entry 2 = .ok (.bipush 63, 2) := by decide +kernel
theorem d_M_entry_4 : decode c_M_entry 4 = .ok (.invokestatic 51, 3) := by decide +kernel
theorem d_M_entry_7 : decode c_M_entry 7 = .ok (.ifCond .eq 46, 3) := by decide +kernel
theorem d_M_entry_10 : decode c_M_entry 10 = .ok (.iload_n 2, 1) := by decide +kernel
theorem d_M_entry_11 : decode c_M_entry 11 = .ok (.iconst 0, 1) := by decide +kernel
theorem d_M_entry_12 : decode c_M_entry 12 = .ok (.bipush 63, 2) := by decide +kernel
theorem d_M_entry_14 : decode c_M_entry 14 = .ok (.invokestatic 51, 3) := by decide +kernel
theorem d_M_entry_17 : decode c_M_entry 17 = .ok (.ifCond .eq 36, 3) := by decide +kernel
theorem d_M_entry_20 : decode c_M_entry 20 = .ok (.iload_n 3, 1) := by decide +kernel
theorem d_M_entry_21 : decode c_M_entry 21 = .ok (.iconst 1, 1) := by decide +kernel
theorem d_M_entry_22 : decode c_M_entry 22 = .ok (.sipush 1000, 3) := by decide +kernel
theorem d_M_entry_25 : decode c_M_entry 25 = .ok (.invokestatic 51, 3) := by decide +kernel
theorem d_M_entry_28 : decode c_M_entry 28 = .ok (.ifCond .eq 25, 3) := by decide +kernel
theorem d_M_entry_31 : decode c_M_entry 31 = .ok (.aload_n 0, 1) := by decide +kernel
theorem d_M_entry_32 : decode c_M_entry 32 = .ok (.getfield 21, 3) := by decide +kernel
theorem d_M_entry_35 : decode c_M_entry 35 = .ok (.bipush 64, 2) := by decide +kernel
theorem d_M_entry_37 : decode c_M_entry 37 = .ok (.iaload, 1) := by decide +kernel
theorem d_M_entry_38 : decode c_M_entry 38 = .ok (.ifCond .eq 11, 3) := by decide +kernel
theorem d_M_entry_41 : decode c_M_entry 41 = .ok (.iload_n 1, 1) := by decide +kernel
theorem d_M_entry_42 : decode c_M_entry 42 = .ok (.aload_n 0, 1) := by decide +kernel
theorem d_M_entry_43 : decode c_M_entry 43 = .ok (.getfield 67, 3) := by decide +kernel
theorem d_M_entry_46 : decode c_M_entry 46 = .ok (.if_icmp .eq 7, 3) := by decide +kernel
theorem d_M_entry_49 : decode c_M_entry 49 = .ok (.iconst 1, 1) := by decide +kernel
theorem d_M_entry_50 : decode c_M_entry 50 = .ok (.goto 4, 3) := by decide +kernel
theorem d_M_entry_53 : decode c_M_entry 53 = .ok (.iconst 0, 1) := by decide +kernel
theorem d_M_entry_54 : decode c_M_entry 54 = .ok (.istore 4, 2) := by decide +kernel
theorem d_M_entry_56 : decode c_M_entry 56 = .ok (.aload_n 0, 1) := by decide +kernel
theorem d_M_entry_57 : decode c_M_entry 57 = .ok (.iload 4, 2) := by decide +kernel
theorem d_M_entry_59 : decode c_M_entry 59 = .ok (.ifCond .ne 7, 3) := by decide +kernel
theorem d_M_entry_62 : decode c_M_entry 62 = .ok (.iconst 1, 1) := by decide +kernel
theorem d_M_entry_63 : decode c_M_entry 63 = .ok (.goto 41, 3) := by decide +kernel
theorem d_M_entry_66 : decode c_M_entry 66 = .ok (.aload_n 0, 1) := by decide +kernel
theorem d_M_entry_67 : decode c_M_entry 67 = .ok (.getfield 21, 3) := by decide +kernel
theorem d_M_entry_70 : decode c_M_entry 70 = .ok (.bipush 64, 2) := by decide +kernel
theorem d_M_entry_72 : decode c_M_entry 72 = .ok (.iaload, 1) := by decide +kernel
theorem d_M_entry_73 : decode c_M_entry 73 = .ok (.ifCond .eq 26, 3) := by decide +kernel
theorem d_M_entry_76 : decode c_M_entry 76 = .ok (.aload_n 0, 1) := by decide +kernel
theorem d_M_entry_77 : decode c_M_entry 77 = .ok (.getfield 27, 3) := by decide +kernel
theorem d_M_entry_80 : decode c_M_entry 80 = .ok (.bipush 64, 2) := by decide +kernel
theorem d_M_entry_82 : decode c_M_entry 82 = .ok (.iaload, 1) := by decide +kernel
theorem d_M_entry_83 : decode c_M_entry 83 = .ok (.bipush 24, 2) := by decide +kernel
theorem d_M_entry_85 : decode c_M_entry 85 = .ok (.if_icmp .eq 14, 3) := by decide +kernel
theorem d_M_entry_88 : decode c_M_entry 88 = .ok (.aload_n 0, 1) := by decide +kernel
theorem d_M_entry_89 : decode c_M_entry 89 = .ok (.bipush 64, 2) := by decide +kernel
theorem d_M_entry_91 : decode c_M_entry 91 = .ok (.iload_n 1, 1) := by decide +kernel
theorem d_M_entry_92 : decode c_M_entry 92 = .ok (.iload_n 2, 1) := by decide +kernel
theorem d_M_entry_93 : decode c_M_entry 93 = .ok (.invokevirtual 70, 3) := by decide +kernel
theorem d_M_entry_96 : decode c_M_entry 96 = .ok (.ifCond .lt 7, 3) := by decide +kernel
theorem d_M_entry_99 : decode c_M_entry 99 = .ok (.iconst 2, 1) := by decide +kernel
theorem d_M_entry_100 : decode c_M_entry 100 = .ok (.goto 4, 3) := by decide +kernel
theorem d_M_entry_103 : decode c_M_entry 103 = .ok (.iconst 0, 1) := by decide +kernel
theorem d_M_entry_104 : decode c_M_entry 104 = .ok (.putfield 48, 3) := by decide +kernel
theorem d_M_entry_107 : decode c_M_entry 107 = .ok (.aload_n 0, 1) := by decide +kernel
theorem d_M_entry_108 : decode c_M_entry 108 = .ok (.getfield 48, 3) := by decide +kernel
theorem d_M_entry_111 : decode c_M_entry 111 = .ok (.ifCond .le 5, 3) := by decide +kernel
theorem d_M_entry_114 : decode c_M_entry 114 = .ok (.iconst 0, 1) := by decide +kernel
theorem d_M_entry_115 : decode c_M_entry 115 = .ok (.ireturn, 1) := by decide +kernel
theorem d_M_entry_116 : decode c_M_entry 116 = .ok (.aload_n 0, 1) := by decide +kernel
theorem d_M_entry_117 : decode c_M_entry 117 = .ok (.bipush 64, 2) := by decide +kernel
theorem d_M_entry_119 : decode c_M_entry 119 = .ok (.iload_n 1, 1) := by decide +kernel
theorem d_M_entry_120 : decode c_M_entry 120 = .ok (.iload_n 2, 1) := by decide +kernel
theorem d_M_entry_121 : decode c_M_entry 121 = .ok (.iload_n 3, 1) := by decide +kernel
theorem d_M_entry_122 : decode c_M_entry 122 = .ok (.invokevirtual 62, 3) := by decide +kernel
theorem d_M_entry_125 : decode c_M_entry 125 = .ok (.aload_n 0, 1) := by decide +kernel
theorem d_M_entry_126 : decode c_M_entry 126 = .ok (.getfield 27, 3) := by decide +kernel
theorem d_M_entry_129 : decode c_M_entry 129 = .ok (.bipush 64, 2) := by decide +kernel
theorem d_M_entry_131 : decode c_M_entry 131 = .ok (.iaload, 1) := by decide +kernel
theorem d_M_entry_132 : decode c_M_entry 132 = .ok (.ireturn, 1) := by decide +kernel
theorem d_M_find_0 : decode c_M_find 0 = .ok (.iconst (-1), 1) := by decide +kernel
theorem d_M_find_1 : decode c_M_find 1 = .ok (.istore 4, 2) := by decide +kernel
theorem d_M_find_3 : decode c_M_find 3 = .ok (.bipush 24, 2) := by decide +kernel
theorem d_M_find_5 : decode c_M_find 5 = .ok (.iload_n 1, 1) := by decide +kernel
theorem d_M_find_6 : decode c_M_find 6 = .ok (.imul, 1) := by decide +kernel
theorem d_M_find_7 : decode c_M_find 7 = .ok (.istore 5, 2) := by decide +kernel
theorem d_M_find_9 : decode c_M_find 9 = .ok (.iload 5, 2) := by decide +kernel
theorem d_M_find_11 : decode c_M_find 11 = .ok (.bipush 24, 2) := by decide +kernel
theorem d_M_find_13 : decode c_M_find 13 = .ok (.iload_n 1, 1) := by decide +kernel
theorem d_M_find_14 : decode c_M_find 14 = .ok (.imul, 1) := by decide +kernel
theorem d_M_find_15 : decode c_M_find 15 = .ok (.aload_n 0, 1) := by decide +kernel
theorem d_M_find_16 : decode c_M_find 16 = .ok (.getfield 27, 3) := by decide +kernel
theorem d_M_find_19 : decode c_M_find 19 = .ok (.iload_n 1, 1) := by decide +kernel
theorem d_M_find_20 : decode c_M_find 20 = .ok (.iaload, 1) := by decide +kernel
theorem d_M_find_21 : decode c_M_find 21 = .ok (.iadd, 1) := by decide +kernel
theorem d_M_find_22 : decode c_M_find 22 = .ok (.if_icmp .ge 40, 3) := by decide +kernel
theorem d_M_find_25 : decode c_M_find 25 = .ok (.aload_n 0, 1) := by decide +kernel
theorem d_M_find_26 : decode c_M_find 26 = .ok (.getfield 30, 3) := by decide +kernel
theorem d_M_find_29 : decode c_M_find 29 = .ok (.iload 5, 2) := by decide +kernel
theorem d_M_find_31 : decode c_M_find 31 = .ok (.iaload, 1) := by decide +kernel
theorem d_M_find_32 : decode c_M_find 32 = .ok (.iload_n 2, 1) := by decide +kernel
theorem d_M_find_33 : decode c_M_find 33 = .ok (.if_icmp .ne 19, 3) := by decide +kernel
theorem d_M_find_36 : decode c_M_find 36 = .ok (.aload_n 0, 1) := by decide +kernel
theorem d_M_find_37 : decode c_M_find 37 = .ok (.getfield 33, 3) := by decide +kernel
theorem d_M_find_40 : decode c_M_find 40 = .ok (.iload 5, 2) := by decide +kernel
theorem d_M_find_42 : decode c_M_find 42 = .ok (.iaload, 1) := by decide +kernel
theorem d_M_find_43 : decode c_M_find 43 = .ok (.iload_n 3, 1) := by decide +kernel
theorem d_M_find_44 : decode c_M_find 44 = .ok (.if_icmp .ne 8, 3) := by decide +kernel
theorem d_M_find_47 : decode c_M_find 47 = .ok (.iload 5, 2) := by decide +kernel
theorem d_M_find_49 : decode c_M_find 49 = .ok (.goto 5, 3) := by decide +kernel
theorem d_M_find_52 : decode c_M_find 52 = .ok (.iload 4, 2) := by decide +kernel
theorem d_M_find_54 : decode c_M_find 54 = .ok (.istore 4, 2) := by decide +kernel
theorem d_M_find_56 : decode c_M_find 56 = .ok (.iinc 5 1, 3) := by decide +kernel
theorem d_M_find_59 : decode c_M_find 59 = .ok (.goto (-50), 3) := by decide +kernel
theorem d_M_find_62 : decode c_M_find 62 = .ok (.iload 4, 2) := by decide +kernel
theorem d_M_find_64 : decode c_M_find 64 = .ok (.ireturn, 1) := by decide +kernel
theorem d_M_add_0 : decode c_M_add 0 = .ok (.bipush 24, 2) := by decide +kernel
theorem d_M_add_2 : decode c_M_add 2 = .ok (.iload_n 1, 1) := by decide +kernel
theorem d_M_add_3 : decode c_M_add 3 = .ok (.imul, 1) := by decide +kernel
theorem d_M_add_4 : decode c_M_add 4 = .ok (.aload_n 0, 1) := by decide +kernel
theorem d_M_add_5 : decode c_M_add 5 = .ok (.getfield 27, 3) := by decide +kernel
theorem d_M_add_8 : decode c_M_add 8 = .ok (.iload_n 1, 1) := by decide +kernel
theorem d_M_add_9 : decode c_M_add 9 = .ok (.iaload, 1) := by decide +kernel
theorem d_M_add_10 : decode c_M_add 10 = .ok (.iadd, 1) := by decide +kernel
theorem d_M_add_11 : decode c_M_add 11 = .ok (.istore 5, 2) := by decide +kernel
theorem d_M_add_13 : decode c_M_add 13 = .ok (.aload_n 0, 1) := by decide +kernel
theorem d_M_add_14 : decode c_M_add 14 = .ok (.getfield 30, 3) := by decide +kernel
theorem d_M_add_17 : decode c_M_add 17 = .ok (.iload 5, 2) := by decide +kernel
theorem d_M_add_19 : decode c_M_add 19 = .ok (.iload_n 2, 1) := by decide +kernel
theorem d_M_add_20 : decode c_M_add 20 = .ok (.iastore, 1) := by decide +kernel
theorem d_M_add_21 : decode c_M_add 21 = .ok (.aload_n 0, 1) := by decide +kernel
theorem d_M_add_22 : decode c_M_add 22 = .ok (.getfield 33, 3) := by decide +kernel
theorem d_M_add_25 : decode c_M_add 25 = .ok (.iload 5, 2) := by decide +kernel
theorem d_M_add_27 : decode c_M_add 27 = .ok (.iload_n 3, 1) := by decide +kernel
theorem d_M_add_28 : decode c_M_add 28 = .ok (.iastore, 1) := by decide +kernel
theorem d_M_add_29 : decode c_M_add 29 = .ok (.aload_n 0, 1) := by decide +kernel
theorem d_M_add_30 : decode c_M_add 30 = .ok (.getfield 36, 3) := by decide +kernel
theorem d_M_add_33 : decode c_M_add 33 = .ok (.iload 5, 2) := by decide +kernel
theorem d_M_add_35 : decode c_M_add 35 = .ok (.iload 4, 2) := by decide +kernel
theorem d_M_add_37 : decode c_M_add 37 = .ok (.iastore, 1) := by decide +kernel
theorem d_M_add_38 : decode c_M_add 38 = .ok (.aload_n 0, 1) := by decide +kernel
theorem d_M_add_39 : decode c_M_add 39 = .ok (.getfield 27, 3) := by decide +kernel
theorem d_M_add_42 : decode c_M_add 42 = .ok (.iload_n 1, 1) := by decide +kernel
theorem d_M_add_43 : decode c_M_add 43 = .ok (.dup2, 1) := by decide +kernel
theorem d_M_add_44 : decode c_M_add 44 = .ok (.iaload, 1) := by decide +kernel
theorem d_M_add_45 : decode c_M_add 45 = .ok (.iconst 1, 1) := by decide +kernel
theorem d_M_add_46 : decode c_M_add 46 = .ok (.iadd, 1) := by decide +kernel
theorem d_M_add_47 : decode c_M_add 47 = .ok (.iastore, 1) := by decide +kernel
theorem d_M_add_48 : decode c_M_add 48 = .ok (.return_, 1) := by decide +kernel
theorem d_M_come_0 : decode c_M_come 0 = .ok (.aload_n 0, 1) := by decide +kernel
theorem d_M_come_1 : decode c_M_come 1 = .ok (.aload_n 0, 1) := by decide +kernel
theorem d_M_come_2 : decode c_M_come 2 = .ok (.getfield 21, 3) := by decide +kernel
theorem d_M_come_5 : decode c_M_come 5 = .ok (.bipush 64, 2) := by decide +kernel
theorem d_M_come_7 : decode c_M_come 7 = .ok (.iaload, 1) := by decide +kernel
theorem d_M_come_8 : decode c_M_come 8 = .ok (.ifCond .ne 7, 3) := by decide +kernel
theorem d_M_come_11 : decode c_M_come 11 = .ok (.iconst 1, 1) := by decide +kernel
theorem d_M_come_12 : decode c_M_come 12 = .ok (.goto 4, 3) := by decide +kernel
theorem d_M_come_15 : decode c_M_come 15 = .ok (.iconst 0, 1) := by decide +kernel
theorem d_M_come_16 : decode c_M_come 16 = .ok (.putfield 48, 3) := by decide +kernel
theorem d_M_come_19 : decode c_M_come 19 = .ok (.aload_n 0, 1) := by decide +kernel
theorem d_M_come_20 : decode c_M_come 20 = .ok (.getfield 48, 3) := by decide +kernel
theorem d_M_come_23 : decode c_M_come 23 = .ok (.ifCond .le 5, 3) := by decide +kernel
theorem d_M_come_26 : decode c_M_come 26 = .ok (.iconst 0, 1) := by decide +kernel
theorem d_M_come_27 : decode c_M_come 27 = .ok (.ireturn, 1) := by decide +kernel
theorem d_M_come_28 : decode c_M_come 28 = .ok (.aload_n 0, 1) := by decide +kernel
theorem d_M_come_29 : decode c_M_come 29 = .ok (.getfield 21, 3) := by decide +kernel
theorem d_M_come_32 : decode c_M_come 32 = .ok (.bipush 64, 2) := by decide +kernel
theorem d_M_come_34 : decode c_M_come 34 = .ok (.iaload, 1) := by decide +kernel
theorem d_M_come_35 : decode c_M_come 35 = .ok (.istore_n 1, 1) := by decide +kernel
theorem d_M_come_36 : decode c_M_come 36 = .ok (.aload_n 0, 1) := by decide +kernel
theorem d_M_come_37 : decode c_M_come 37 = .ok (.getfield 67, 3) := by decide +kernel
theorem d_M_come_40 : decode c_M_come 40 = .ok (.istore_n 2, 1) := by decide +kernel
theorem d_M_come_41 : decode c_M_come 41 = .ok (.aload_n 0, 1) := by decide +kernel
theorem d_M_come_42 : decode c_M_come 42 = .ok (.getfield 21, 3) := by decide +kernel
theorem d_M_come_45 : decode c_M_come 45 = .ok (.bipush 64, 2) := by decide +kernel
theorem d_M_come_47 : decode c_M_come 47 = .ok (.iconst 0, 1) := by decide +kernel
theorem d_M_come_48 : decode c_M_come 48 = .ok (.iastore, 1) := by decide +kernel
theorem d_M_come_49 : decode c_M_come 49 = .ok (.iload_n 2, 1) := by decide +kernel
theorem d_M_come_50 : decode c_M_come 50 = .ok (.aload_n 0, 1) := by decide +kernel
theorem d_M_come_51 : decode c_M_come 51 = .ok (.getfield 45, 3) := by decide +kernel
theorem d_M_come_54 : decode c_M_come 54 = .ok (.if_icmp .ne 39, 3) := by decide +kernel
theorem d_M_come_57 : decode c_M_come 57 = .ok (.iload_n 1, 1) := by decide +kernel
theorem d_M_come_58 : decode c_M_come 58 = .ok (.aload_n 0, 1) := by decide +kernel
theorem d_M_come_59 : decode c_M_come 59 = .ok (.getfield 74, 3) := by decide +kernel
theorem d_M_come_62 : decode c_M_come 62 = .ok (.if_icmp .le 7, 3) := by decide +kernel
theorem d_M_come_65 : decode c_M_come 65 = .ok (.iconst 3, 1) := by decide +kernel
theorem d_M_come_66 : decode c_M_come 66 = .ok (.goto 4, 3) := by decide +kernel
theorem d_M_come_69 : decode c_M_come 69 = .ok (.iconst 4, 1) := by decide +kernel
theorem d_M_come_70 : decode c_M_come 70 = .ok (.istore_n 3, 1) := by decide +kernel
theorem d_M_come_71 : decode c_M_come 71 = .ok (.aload_n 0, 1) := by decide +kernel
theorem d_M_come_72 : decode c_M_come 72 = .ok (.iload_n 1, 1) := by decide +kernel
theorem d_M_come_73 : decode c_M_come 73 = .ok (.aload_n 0, 1) := by decide +kernel
theorem d_M_come_74 : decode c_M_come 74 = .ok (.getfield 74, 3) := by decide +kernel
theorem d_M_come_77 : decode c_M_come 77 = .ok (.if_icmp .le 7, 3) := by decide +kernel
theorem d_M_come_80 : decode c_M_come 80 = .ok (.iload_n 1, 1) := by decide +kernel
theorem d_M_come_81 : decode c_M_come 81 = .ok (.goto 7, 3) := by decide +kernel
theorem d_M_come_84 : decode c_M_come 84 = .ok (.aload_n 0, 1) := by decide +kernel
theorem d_M_come_85 : decode c_M_come 85 = .ok (.getfield 74, 3) := by decide +kernel
theorem d_M_come_88 : decode c_M_come 88 = .ok (.putfield 74, 3) := by decide +kernel
theorem d_M_come_91 : decode c_M_come 91 = .ok (.iload_n 3, 1) := by decide +kernel
theorem d_M_come_92 : decode c_M_come 92 = .ok (.ireturn, 1) := by decide +kernel
theorem d_M_come_93 : decode c_M_come 93 = .ok (.aload_n 0, 1) := by decide +kernel
theorem d_M_come_94 : decode c_M_come 94 = .ok (.getfield 21, 3) := by decide +kernel
theorem d_M_come_97 : decode c_M_come 97 = .ok (.iload_n 2, 1) := by decide +kernel
theorem d_M_come_98 : decode c_M_come 98 = .ok (.iaload, 1) := by decide +kernel
theorem d_M_come_99 : decode c_M_come 99 = .ok (.iload_n 1, 1) := by decide +kernel
theorem d_M_come_100 : decode c_M_come 100 = .ok (.if_icmp .lt 19, 3) := by decide +kernel
theorem d_M_come_103 : decode c_M_come 103 = .ok (.aload_n 0, 1) := by decide +kernel
theorem d_M_come_104 : decode c_M_come 104 = .ok (.getfield 21, 3) := by decide +kernel
theorem d_M_come_107 : decode c_M_come 107 = .ok (.iload_n 2, 1) := by decide +kernel
theorem d_M_come_108 : decode c_M_come 108 = .ok (.iaload, 1) := by decide +kernel
theorem d_M_come_109 : decode c_M_come 109 = .ok (.iload_n 1, 1) := by decide +kernel
theorem d_M_come_110 : decode c_M_come 110 = .ok (.if_icmp .ne 7, 3) := by decide +kernel
theorem d_M_come_113 : decode c_M_come 113 = .ok (.iconst 1, 1) := by decide +kernel
theorem d_M_come_114 : decode c_M_come 114 = .ok (.goto 4, 3) := by decide +kernel
theorem d_M_come_117 : decode c_M_come 117 = .ok (.iconst 2, 1) := by decide +kernel
theorem d_M_come_118 : decode c_M_come 118 = .ok (.ireturn, 1) := by decide +kernel
theorem d_M_come_119 : decode c_M_come 119 = .ok (.aload_n 0, 1) := by decide +kernel
theorem d_M_come_120 : decode c_M_come 120 = .ok (.bipush 64, 2) := by decide +kernel
theorem d_M_come_122 : decode c_M_come 122 = .ok (.iload_n 2, 1) := by decide +kernel
theorem d_M_come_123 : decode c_M_come 123 = .ok (.invokevirtual 77, 3) := by decide +kernel
theorem d_M_come_126 : decode c_M_come 126 = .ok (.aload_n 0, 1) := by decide +kernel
theorem d_M_come_127 : decode c_M_come 127 = .ok (.getfield 21, 3) := by decide +kernel
theorem d_M_come_130 : decode c_M_come 130 = .ok (.iload_n 2, 1) := by decide +kernel
theorem d_M_come_131 : decode c_M_come 131 = .ok (.iload_n 1, 1) := by decide +kernel
theorem d_M_come_132 : decode c_M_come 132 = .ok (.iastore, 1) := by decide +kernel
theorem d_M_come_133 : decode c_M_come 133 = .ok (.aload_n 0, 1) := by decide +kernel
theorem d_M_come_134 : decode c_M_come 134 = .ok (.getfield 24, 3) := by decide +kernel
theorem d_M_come_137 : decode c_M_come 137 = .ok (.iload_n 2, 1) := by decide +kernel
theorem d_M_come_138 : decode c_M_come 138 = .ok (.aload_n 0, 1) := by decide +kernel
theorem d_M_come_139 : decode c_M_come 139 = .ok (.getfield 81, 3) := by decide +kernel
theorem d_M_come_142 : decode c_M_come 142 = .ok (.iastore, 1) := by decide +kernel
theorem d_M_come_143 : decode c_M_come 143 = .ok (.iconst 0, 1) := by decide +kernel
theorem d_M_come_144 : decode c_M_come 144 = .ok (.ireturn, 1) := by decide +kernel
theorem d_M_copy_0 : decode c_M_copy 0 = .ok (.aload_n 0, 1) := by decide +kernel
theorem d_M_copy_1 : decode c_M_copy 1 = .ok (.getfield 27, 3) := by decide +kernel
theorem d_M_copy_4 : decode c_M_copy 4 = .ok (.iload_n 2, 1) := by decide +kernel
theorem d_M_copy_5 : decode c_M_copy 5 = .ok (.iconst 0, 1) := by decide +kernel
theorem d_M_copy_6 : decode c_M_copy 6 = .ok (.iastore, 1) := by decide +kernel
theorem d_M_copy_7 : decode c_M_copy 7 = .ok (.bipush 24, 2) := by decide +kernel
theorem d_M_copy_9 : decode c_M_copy 9 = .ok (.iload_n 1, 1) := by decide +kernel
theorem d_M_copy_10 : decode c_M_copy 10 = .ok (.imul, 1) := by decide +kernel
theorem d_M_copy_11 : decode c_M_copy 11 = .ok (.istore_n 3, 1) := by decide +kernel
theorem d_M_copy_12 : decode c_M_copy 12 = .ok (.iload_n 3, 1) := by decide +kernel
theorem d_M_copy_13 : decode c_M_copy 13 = .ok (.bipush 24, 2) := by decide +kernel
theorem d_M_copy_15 : decode c_M_copy 15 = .ok (.iload_n 1, 1) := by decide +kernel
theorem d_M_copy_16 : decode c_M_copy 16 = .ok (.imul, 1) := by decide +kernel
theorem d_M_copy_17 : decode c_M_copy 17 = .ok (.aload_n 0, 1) := by decide +kernel
theorem d_M_copy_18 : decode c_M_copy 18 = .ok (.getfield 27, 3) := by decide +kernel
theorem d_M_copy_21 : decode c_M_copy 21 = .ok (.iload_n 1, 1) := by decide +kernel
theorem d_M_copy_22 : decode c_M_copy 22 = .ok (.iaload, 1) := by decide +kernel
theorem d_M_copy_23 : decode c_M_copy 23 = .ok (.iadd, 1) := by decide +kernel
theorem d_M_copy_24 : decode c_M_copy 24 = .ok (.if_icmp .ge 32, 3) := by decide +kernel
theorem d_M_copy_27 : decode c_M_copy 27 = .ok (.aload_n 0, 1) := by decide +kernel
theorem d_M_copy_28 : decode c_M_copy 28 = .ok (.iload_n 2, 1) := by decide +kernel
theorem d_M_copy_29 : decode c_M_copy 29 = .ok (.aload_n 0, 1) := by decide +kernel
theorem d_M_copy_30 : decode c_M_copy 30 = .ok (.getfield 30, 3) := by decide +kernel
theorem d_M_copy_33 : decode c_M_copy 33 = .ok (.iload_n 3, 1) := by decide +kernel
theorem d_M_copy_34 : decode c_M_copy 34 = .ok (.iaload, 1) := by decide +kernel
theorem d_M_copy_35 : decode c_M_copy 35 = .ok (.aload_n 0, 1) := by decide +kernel
theorem d_M_copy_36 : decode c_M_copy 36 = .ok (.getfield 33, 3) := by decide +kernel
theorem d_M_copy_39 : decode c_M_copy 39 = .ok (.iload_n 3, 1) := by decide +kernel
theorem d_M_copy_40 : decode c_M_copy 40 = .ok (.iaload, 1) := by decide +kernel
theorem d_M_copy_41 : decode c_M_copy 41 = .ok (.aload_n 0, 1) := by decide +kernel
theorem d_M_copy_42 : decode c_M_copy 42 = .ok (.getfield 36, 3) := by decide +kernel
theorem d_M_copy_45 : decode c_M_copy 45 = .ok (.iload_n 3, 1) := by decide +kernel
theorem d_M_copy_46 : decode c_M_copy 46 = .ok (.iaload, 1) := by decide +kernel
theorem d_M_copy_47 : decode c_M_copy 47 = .ok (.invokevirtual 62, 3) := by decide +kernel
theorem d_M_copy_50 : decode c_M_copy 50 = .ok (.iinc 3 1, 3) := by decide +kernel
theorem d_M_copy_53 : decode c_M_copy 53 = .ok (.goto (-41), 3) := by decide +kernel
theorem d_M_copy_56 : decode c_M_copy 56 = .ok (.return_, 1) := by decide +kernel
theorem d_M_pass_0 : decode c_M_pass 0 = .ok (.aload_n 0, 1) := by decide +kernel
theorem d_M_pass_1 : decode c_M_pass 1 = .ok (.iload_n 1, 1) := by decide +kernel
theorem d_M_pass_2 : decode c_M_pass 2 = .ok (.iconst 0, 1) := by decide +kernel
theorem d_M_pass_3 : decode c_M_pass 3 = .ok (.sipush 10000, 3) := by decide +kernel
theorem d_M_pass_6 : decode c_M_pass 6 = .ok (.invokestatic 51, 3) := by decide +kernel
theorem d_M_pass_9 : decode c_M_pass 9 = .ok (.ifCond .ne 7, 3) := by decide +kernel
theorem d_M_pass_12 : decode c_M_pass 12 = .ok (.iconst 1, 1) := by decide +kernel
theorem d_M_pass_13 : decode c_M_pass 13 = .ok (.goto 19, 3) := by decide +kernel
theorem d_M_pass_16 : decode c_M_pass 16 = .ok (.aload_n 0, 1) := by decide +kernel
theorem d_M_pass_17 : decode c_M_pass 17 = .ok (.getfield 81, 3) := by decide +kernel
theorem d_M_pass_20 : decode c_M_pass 20 = .ok (.iload_n 1, 1) := by decide +kernel
theorem d_M_pass_21 : decode c_M_pass 21 = .ok (.iadd, 1) := by decide +kernel
theorem d_M_pass_22 : decode c_M_pass 22 = .ok (.ldc 84, 2) := by decide +kernel
theorem d_M_pass_24 : decode c_M_pass 24 = .ok (.if_icmp .le 7, 3) := by decide +kernel
theorem d_M_pass_27 : decode c_M_pass 27 = .ok (.iconst 2, 1) := by decide +kernel
theorem d_M_pass_28 : decode c_M_pass 28 = .ok (.goto 4, 3) := by decide +kernel
theorem d_M_pass_31 : decode c_M_pass 31 = .ok (.iconst 0, 1) := by decide +kernel
theorem d_M_pass_32 : decode c_M_pass 32 = .ok (.putfield 48, 3) := by decide +kernel
theorem d_M_pass_35 : decode c_M_pass 35 = .ok (.aload_n 0, 1) := by decide +kernel
theorem d_M_pass_36 : decode c_M_pass 36 = .ok (.getfield 48, 3) := by decide +kernel
theorem d_M_pass_39 : decode c_M_pass 39 = .ok (.ifCond .le 5, 3) := by decide +kernel
theorem d_M_pass_42 : decode c_M_pass 42 = .ok (.iconst 0, 1) := by decide +kernel
theorem d_M_pass_43 : decode c_M_pass 43 = .ok (.ireturn, 1) := by decide +kernel
theorem d_M_pass_44 : decode c_M_pass 44 = .ok (.aload_n 0, 1) := by decide +kernel
theorem d_M_pass_45 : decode c_M_pass 45 = .ok (.dup, 1) := by decide +kernel
theorem d_M_pass_46 : decode c_M_pass 46 = .ok (.getfield 81, 3) := by decide +kernel
theorem d_M_pass_49 : decode c_M_pass 49 = .ok (.iload_n 1, 1) := by decide +kernel
theorem d_M_pass_50 : decode c_M_pass 50 = .ok (.iadd, 1) := by decide +kernel
theorem d_M_pass_51 : decode c_M_pass 51 = .ok (.putfield 81, 3) := by decide +kernel
theorem d_M_pass_54 : decode c_M_pass 54 = .ok (.iconst 0, 1) := by decide +kernel
theorem d_M_pass_55 : decode c_M_pass 55 = .ok (.istore_n 2, 1) := by decide +kernel
theorem d_M_pass_56 : decode c_M_pass 56 = .ok (.iconst 0, 1) := by decide +kernel
theorem d_M_pass_57 : decode c_M_pass 57 = .ok (.istore_n 3, 1) := by decide +kernel
theorem d_M_pass_58 : decode c_M_pass 58 = .ok (.iload_n 3, 1) := by decide +kernel
theorem d_M_pass_59 : decode c_M_pass 59 = .ok (.bipush 64, 2) := by decide +kernel
theorem d_M_pass_61 : decode c_M_pass 61 = .ok (.if_icmp .ge 97, 3) := by decide +kernel
theorem d_M_pass_64 : decode c_M_pass 64 = .ok (.aload_n 0, 1) := by decide +kernel
theorem d_M_pass_65 : decode c_M_pass 65 = .ok (.getfield 21, 3) := by decide +kernel
theorem d_M_pass_68 : decode c_M_pass 68 = .ok (.iload_n 3, 1) := by decide +kernel
theorem d_M_pass_69 : decode c_M_pass 69 = .ok (.iaload, 1) := by decide +kernel
theorem d_M_pass_70 : decode c_M_pass 70 = .ok (.ifCond .le 24, 3) := by decide +kernel
theorem d_M_pass_73 : decode c_M_pass 73 = .ok (.aload_n 0, 1) := by decide +kernel
theorem d_M_pass_74 : decode c_M_pass 74 = .ok (.getfield 81, 3) := by decide +kernel
theorem d_M_pass_77 : decode c_M_pass 77 = .ok (.aload_n 0, 1) := by decide +kernel
theorem d_M_pass_78 : decode c_M_pass 78 = .ok (.getfield 24, 3) := by decide +kernel
theorem d_M_pass_81 : decode c_M_pass 81 = .ok (.iload_n 3, 1) := by decide +kernel
theorem d_M_pass_82 : decode c_M_pass 82 = .ok (.iaload, 1) := by decide +kernel
theorem d_M_pass_83 : decode c_M_pass 83 = .ok (.isub, 1) := by decide +kernel
theorem d_M_pass_84 : decode c_M_pass 84 = .ok (.sipush 5000, 3) := by decide +kernel
theorem d_M_pass_87 : decode c_M_pass 87 = .ok (.if_icmp .lt 7, 3) := by decide +kernel
theorem d_M_pass_90 : decode c_M_pass 90 = .ok (.iconst 1, 1) := by decide +kernel
theorem d_M_pass_91 : decode c_M_pass 91 = .ok (.goto 4, 3) := by decide +kernel
theorem d_M_pass_94 : decode c_M_pass 94 = .ok (.iconst 0, 1) := by decide +kernel
theorem d_M_pass_95 : decode c_M_pass 95 = .ok (.istore 4, 2) := by decide +kernel
theorem d_M_pass_97 : decode c_M_pass 97 = .ok (.iload_n 2, 1) := by decide +kernel
theorem d_M_pass_98 : decode c_M_pass 98 = .ok (.iload 4, 2) := by decide +kernel
theorem d_M_pass_100 : decode c_M_pass 100 = .ok (.ifCond .eq 7, 3) := by decide +kernel
theorem d_M_pass_103 : decode c_M_pass 103 = .ok (.iconst 1, 1) := by decide +kernel
theorem d_M_pass_104 : decode c_M_pass 104 = .ok (.goto 4, 3) := by decide +kernel
theorem d_M_pass_107 : decode c_M_pass 107 = .ok (.iconst 0, 1) := by decide +kernel
theorem d_M_pass_108 : decode c_M_pass 108 = .ok (.iadd, 1) := by decide +kernel
theorem d_M_pass_109 : decode c_M_pass 109 = .ok (.istore_n 2, 1) := by decide +kernel
theorem d_M_pass_110 : decode c_M_pass 110 = .ok (.aload_n 0, 1) := by decide +kernel
theorem d_M_pass_111 : decode c_M_pass 111 = .ok (.getfield 21, 3) := by decide +kernel
theorem d_M_pass_114 : decode c_M_pass 114 = .ok (.iload_n 3, 1) := by decide +kernel
theorem d_M_pass_115 : decode c_M_pass 115 = .ok (.iload 4, 2) := by decide +kernel
theorem d_M_pass_117 : decode c_M_pass 117 = .ok (.ifCond .eq 7, 3) := by decide +kernel
theorem d_M_pass_120 : decode c_M_pass 120 = .ok (.iconst 0, 1) := by decide +kernel
theorem d_M_pass_121 : decode c_M_pass 121 = .ok (.goto 9, 3) := by decide +kernel
theorem d_M_pass_124 : decode c_M_pass 124 = .ok (.aload_n 0, 1) := by decide +kernel
theorem d_M_pass_125 : decode c_M_pass 125 = .ok (.getfield 21, 3) := by decide +kernel
theorem d_M_pass_128 : decode c_M_pass 128 = .ok (.iload_n 3, 1) := by decide +kernel
theorem d_M_pass_129 : decode c_M_pass 129 = .ok (.iaload, 1) := by decide +kernel
theorem d_M_pass_130 : decode c_M_pass 130 = .ok (.iastore, 1) := by decide +kernel
theorem d_M_pass_131 : decode c_M_pass 131 = .ok (.aload_n 0, 1) := by decide +kernel
theorem d_M_pass_132 : decode c_M_pass 132 = .ok (.getfield 27, 3) := by decide +kernel
theorem d_M_pass_135 : decode c_M_pass 135 = .ok (.iload_n 3, 1) := by decide +kernel
theorem d_M_pass_136 : decode c_M_pass 136 = .ok (.iload 4, 2) := by decide +kernel
theorem d_M_pass_138 : decode c_M_pass 138 = .ok (.ifCond .eq 7, 3) := by decide +kernel
theorem d_M_pass_141 : decode c_M_pass 141 = .ok (.iconst 0, 1) := by decide +kernel
theorem d_M_pass_142 : decode c_M_pass 142 = .ok (.goto 9, 3) := by decide +kernel
theorem d_M_pass_145 : decode c_M_pass 145 = .ok (.aload_n 0, 1) := by decide +kernel
theorem d_M_pass_146 : decode c_M_pass 146 = .ok (.getfield 27, 3) := by decide +kernel
theorem d_M_pass_149 : decode c_M_pass 149 = .ok (.iload_n 3, 1) := by decide +kernel
theorem d_M_pass_150 : decode c_M_pass 150 = .ok (.iaload, 1) := by decide +kernel
theorem d_M_pass_151 : decode c_M_pass 151 = .ok (.iastore, 1) := by decide +kernel
theorem d_M_pass_152 : decode c_M_pass 152 = .ok (.iinc 3 1, 3) := by decide +kernel
theorem d_M_pass_155 : decode c_M_pass 155 = .ok (.goto (-97), 3) := by decide +kernel
theorem d_M_pass_158 : decode c_M_pass 158 = .ok (.iload_n 2, 1) := by decide +kernel
theorem d_M_pass_159 : decode c_M_pass 159 = .ok (.ireturn, 1) := by decide +kernel
theorem d_M_make_0 : decode c_M_make 0 = .ok (.aload_n 0, 1) := by decide +kernel
theorem d_M_make_1 : decode c_M_make 1 = .ok (.iconst 0, 1) := by decide +kernel
theorem d_M_make_2 : decode c_M_make 2 = .ok (.putfield 48, 3) := by decide +kernel
theorem d_M_make_5 : decode c_M_make 5 = .ok (.aload_n 0, 1) := by decide +kernel
theorem d_M_make_6 : decode c_M_make 6 = .ok (.invokevirtual 85, 3) := by decide +kernel
theorem d_M_make_9 : decode c_M_make 9 = .ok (.aload_n 0, 1) := by decide +kernel
theorem d_M_make_10 : decode c_M_make 10 = .ok (.getfield 21, 3) := by decide +kernel
theorem d_M_make_13 : decode c_M_make 13 = .ok (.aload_n 0, 1) := by decide +kernel
theorem d_M_make_14 : decode c_M_make 14 = .ok (.getfield 45, 3) := by decide +kernel
theorem d_M_make_17 : decode c_M_make 17 = .ok (.iaload, 1) := by decide +kernel
theorem d_M_make_18 : decode c_M_make 18 = .ok (.ifCond .le 50, 3) := by decide +kernel
theorem d_M_make_21 : decode c_M_make 21 = .ok (.aload_n 0, 1) := by decide +kernel
theorem d_M_make_22 : decode c_M_make 22 = .ok (.invokevirtual 88, 3) := by decide +kernel
theorem d_M_make_25 : decode c_M_make 25 = .ok (.ifCond .eq 43, 3) := by decide +kernel
theorem d_M_make_28 : decode c_M_make 28 = .ok (.aload_n 0, 1) := by decide +kernel
theorem d_M_make_29 : decode c_M_make 29 = .ok (.getfield 81, 3) := by decide +kernel
theorem d_M_make_32 : decode c_M_make 32 = .ok (.aload_n 0, 1) := by decide +kernel
theorem d_M_make_33 : decode c_M_make 33 = .ok (.getfield 24, 3) := by decide +kernel
theorem d_M_make_36 : decode c_M_make 36 = .ok (.aload_n 0, 1) := by decide +kernel
theorem d_M_make_37 : decode c_M_make 37 = .ok (.getfield 45, 3) := by decide +kernel
theorem d_M_make_40 : decode c_M_make 40 = .ok (.iaload, 1) := by decide +kernel
theorem d_M_make_41 : decode c_M_make 41 = .ok (.isub, 1) := by decide +kernel
theorem d_M_make_42 : decode c_M_make 42 = .ok (.sipush 2000, 3) := by decide +kernel
theorem d_M_make_45 : decode c_M_make 45 = .ok (.if_icmp .ge 23, 3) := by decide +kernel
theorem d_M_make_48 : decode c_M_make 48 = .ok (.aload_n 0, 1) := by decide +kernel
theorem d_M_make_49 : decode c_M_make 49 = .ok (.getfield 21, 3) := by decide +kernel
theorem d_M_make_52 : decode c_M_make 52 = .ok (.aload_n 0, 1) := by decide +kernel
theorem d_M_make_53 : decode c_M_make 53 = .ok (.getfield 45, 3) := by decide +kernel
theorem d_M_make_56 : decode c_M_make 56 = .ok (.iaload, 1) := by decide +kernel
theorem d_M_make_57 : decode c_M_make 57 = .ok (.aload_n 0, 1) := by decide +kernel
theorem d_M_make_58 : decode c_M_make 58 = .ok (.getfield 74, 3) := by decide +kernel
theorem d_M_make_61 : decode c_M_make 61 = .ok (.if_icmp .lt 7, 3) := by decide +kernel
theorem d_M_make_64 : decode c_M_make 64 = .ok (.iconst 1, 1) := by decide +kernel
theorem d_M_make_65 : decode c_M_make 65 = .ok (.goto 4, 3) := by decide +kernel
theorem d_M_make_68 : decode c_M_make 68 = .ok (.iconst 0, 1) := by decide +kernel
theorem d_M_make_69 : decode c_M_make 69 = .ok (.istore_n 1, 1) := by decide +kernel
theorem d_M_make_70 : decode c_M_make 70 = .ok (.iload_n 1, 1) := by decide +kernel
theorem d_M_make_71 : decode c_M_make 71 = .ok (.ifCond .ne 17, 3) := by decide +kernel
theorem d_M_make_74 : decode c_M_make 74 = .ok (.aload_n 0, 1) := by decide +kernel
theorem d_M_make_75 : decode c_M_make 75 = .ok (.getfield 81, 3) := by decide +kernel
theorem d_M_make_78 : decode c_M_make 78 = .ok (.aload_n 0, 1) := by decide +kernel
theorem d_M_make_79 : decode c_M_make 79 = .ok (.getfield 17, 3) := by decide +kernel
theorem d_M_make_82 : decode c_M_make 82 = .ok (.isub, 1) := by decide +kernel
theorem d_M_make_83 : decode c_M_make 83 = .ok (.bipush 10, 2) := by decide +kernel
theorem d_M_make_85 : decode c_M_make 85 = .ok (.if_icmp .ge 5, 3) := by decide +kernel
theorem d_M_make_88 : decode c_M_make 88 = .ok (.iconst (-1), 1) := by decide +kernel
theorem d_M_make_89 : decode c_M_make 89 = .ok (.ireturn, 1) := by decide +kernel
theorem d_M_make_90 : decode c_M_make 90 = .ok (.aload_n 0, 1) := by decide +kernel
theorem d_M_make_91 : decode c_M_make 91 = .ok (.dup, 1) := by decide +kernel
theorem d_M_make_92 : decode c_M_make 92 = .ok (.getfield 74, 3) := by decide +kernel
theorem d_M_make_95 : decode c_M_make 95 = .ok (.iconst 1, 1) := by decide +kernel
theorem d_M_make_96 : decode c_M_make 96 = .ok (.iadd, 1) := by decide +kernel
theorem d_M_make_97 : decode c_M_make 97 = .ok (.putfield 74, 3) := by decide +kernel
theorem d_M_make_100 : decode c_M_make 100 = .ok (.aload_n 0, 1) := by decide +kernel
theorem d_M_make_101 : decode c_M_make 101 = .ok (.aload_n 0, 1) := by decide +kernel
theorem d_M_make_102 : decode c_M_make 102 = .ok (.getfield 81, 3) := by decide +kernel
theorem d_M_make_105 : decode c_M_make 105 = .ok (.putfield 17, 3) := by decide +kernel
theorem d_M_make_108 : decode c_M_make 108 = .ok (.aload_n 0, 1) := by decide +kernel
theorem d_M_make_109 : decode c_M_make 109 = .ok (.bipush 65, 2) := by decide +kernel
theorem d_M_make_111 : decode c_M_make 111 = .ok (.aload_n 0, 1) := by decide +kernel
theorem d_M_make_112 : decode c_M_make 112 = .ok (.getfield 45, 3) := by decide +kernel
theorem d_M_make_115 : decode c_M_make 115 = .ok (.invokevirtual 77, 3) := by decide +kernel
theorem d_M_make_118 : decode c_M_make 118 = .ok (.aload_n 0, 1) := by decide +kernel
theorem d_M_make_119 : decode c_M_make 119 = .ok (.getfield 21, 3) := by decide +kernel
theorem d_M_make_122 : decode c_M_make 122 = .ok (.aload_n 0, 1) := by decide +kernel
theorem d_M_make_123 : decode c_M_make 123 = .ok (.getfield 45, 3) := by decide +kernel
theorem d_M_make_126 : decode c_M_make 126 = .ok (.aload_n 0, 1) := by decide +kernel
theorem d_M_make_127 : decode c_M_make 127 = .ok (.getfield 74, 3) := by decide +kernel
theorem d_M_make_130 : decode c_M_make 130 = .ok (.iastore, 1) := by decide +kernel
theorem d_M_make_131 : decode c_M_make 131 = .ok (.aload_n 0, 1) := by decide +kernel
theorem d_M_make_132 : decode c_M_make 132 = .ok (.getfield 24, 3) := by decide +kernel
theorem d_M_make_135 : decode c_M_make 135 = .ok (.aload_n 0, 1) := by decide +kernel
theorem d_M_make_136 : decode c_M_make 136 = .ok (.getfield 45, 3) := by decide +kernel
theorem d_M_make_139 : decode c_M_make 139 = .ok (.aload_n 0, 1) := by decide +kernel
theorem d_M_make_140 : decode c_M_make 140 = .ok (.getfield 81, 3) := by decide +kernel
theorem d_M_make_143 : decode c_M_make 143 = .ok (.iastore, 1) := by decide +kernel
theorem d_M_make_144 : decode c_M_make 144 = .ok (.aload_n 0, 1) := by decide +kernel
theorem d_M_make_145 : decode c_M_make 145 = .ok (.getfield 74, 3) := by decide +kernel
theorem d_M_make_148 : decode c_M_make 148 = .ok (.ireturn, 1) := by decide +kernel
theorem d_M_tell_0 : decode c_M_tell 0 = .ok (.aload_n 0, 1) := by decide +kernel
theorem d_M_tell_1 : decode c_M_tell 1 = .ok (.getfield 27, 3) := by decide +kernel
theorem d_M_tell_4 : decode c_M_tell 4 = .ok (.bipush 65, 2) := by decide +kernel
theorem d_M_tell_6 : decode c_M_tell 6 = .ok (.iconst 0, 1) := by decide +kernel
theorem d_M_tell_7 : decode c_M_tell 7 = .ok (.iastore, 1) := by decide +kernel
theorem d_M_tell_8 : decode c_M_tell 8 = .ok (.iconst 0, 1) := by decide +kernel
theorem d_M_tell_9 : decode c_M_tell 9 = .ok (.istore_n 1, 1) := by decide +kernel
theorem d_M_tell_10 : decode c_M_tell 10 = .ok (.iload_n 1, 1) := by decide +kernel
theorem d_M_tell_11 : decode c_M_tell 11 = .ok (.bipush 64, 2) := by decide +kernel
theorem d_M_tell_13 : decode c_M_tell 13 = .ok (.if_icmp .ge 32, 3) := by decide +kernel
theorem d_M_tell_16 : decode c_M_tell 16 = .ok (.aload_n 0, 1) := by decide +kernel
theorem d_M_tell_17 : decode c_M_tell 17 = .ok (.getfield 7, 3) := by decide +kernel
theorem d_M_tell_20 : decode c_M_tell 20 = .ok (.iload_n 1, 1) := by decide +kernel
theorem d_M_tell_21 : decode c_M_tell 21 = .ok (.iaload, 1) := by decide +kernel
theorem d_M_tell_22 : decode c_M_tell 22 = .ok (.ifCond .le 17, 3) := by decide +kernel
theorem d_M_tell_25 : decode c_M_tell 25 = .ok (.aload_n 0, 1) := by decide +kernel
theorem d_M_tell_26 : decode c_M_tell 26 = .ok (.bipush 65, 2) := by decide +kernel
theorem d_M_tell_28 : decode c_M_tell 28 = .ok (.iconst (-1), 1) := by decide +kernel
theorem d_M_tell_29 : decode c_M_tell 29 = .ok (.iload_n 1, 1) := by decide +kernel
theorem d_M_tell_30 : decode c_M_tell 30 = .ok (.aload_n 0, 1) := by decide +kernel
theorem d_M_tell_31 : decode c_M_tell 31 = .ok (.getfield 7, 3) := by decide +kernel
theorem d_M_tell_34 : decode c_M_tell 34 = .ok (.iload_n 1, 1) := by decide +kernel
theorem d_M_tell_35 : decode c_M_tell 35 = .ok (.iaload, 1) := by decide +kernel
theorem d_M_tell_36 : decode c_M_tell 36 = .ok (.invokevirtual 62, 3) := by decide +kernel
theorem d_M_tell_39 : decode c_M_tell 39 = .ok (.iinc 1 1, 3) := by decide +kernel
theorem d_M_tell_42 : decode c_M_tell 42 = .ok (.goto (-32), 3) := by decide +kernel
theorem d_M_tell_45 : decode c_M_tell 45 = .ok (.iconst 0, 1) := by decide +kernel
theorem d_M_tell_46 : decode c_M_tell 46 = .ok (.istore_n 1, 1) := by decide +kernel
theorem d_M_tell_47 : decode c_M_tell 47 = .ok (.iload_n 1, 1) := by decide +kernel
theorem d_M_tell_48 : decode c_M_tell 48 = .ok (.sipush 4096, 3) := by decide +kernel
theorem d_M_tell_51 : decode c_M_tell 51 = .ok (.if_icmp .ge 41, 3) := by decide +kernel
theorem d_M_tell_54 : decode c_M_tell 54 = .ok (.aload_n 0, 1) := by decide +kernel
theorem d_M_tell_55 : decode c_M_tell 55 = .ok (.getfield 13, 3) := by decide +kernel
theorem d_M_tell_58 : decode c_M_tell 58 = .ok (.iload_n 1, 1) := by decide +kernel
theorem d_M_tell_59 : decode c_M_tell 59 = .ok (.baload, 1) := by decide +kernel
theorem d_M_tell_60 : decode c_M_tell 60 = .ok (.ifCond .eq 26, 3) := by decide +kernel
theorem d_M_tell_63 : decode c_M_tell 63 = .ok (.aload_n 0, 1) := by decide +kernel
theorem d_M_tell_64 : decode c_M_tell 64 = .ok (.bipush 65, 2) := by decide +kernel
theorem d_M_tell_66 : decode c_M_tell 66 = .ok (.iload_n 1, 1) := by decide +kernel
theorem d_M_tell_67 : decode c_M_tell 67 = .ok (.bipush 64, 2) := by decide +kernel
theorem d_M_tell_69 : decode c_M_tell 69 = .ok (.irem, 1) := by decide +kernel
theorem d_M_tell_70 : decode c_M_tell 70 = .ok (.iload_n 1, 1) := by decide +kernel
theorem d_M_tell_71 : decode c_M_tell 71 = .ok (.bipush 64, 2) := by decide +kernel
theorem d_M_tell_73 : decode c_M_tell 73 = .ok (.idiv, 1) := by decide +kernel
theorem d_M_tell_74 : decode c_M_tell 74 = .ok (.aload_n 0, 1) := by decide +kernel
theorem d_M_tell_75 : decode c_M_tell 75 = .ok (.getfield 7, 3) := by decide +kernel
theorem d_M_tell_78 : decode c_M_tell 78 = .ok (.iload_n 1, 1) := by decide +kernel
theorem d_M_tell_79 : decode c_M_tell 79 = .ok (.bipush 64, 2) := by decide +kernel
theorem d_M_tell_81 : decode c_M_tell 81 = .ok (.idiv, 1) := by decide +kernel
theorem d_M_tell_82 : decode c_M_tell 82 = .ok (.iaload, 1) := by decide +kernel
theorem d_M_tell_83 : decode c_M_tell 83 = .ok (.invokevirtual 62, 3) := by decide +kernel
theorem d_M_tell_86 : decode c_M_tell 86 = .ok (.iinc 1 1, 3) := by decide +kernel
theorem d_M_tell_89 : decode c_M_tell 89 = .ok (.goto (-42), 3) := by decide +kernel
theorem d_M_tell_92 : decode c_M_tell 92 = .ok (.return_, 1) := by decide +kernel
theorem d_M_isToldNow_0 : decode c_M_isToldNow 0 = .ok (.aload_n 0, 1) := by decide +kernel
theorem d_M_isToldNow_1 : decode c_M_isToldNow 1 = .ok (.getfield 27, 3) := by decide +kernel
theorem d_M_isToldNow_4 : decode c_M_isToldNow 4 = .ok (.bipush 65, 2) := by decide +kernel
theorem d_M_isToldNow_6 : decode c_M_isToldNow 6 = .ok (.iaload, 1) := by decide +kernel
theorem d_M_isToldNow_7 : decode c_M_isToldNow 7 = .ok (.aload_n 0, 1) := by decide +kernel
theorem d_M_isToldNow_8 : decode c_M_isToldNow 8 = .ok (.getfield 27, 3) := by decide +kernel
theorem d_M_isToldNow_11 : decode c_M_isToldNow 11 = .ok (.aload_n 0, 1) := by decide +kernel
theorem d_M_isToldNow_12 : decode c_M_isToldNow 12 = .ok (.getfield 45, 3) := by decide +kernel
theorem d_M_isToldNow_15 : decode c_M_isToldNow 15 = .ok (.iaload, 1) := by decide +kernel
theorem d_M_isToldNow_16 : decode c_M_isToldNow 16 = .ok (.if_icmp .ne 7, 3) := by decide +kernel
theorem d_M_isToldNow_19 : decode c_M_isToldNow 19 = .ok (.iconst 1, 1) := by decide +kernel
theorem d_M_isToldNow_20 : decode c_M_isToldNow 20 = .ok (.goto 4, 3) := by decide +kernel
theorem d_M_isToldNow_23 : decode c_M_isToldNow 23 = .ok (.iconst 0, 1) := by decide +kernel
theorem d_M_isToldNow_24 : decode c_M_isToldNow 24 = .ok (.istore_n 1, 1) := by decide +kernel
theorem d_M_isToldNow_25 : decode c_M_isToldNow 25 = .ok (.iconst 0, 1) := by decide +kernel
theorem d_M_isToldNow_26 : decode c_M_isToldNow 26 = .ok (.istore_n 2, 1) := by decide +kernel
theorem d_M_isToldNow_27 : decode c_M_isToldNow 27 = .ok (.iload_n 2, 1) := by decide +kernel
theorem d_M_isToldNow_28 : decode c_M_isToldNow 28 = .ok (.aload_n 0, 1) := by decide +kernel
theorem d_M_isToldNow_29 : decode c_M_isToldNow 29 = .ok (.getfield 27, 3) := by decide +kernel
theorem d_M_isToldNow_32 : decode c_M_isToldNow 32 = .ok (.bipush 65, 2) := by decide +kernel
theorem d_M_isToldNow_34 : decode c_M_isToldNow 34 = .ok (.iaload, 1) := by decide +kernel
theorem d_M_isToldNow_35 : decode c_M_isToldNow 35 = .ok (.if_icmp .ge 84, 3) := by decide +kernel
theorem d_M_isToldNow_38 : decode c_M_isToldNow 38 = .ok (.iload_n 1, 1) := by decide +kernel
theorem d_M_isToldNow_39 : decode c_M_isToldNow 39 = .ok (.ifCond .eq 80, 3) := by decide +kernel
theorem d_M_isToldNow_42 : decode c_M_isToldNow 42 = .ok (.sipush 1560, 3) := by decide +kernel
theorem d_M_isToldNow_45 : decode c_M_isToldNow 45 = .ok (.iload_n 2, 1) := by decide +kernel
theorem d_M_isToldNow_46 : decode c_M_isToldNow 46 = .ok (.iadd, 1) := by decide +kernel
theorem d_M_isToldNow_47 : decode c_M_isToldNow 47 = .ok (.istore_n 3, 1) := by decide +kernel
theorem d_M_isToldNow_48 : decode c_M_isToldNow 48 = .ok (.bipush 24, 2) := by decide +kernel
theorem d_M_isToldNow_50 : decode c_M_isToldNow 50 = .ok (.aload_n 0, 1) := by decide +kernel
theorem d_M_isToldNow_51 : decode c_M_isToldNow 51 = .ok (.getfield 45, 3) := by decide +kernel
theorem d_M_isToldNow_54 : decode c_M_isToldNow 54 = .ok (.imul, 1) := by decide +kernel
theorem d_M_isToldNow_55 : decode c_M_isToldNow 55 = .ok (.iload_n 2, 1) := by decide +kernel
theorem d_M_isToldNow_56 : decode c_M_isToldNow 56 = .ok (.iadd, 1) := by decide +kernel
theorem d_M_isToldNow_57 : decode c_M_isToldNow 57 = .ok (.istore 4, 2) := by decide +kernel
theorem d_M_isToldNow_59 : decode c_M_isToldNow 59 = .ok (.aload_n 0, 1) := by decide +kernel
theorem d_M_isToldNow_60 : decode c_M_isToldNow 60 = .ok (.getfield 30, 3) := by decide +kernel
theorem d_M_isToldNow_63 : decode c_M_isToldNow 63 = .ok (.iload_n 3, 1) := by decide +kernel
theorem d_M_isToldNow_64 : decode c_M_isToldNow 64 = .ok (.iaload, 1) := by decide +kernel
theorem d_M_isToldNow_65 : decode c_M_isToldNow 65 = .ok (.aload_n 0, 1) := by decide +kernel
theorem d_M_isToldNow_66 : decode c_M_isToldNow 66 = .ok (.getfield 30, 3) := by decide +kernel
theorem d_M_isToldNow_69 : decode c_M_isToldNow 69 = .ok (.iload 4, 2) := by decide +kernel
theorem d_M_isToldNow_71 : decode c_M_isToldNow 71 = .ok (.iaload, 1) := by decide +kernel
theorem d_M_isToldNow_72 : decode c_M_isToldNow 72 = .ok (.if_icmp .ne 39, 3) := by decide +kernel
theorem d_M_isToldNow_75 : decode c_M_isToldNow 75 = .ok (.aload_n 0, 1) := by decide +kernel
theorem d_M_isToldNow_76 : decode c_M_isToldNow 76 = .ok (.getfield 33, 3) := by decide +kernel
theorem d_M_isToldNow_79 : decode c_M_isToldNow 79 = .ok (.iload_n 3, 1) := by decide +kernel
theorem d_M_isToldNow_80 : decode c_M_isToldNow 80 = .ok (.iaload, 1) := by decide +kernel
theorem d_M_isToldNow_81 : decode c_M_isToldNow 81 = .ok (.aload_n 0, 1) := by decide +kernel
theorem d_M_isToldNow_82 : decode c_M_isToldNow 82 = .ok (.getfield 33, 3) := by decide +kernel
theorem d_M_isToldNow_85 : decode c_M_isToldNow 85 = .ok (.iload 4, 2) := by decide +kernel
theorem d_M_isToldNow_87 : decode c_M_isToldNow 87 = .ok (.iaload, 1) := by decide +kernel
theorem d_M_isToldNow_88 : decode c_M_isToldNow 88 = .ok (.if_icmp .ne 23, 3) := by decide +kernel
theorem d_M_isToldNow_91 : decode c_M_isToldNow 91 = .ok (.aload_n 0, 1) := by decide +kernel
theorem d_M_isToldNow_92 : decode c_M_isToldNow 92 = .ok (.getfield 36, 3) := by decide +kernel
theorem d_M_isToldNow_95 : decode c_M_isToldNow 95 = .ok (.iload_n 3, 1) := by decide +kernel
theorem d_M_isToldNow_96 : decode c_M_isToldNow 96 = .ok (.iaload, 1) := by decide +kernel
theorem d_M_isToldNow_97 : decode c_M_isToldNow 97 = .ok (.aload_n 0, 1) := by decide +kernel
theorem d_M_isToldNow_98 : decode c_M_isToldNow 98 = .ok (.getfield 36, 3) := by decide +kernel
theorem d_M_isToldNow_101 : decode c_M_isToldNow 101 = .ok (.iload 4, 2) := by decide +kernel
theorem d_M_isToldNow_103 : decode c_M_isToldNow 103 = .ok (.iaload, 1) := by decide +kernel
theorem d_M_isToldNow_104 : decode c_M_isToldNow 104 = .ok (.if_icmp .ne 7, 3) := by decide +kernel
theorem d_M_isToldNow_107 : decode c_M_isToldNow 107 = .ok (.iconst 1, 1) := by decide +kernel
theorem d_M_isToldNow_108 : decode c_M_isToldNow 108 = .ok (.goto 4, 3) := by decide +kernel
theorem d_M_isToldNow_111 : decode c_M_isToldNow 111 = .ok (.iconst 0, 1) := by decide +kernel
theorem d_M_isToldNow_112 : decode c_M_isToldNow 112 = .ok (.istore_n 1, 1) := by decide +kernel
theorem d_M_isToldNow_113 : decode c_M_isToldNow 113 = .ok (.iinc 2 1, 3) := by decide +kernel
theorem d_M_isToldNow_116 : decode c_M_isToldNow 116 = .ok (.goto (-89), 3) := by decide +kernel
theorem d_M_isToldNow_119 : decode c_M_isToldNow 119 = .ok (.iload_n 1, 1) := by decide +kernel
theorem d_M_isToldNow_120 : decode c_M_isToldNow 120 = .ok (.ireturn, 1) := by decide +kernel
theorem d_M_number_0 : decode c_M_number 0 = .ok (.aload_n 0, 1) := by decide +kernel
theorem d_M_number_1 : decode c_M_number 1 = .ok (.iload_n 1, 1) := by decide +kernel
theorem d_M_number_2 : decode c_M_number 2 = .ok (.iconst 0, 1) := by decide +kernel
theorem d_M_number_3 : decode c_M_number 3 = .ok (.bipush 63, 2) := by decide +kernel
theorem d_M_number_5 : decode c_M_number 5 = .ok (.invokestatic 51, 3) := by decide +kernel
theorem d_M_number_8 : decode c_M_number 8 = .ok (.ifCond .eq 7, 3) := by decide +kernel
theorem d_M_number_11 : decode c_M_number 11 = .ok (.iconst 0, 1) := by decide +kernel
theorem d_M_number_12 : decode c_M_number 12 = .ok (.goto 4, 3) := by decide +kernel
theorem d_M_number_15 : decode c_M_number 15 = .ok (.iconst 1, 1) := by decide +kernel
theorem d_M_number_16 : decode c_M_number 16 = .ok (.putfield 48, 3) := by decide +kernel
theorem d_M_number_19 : decode c_M_number 19 = .ok (.aload_n 0, 1) := by decide +kernel
theorem d_M_number_20 : decode c_M_number 20 = .ok (.getfield 48, 3) := by decide +kernel
theorem d_M_number_23 : decode c_M_number 23 = .ok (.ifCond .le 7, 3) := by decide +kernel
theorem d_M_number_26 : decode c_M_number 26 = .ok (.iconst 0, 1) := by decide +kernel
theorem d_M_number_27 : decode c_M_number 27 = .ok (.goto 22, 3) := by decide +kernel
theorem d_M_number_30 : decode c_M_number 30 = .ok (.aload_n 0, 1) := by decide +kernel
theorem d_M_number_31 : decode c_M_number 31 = .ok (.getfield 21, 3) := by decide +kernel
theorem d_M_number_34 : decode c_M_number 34 = .ok (.iload_n 1, 1) := by decide +kernel
theorem d_M_number_35 : decode c_M_number 35 = .ok (.iaload, 1) := by decide +kernel
theorem d_M_number_36 : decode c_M_number 36 = .ok (.ifCond .ne 7, 3) := by decide +kernel
theorem d_M_number_39 : decode c_M_number 39 = .ok (.iconst (-1), 1) := by decide +kernel
theorem d_M_number_40 : decode c_M_number 40 = .ok (.goto 9, 3) := by decide +kernel
theorem d_M_number_43 : decode c_M_number 43 = .ok (.aload_n 0, 1) := by decide +kernel
theorem d_M_number_44 : decode c_M_number 44 = .ok (.getfield 21, 3) := by decide +kernel
theorem d_M_number_47 : decode c_M_number 47 = .ok (.iload_n 1, 1) := by decide +kernel
theorem d_M_number_48 : decode c_M_number 48 = .ok (.iaload, 1) := by decide +kernel
theorem d_M_number_49 : decode c_M_number 49 = .ok (.ireturn, 1) := by decide +kernel
theorem d_M_told_0 : decode c_M_told 0 = .ok (.aload_n 0, 1) := by decide +kernel
theorem d_M_told_1 : decode c_M_told 1 = .ok (.iload_n 1, 1) := by decide +kernel
theorem d_M_told_2 : decode c_M_told 2 = .ok (.iconst 0, 1) := by decide +kernel
theorem d_M_told_3 : decode c_M_told 3 = .ok (.bipush 63, 2) := by decide +kernel
theorem d_M_told_5 : decode c_M_told 5 = .ok (.invokestatic 51, 3) := by decide +kernel
theorem d_M_told_8 : decode c_M_told 8 = .ok (.ifCond .eq 12, 3) := by decide +kernel
theorem d_M_told_11 : decode c_M_told 11 = .ok (.iload_n 3, 1) := by decide +kernel
theorem d_M_told_12 : decode c_M_told 12 = .ok (.iconst 0, 1) := by decide +kernel
theorem d_M_told_13 : decode c_M_told 13 = .ok (.iconst 2, 1) := by decide +kernel
theorem d_M_told_14 : decode c_M_told 14 = .ok (.invokestatic 51, 3) := by decide +kernel
theorem d_M_told_17 : decode c_M_told 17 = .ok (.ifCond .ne 7, 3) := by decide +kernel
theorem d_M_told_20 : decode c_M_told 20 = .ok (.iconst 1, 1) := by decide +kernel
theorem d_M_told_21 : decode c_M_told 21 = .ok (.goto 31, 3) := by decide +kernel
theorem d_M_told_24 : decode c_M_told 24 = .ok (.aload_n 0, 1) := by decide +kernel
theorem d_M_told_25 : decode c_M_told 25 = .ok (.getfield 21, 3) := by decide +kernel
theorem d_M_told_28 : decode c_M_told 28 = .ok (.iload_n 1, 1) := by decide +kernel
theorem d_M_told_29 : decode c_M_told 29 = .ok (.iaload, 1) := by decide +kernel
theorem d_M_told_30 : decode c_M_told 30 = .ok (.ifCond .eq 17, 3) := by decide +kernel
theorem d_M_told_33 : decode c_M_told 33 = .ok (.iload_n 2, 1) := by decide +kernel
theorem d_M_told_34 : decode c_M_told 34 = .ok (.ifCond .lt 13, 3) := by decide +kernel
theorem d_M_told_37 : decode c_M_told 37 = .ok (.iload_n 2, 1) := by decide +kernel
theorem d_M_told_38 : decode c_M_told 38 = .ok (.aload_n 0, 1) := by decide +kernel
theorem d_M_told_39 : decode c_M_told 39 = .ok (.getfield 27, 3) := by decide +kernel
theorem d_M_told_42 : decode c_M_told 42 = .ok (.iload_n 1, 1) := by decide +kernel
theorem d_M_told_43 : decode c_M_told 43 = .ok (.iaload, 1) := by decide +kernel
theorem d_M_told_44 : decode c_M_told 44 = .ok (.if_icmp .lt 7, 3) := by decide +kernel
theorem d_M_told_47 : decode c_M_told 47 = .ok (.iconst 2, 1) := by decide +kernel
theorem d_M_told_48 : decode c_M_told 48 = .ok (.goto 4, 3) := by decide +kernel
theorem d_M_told_51 : decode c_M_told 51 = .ok (.iconst 0, 1) := by decide +kernel
theorem d_M_told_52 : decode c_M_told 52 = .ok (.putfield 48, 3) := by decide +kernel
theorem d_M_told_55 : decode c_M_told 55 = .ok (.aload_n 0, 1) := by decide +kernel
theorem d_M_told_56 : decode c_M_told 56 = .ok (.getfield 48, 3) := by decide +kernel
theorem d_M_told_59 : decode c_M_told 59 = .ok (.ifCond .le 5, 3) := by decide +kernel
theorem d_M_told_62 : decode c_M_told 62 = .ok (.iconst 0, 1) := by decide +kernel
theorem d_M_told_63 : decode c_M_told 63 = .ok (.ireturn, 1) := by decide +kernel
theorem d_M_told_64 : decode c_M_told 64 = .ok (.bipush 24, 2) := by decide +kernel
theorem d_M_told_66 : decode c_M_told 66 = .ok (.iload_n 1, 1) := by decide +kernel
theorem d_M_told_67 : decode c_M_told 67 = .ok (.imul, 1) := by decide +kernel
theorem d_M_told_68 : decode c_M_told 68 = .ok (.iload_n 2, 1) := by decide +kernel
theorem d_M_told_69 : decode c_M_told 69 = .ok (.iadd, 1) := by decide +kernel
theorem d_M_told_70 : decode c_M_told 70 = .ok (.istore 4, 2) := by decide +kernel
theorem d_M_told_72 : decode c_M_told 72 = .ok (.iload_n 3, 1) := by decide +kernel
theorem d_M_told_73 : decode c_M_told 73 = .ok (.ifCond .ne 13, 3) := by decide +kernel
theorem d_M_told_76 : decode c_M_told 76 = .ok (.aload_n 0, 1) := by decide +kernel
theorem d_M_told_77 : decode c_M_told 77 = .ok (.getfield 30, 3) := by decide +kernel
theorem d_M_told_80 : decode c_M_told 80 = .ok (.iload 4, 2) := by decide +kernel
theorem d_M_told_82 : decode c_M_told 82 = .ok (.iaload, 1) := by decide +kernel
theorem d_M_told_83 : decode c_M_told 83 = .ok (.goto 25, 3) := by decide +kernel
theorem d_M_told_86 : decode c_M_told 86 = .ok (.iload_n 3, 1) := by decide +kernel
theorem d_M_told_87 : decode c_M_told 87 = .ok (.iconst 1, 1) := by decide +kernel
theorem d_M_told_88 : decode c_M_told 88 = .ok (.if_icmp .ne 13, 3) := by decide +kernel
theorem d_M_told_91 : decode c_M_told 91 = .ok (.aload_n 0, 1) := by decide +kernel
theorem d_M_told_92 : decode c_M_told 92 = .ok (.getfield 33, 3) := by decide +kernel
theorem d_M_told_95 : decode c_M_told 95 = .ok (.iload 4, 2) := by decide +kernel
theorem d_M_told_97 : decode c_M_told 97 = .ok (.iaload, 1) := by decide +kernel
theorem d_M_told_98 : decode c_M_told 98 = .ok (.goto 10, 3) := by decide +kernel
theorem d_M_told_101 : decode c_M_told 101 = .ok (.aload_n 0, 1) := by decide +kernel
theorem d_M_told_102 : decode c_M_told 102 = .ok (.getfield 36, 3) := by decide +kernel
theorem d_M_told_105 : decode c_M_told 105 = .ok (.iload 4, 2) := by decide +kernel
theorem d_M_told_107 : decode c_M_told 107 = .ok (.iaload, 1) := by decide +kernel
theorem d_M_told_108 : decode c_M_told 108 = .ok (.ireturn, 1) := by decide +kernel
theorem d_M_entries_0 : decode c_M_entries 0 = .ok (.aload_n 0, 1) := by decide +kernel
theorem d_M_entries_1 : decode c_M_entries 1 = .ok (.iload_n 1, 1) := by decide +kernel
theorem d_M_entries_2 : decode c_M_entries 2 = .ok (.iconst 0, 1) := by decide +kernel
theorem d_M_entries_3 : decode c_M_entries 3 = .ok (.bipush 63, 2) := by decide +kernel
theorem d_M_entries_5 : decode c_M_entries 5 = .ok (.invokestatic 51, 3) := by decide +kernel
theorem d_M_entries_8 : decode c_M_entries 8 = .ok (.ifCond .eq 7, 3) := by decide +kernel
theorem d_M_entries_11 : decode c_M_entries 11 = .ok (.iconst 0, 1) := by decide +kernel
theorem d_M_entries_12 : decode c_M_entries 12 = .ok (.goto 4, 3) := by decide +kernel
theorem d_M_entries_15 : decode c_M_entries 15 = .ok (.iconst 1, 1) := by decide +kernel
theorem d_M_entries_16 : decode c_M_entries 16 = .ok (.putfield 48, 3) := by decide +kernel
theorem d_M_entries_19 : decode c_M_entries 19 = .ok (.aload_n 0, 1) := by decide +kernel
theorem d_M_entries_20 : decode c_M_entries 20 = .ok (.getfield 48, 3) := by decide +kernel
theorem d_M_entries_23 : decode c_M_entries 23 = .ok (.ifCond .le 7, 3) := by decide +kernel
theorem d_M_entries_26 : decode c_M_entries 26 = .ok (.iconst 0, 1) := by decide +kernel
theorem d_M_entries_27 : decode c_M_entries 27 = .ok (.goto 22, 3) := by decide +kernel
theorem d_M_entries_30 : decode c_M_entries 30 = .ok (.aload_n 0, 1) := by decide +kernel
theorem d_M_entries_31 : decode c_M_entries 31 = .ok (.getfield 21, 3) := by decide +kernel
theorem d_M_entries_34 : decode c_M_entries 34 = .ok (.iload_n 1, 1) := by decide +kernel
theorem d_M_entries_35 : decode c_M_entries 35 = .ok (.iaload, 1) := by decide +kernel
theorem d_M_entries_36 : decode c_M_entries 36 = .ok (.ifCond .ne 7, 3) := by decide +kernel
theorem d_M_entries_39 : decode c_M_entries 39 = .ok (.iconst (-1), 1) := by decide +kernel
theorem d_M_entries_40 : decode c_M_entries 40 = .ok (.goto 9, 3) := by decide +kernel
theorem d_M_entries_43 : decode c_M_entries 43 = .ok (.aload_n 0, 1) := by decide +kernel
theorem d_M_entries_44 : decode c_M_entries 44 = .ok (.getfield 27, 3) := by decide +kernel
theorem d_M_entries_47 : decode c_M_entries 47 = .ok (.iload_n 1, 1) := by decide +kernel
theorem d_M_entries_48 : decode c_M_entries 48 = .ok (.iaload, 1) := by decide +kernel
theorem d_M_entries_49 : decode c_M_entries 49 = .ok (.ireturn, 1) := by decide +kernel
theorem d_M_age_0 : decode c_M_age 0 = .ok (.aload_n 0, 1) := by decide +kernel
theorem d_M_age_1 : decode c_M_age 1 = .ok (.iload_n 1, 1) := by decide +kernel
theorem d_M_age_2 : decode c_M_age 2 = .ok (.iconst 0, 1) := by decide +kernel
theorem d_M_age_3 : decode c_M_age 3 = .ok (.bipush 63, 2) := by decide +kernel
theorem d_M_age_5 : decode c_M_age 5 = .ok (.invokestatic 51, 3) := by decide +kernel
theorem d_M_age_8 : decode c_M_age 8 = .ok (.ifCond .eq 7, 3) := by decide +kernel
theorem d_M_age_11 : decode c_M_age 11 = .ok (.iconst 0, 1) := by decide +kernel
theorem d_M_age_12 : decode c_M_age 12 = .ok (.goto 4, 3) := by decide +kernel
theorem d_M_age_15 : decode c_M_age 15 = .ok (.iconst 1, 1) := by decide +kernel
theorem d_M_age_16 : decode c_M_age 16 = .ok (.putfield 48, 3) := by decide +kernel
theorem d_M_age_19 : decode c_M_age 19 = .ok (.aload_n 0, 1) := by decide +kernel
theorem d_M_age_20 : decode c_M_age 20 = .ok (.getfield 48, 3) := by decide +kernel
theorem d_M_age_23 : decode c_M_age 23 = .ok (.ifCond .le 7, 3) := by decide +kernel
theorem d_M_age_26 : decode c_M_age 26 = .ok (.iconst 0, 1) := by decide +kernel
theorem d_M_age_27 : decode c_M_age 27 = .ok (.goto 27, 3) := by decide +kernel
theorem d_M_age_30 : decode c_M_age 30 = .ok (.aload_n 0, 1) := by decide +kernel
theorem d_M_age_31 : decode c_M_age 31 = .ok (.getfield 21, 3) := by decide +kernel
theorem d_M_age_34 : decode c_M_age 34 = .ok (.iload_n 1, 1) := by decide +kernel
theorem d_M_age_35 : decode c_M_age 35 = .ok (.iaload, 1) := by decide +kernel
theorem d_M_age_36 : decode c_M_age 36 = .ok (.ifCond .ne 7, 3) := by decide +kernel
theorem d_M_age_39 : decode c_M_age 39 = .ok (.iconst (-1), 1) := by decide +kernel
theorem d_M_age_40 : decode c_M_age 40 = .ok (.goto 14, 3) := by decide +kernel
theorem d_M_age_43 : decode c_M_age 43 = .ok (.aload_n 0, 1) := by decide +kernel
theorem d_M_age_44 : decode c_M_age 44 = .ok (.getfield 81, 3) := by decide +kernel
theorem d_M_age_47 : decode c_M_age 47 = .ok (.aload_n 0, 1) := by decide +kernel
theorem d_M_age_48 : decode c_M_age 48 = .ok (.getfield 24, 3) := by decide +kernel
theorem d_M_age_51 : decode c_M_age 51 = .ok (.iload_n 1, 1) := by decide +kernel
theorem d_M_age_52 : decode c_M_age 52 = .ok (.iaload, 1) := by decide +kernel
theorem d_M_age_53 : decode c_M_age 53 = .ok (.isub, 1) := by decide +kernel
theorem d_M_age_54 : decode c_M_age 54 = .ok (.ireturn, 1) := by decide +kernel
