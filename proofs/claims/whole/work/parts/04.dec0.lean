theorem d_F_fill_0 : decode c_F_fill 0 = .ok (.iconst 0, 1) := by decide +kernel
theorem d_F_fill_1 : decode c_F_fill 1 = .ok (.istore_n 2, 1) := by decide +kernel
theorem d_F_fill_2 : decode c_F_fill 2 = .ok (.aload_n 0, 1) := by decide +kernel
theorem d_F_fill_3 : decode c_F_fill 3 = .ok (.arraylength, 1) := by decide +kernel
theorem d_F_fill_4 : decode c_F_fill 4 = .ok (.istore_n 3, 1) := by decide +kernel
theorem d_F_fill_5 : decode c_F_fill 5 = .ok (.iload_n 2, 1) := by decide +kernel
theorem d_F_fill_6 : decode c_F_fill 6 = .ok (.iload_n 3, 1) := by decide +kernel
theorem d_F_fill_7 : decode c_F_fill 7 = .ok (.if_icmp .ge 13, 3) := by decide +kernel
theorem d_F_fill_10 : decode c_F_fill 10 = .ok (.aload_n 0, 1) := by decide +kernel
theorem d_F_fill_11 : decode c_F_fill 11 = .ok (.iload_n 2, 1) := by decide +kernel
theorem d_F_fill_12 : decode c_F_fill 12 = .ok (.iload_n 1, 1) := by decide +kernel
theorem d_F_fill_13 : decode c_F_fill 13 = .ok (.iastore, 1) := by decide +kernel
theorem d_F_fill_14 : decode c_F_fill 14 = .ok (.iinc 2 1, 3) := by decide +kernel
theorem d_F_fill_17 : decode c_F_fill 17 = .ok (.goto (-12), 3) := by decide +kernel
theorem d_F_fill_20 : decode c_F_fill 20 = .ok (.return_, 1) := by decide +kernel
theorem d_J_bitCount_0 : decode c_J_bitCount 0 = .ok (.iload_n 0, 1) := by decide +kernel
theorem d_J_bitCount_1 : decode c_J_bitCount 1 = .ok (.iload_n 0, 1) := by decide +kernel
theorem d_J_bitCount_2 : decode c_J_bitCount 2 = .ok (.iconst 1, 1) := by decide +kernel
theorem d_J_bitCount_3 : decode c_J_bitCount 3 = .ok (.iushr, 1) := by decide +kernel
theorem d_J_bitCount_4 : decode c_J_bitCount 4 = .ok (.ldc_w 265, 3) := by decide +kernel
theorem d_J_bitCount_7 : decode c_J_bitCount 7 = .ok (.iand, 1) := by decide +kernel
theorem d_J_bitCount_8 : decode c_J_bitCount 8 = .ok (.isub, 1) := by decide +kernel
theorem d_J_bitCount_9 : decode c_J_bitCount 9 = .ok (.istore_n 0, 1) := by decide +kernel
theorem d_J_bitCount_10 : decode c_J_bitCount 10 = .ok (.iload_n 0, 1) := by decide +kernel
theorem d_J_bitCount_11 : decode c_J_bitCount 11 = .ok (.ldc_w 266, 3) := by decide +kernel
theorem d_J_bitCount_14 : decode c_J_bitCount 14 = .ok (.iand, 1) := by decide +kernel
theorem d_J_bitCount_15 : decode c_J_bitCount 15 = .ok (.iload_n 0, 1) := by decide +kernel
theorem d_J_bitCount_16 : decode c_J_bitCount 16 = .ok (.iconst 2, 1) := by decide +kernel
theorem d_J_bitCount_17 : decode c_J_bitCount 17 = .ok (.iushr, 1) := by decide +kernel
theorem d_J_bitCount_18 : decode c_J_bitCount 18 = .ok (.ldc_w 266, 3) := by decide +kernel
theorem d_J_bitCount_21 : decode c_J_bitCount 21 = .ok (.iand, 1) := by decide +kernel
theorem d_J_bitCount_22 : decode c_J_bitCount 22 = .ok (.iadd, 1) := by decide +kernel
theorem d_J_bitCount_23 : decode c_J_bitCount 23 = .ok (.istore_n 0, 1) := by decide +kernel
theorem d_J_bitCount_24 : decode c_J_bitCount 24 = .ok (.iload_n 0, 1) := by decide +kernel
theorem d_J_bitCount_25 : decode c_J_bitCount 25 = .ok (.iload_n 0, 1) := by decide +kernel
theorem d_J_bitCount_26 : decode c_J_bitCount 26 = .ok (.iconst 4, 1) := by decide +kernel
theorem d_J_bitCount_27 : decode c_J_bitCount 27 = .ok (.iushr, 1) := by decide +kernel
theorem d_J_bitCount_28 : decode c_J_bitCount 28 = .ok (.iadd, 1) := by decide +kernel
theorem d_J_bitCount_29 : decode c_J_bitCount 29 = .ok (.ldc_w 267, 3) := by decide +kernel
theorem d_J_bitCount_32 : decode c_J_bitCount 32 = .ok (.iand, 1) := by decide +kernel
theorem d_J_bitCount_33 : decode c_J_bitCount 33 = .ok (.istore_n 0, 1) := by decide +kernel
theorem d_J_bitCount_34 : decode c_J_bitCount 34 = .ok (.iload_n 0, 1) := by decide +kernel
theorem d_J_bitCount_35 : decode c_J_bitCount 35 = .ok (.iload_n 0, 1) := by decide +kernel
theorem d_J_bitCount_36 : decode c_J_bitCount 36 = .ok (.bipush 8, 2) := by decide +kernel
theorem d_J_bitCount_38 : decode c_J_bitCount 38 = .ok (.iushr, 1) := by decide +kernel
theorem d_J_bitCount_39 : decode c_J_bitCount 39 = .ok (.iadd, 1) := by decide +kernel
theorem d_J_bitCount_40 : decode c_J_bitCount 40 = .ok (.istore_n 0, 1) := by decide +kernel
theorem d_J_bitCount_41 : decode c_J_bitCount 41 = .ok (.iload_n 0, 1) := by decide +kernel
theorem d_J_bitCount_42 : decode c_J_bitCount 42 = .ok (.iload_n 0, 1) := by decide +kernel
theorem d_J_bitCount_43 : decode c_J_bitCount 43 = .ok (.bipush 16, 2) := by decide +kernel
theorem d_J_bitCount_45 : decode c_J_bitCount 45 = .ok (.iushr, 1) := by decide +kernel
theorem d_J_bitCount_46 : decode c_J_bitCount 46 = .ok (.iadd, 1) := by decide +kernel
theorem d_J_bitCount_47 : decode c_J_bitCount 47 = .ok (.istore_n 0, 1) := by decide +kernel
theorem d_J_bitCount_48 : decode c_J_bitCount 48 = .ok (.iload_n 0, 1) := by decide +kernel
theorem d_J_bitCount_49 : decode c_J_bitCount 49 = .ok (.bipush 63, 2) := by decide +kernel
theorem d_J_bitCount_51 : decode c_J_bitCount 51 = .ok (.iand, 1) := by decide +kernel
theorem d_J_bitCount_52 : decode c_J_bitCount 52 = .ok (.ireturn, 1) := by decide +kernel
theorem d_J_numberOfTrailingZeros_0 : decode c_J_numberOfTrailingZeros 0 = .ok (.iload_n 0, 1) := by decide +kernel
theorem d_J_numberOfTrailingZeros_1 : decode c_J_numberOfTrailingZeros 1 = .ok (.iconst (-1), 1) := by decide +kernel
theorem d_J_numberOfTrailingZeros_2 : decode c_J_numberOfTrailingZeros 2 = .ok (.ixor, 1) := by decide +kernel
theorem d_J_numberOfTrailingZeros_3 : decode c_J_numberOfTrailingZeros 3 = .ok (.iload_n 0, 1) := by decide +kernel
theorem d_J_numberOfTrailingZeros_4 : decode c_J_numberOfTrailingZeros 4 = .ok (.iconst 1, 1) := by decide +kernel
theorem d_J_numberOfTrailingZeros_5 : decode c_J_numberOfTrailingZeros 5 = .ok (.isub, 1) := by decide +kernel
theorem d_J_numberOfTrailingZeros_6 : decode c_J_numberOfTrailingZeros 6 = .ok (.iand, 1) := by decide +kernel
theorem d_J_numberOfTrailingZeros_7 : decode c_J_numberOfTrailingZeros 7 = .ok (.istore_n 0, 1) := by decide +kernel
theorem d_J_numberOfTrailingZeros_8 : decode c_J_numberOfTrailingZeros 8 = .ok (.iload_n 0, 1) := by decide +kernel
theorem d_J_numberOfTrailingZeros_9 : decode c_J_numberOfTrailingZeros 9 = .ok (.ifCond .gt 8, 3) := by decide +kernel
theorem d_J_numberOfTrailingZeros_12 : decode c_J_numberOfTrailingZeros 12 = .ok (.iload_n 0, 1) := by decide +kernel
theorem d_J_numberOfTrailingZeros_13 : decode c_J_numberOfTrailingZeros 13 = .ok (.bipush 32, 2) := by decide +kernel
theorem d_J_numberOfTrailingZeros_15 : decode c_J_numberOfTrailingZeros 15 = .ok (.iand, 1) := by decide +kernel
theorem d_J_numberOfTrailingZeros_16 : decode c_J_numberOfTrailingZeros 16 = .ok (.ireturn, 1) := by decide +kernel
theorem d_J_numberOfTrailingZeros_17 : decode c_J_numberOfTrailingZeros 17 = .ok (.iconst 1, 1) := by decide +kernel
theorem d_J_numberOfTrailingZeros_18 : decode c_J_numberOfTrailingZeros 18 = .ok (.istore_n 1, 1) := by decide +kernel
theorem d_J_numberOfTrailingZeros_19 : decode c_J_numberOfTrailingZeros 19 = .ok (.iload_n 0, 1) := by decide +kernel
theorem d_J_numberOfTrailingZeros_20 : decode c_J_numberOfTrailingZeros 20 = .ok (.ldc_w 264, 3) := by decide +kernel
theorem d_J_numberOfTrailingZeros_23 : decode c_J_numberOfTrailingZeros 23 = .ok (.if_icmp .le 11, 3) := by decide +kernel
theorem d_J_numberOfTrailingZeros_26 : decode c_J_numberOfTrailingZeros 26 = .ok (.iinc 1 16, 3) := by decide +kernel
theorem d_J_numberOfTrailingZeros_29 : decode c_J_numberOfTrailingZeros 29 = .ok (.iload_n 0, 1) := by decide +kernel
theorem d_J_numberOfTrailingZeros_30 : decode c_J_numberOfTrailingZeros 30 = .ok (.bipush 16, 2) := by decide +kernel
theorem d_J_numberOfTrailingZeros_32 : decode c_J_numberOfTrailingZeros 32 = .ok (.iushr, 1) := by decide +kernel
theorem d_J_numberOfTrailingZeros_33 : decode c_J_numberOfTrailingZeros 33 = .ok (.istore_n 0, 1) := by decide +kernel
theorem d_J_numberOfTrailingZeros_34 : decode c_J_numberOfTrailingZeros 34 = .ok (.iload_n 0, 1) := by decide +kernel
theorem d_J_numberOfTrailingZeros_35 : decode c_J_numberOfTrailingZeros 35 = .ok (.sipush 256, 3) := by decide +kernel
theorem d_J_numberOfTrailingZeros_38 : decode c_J_numberOfTrailingZeros 38 = .ok (.if_icmp .le 11, 3) := by decide +kernel
theorem d_J_numberOfTrailingZeros_41 : decode c_J_numberOfTrailingZeros 41 = .ok (.iinc 1 8, 3) := by decide +kernel
theorem d_J_numberOfTrailingZeros_44 : decode c_J_numberOfTrailingZeros 44 = .ok (.iload_n 0, 1) := by decide +kernel
theorem d_J_numberOfTrailingZeros_45 : decode c_J_numberOfTrailingZeros 45 = .ok (.bipush 8, 2) := by decide +kernel
theorem d_J_numberOfTrailingZeros_47 : decode c_J_numberOfTrailingZeros 47 = .ok (.iushr, 1) := by decide +kernel
theorem d_J_numberOfTrailingZeros_48 : decode c_J_numberOfTrailingZeros 48 = .ok (.istore_n 0, 1) := by decide +kernel
theorem d_J_numberOfTrailingZeros_49 : decode c_J_numberOfTrailingZeros 49 = .ok (.iload_n 0, 1) := by decide +kernel
theorem d_J_numberOfTrailingZeros_50 : decode c_J_numberOfTrailingZeros 50 = .ok (.bipush 16, 2) := by decide +kernel
theorem d_J_numberOfTrailingZeros_52 : decode c_J_numberOfTrailingZeros 52 = .ok (.if_icmp .le 10, 3) := by decide +kernel
theorem d_J_numberOfTrailingZeros_55 : decode c_J_numberOfTrailingZeros 55 = .ok (.iinc 1 4, 3) := by decide +kernel
theorem d_J_numberOfTrailingZeros_58 : decode c_J_numberOfTrailingZeros 58 = .ok (.iload_n 0, 1) := by decide +kernel
theorem d_J_numberOfTrailingZeros_59 : decode c_J_numberOfTrailingZeros 59 = .ok (.iconst 4, 1) := by decide +kernel
theorem d_J_numberOfTrailingZeros_60 : decode c_J_numberOfTrailingZeros 60 = .ok (.iushr, 1) := by decide +kernel
theorem d_J_numberOfTrailingZeros_61 : decode c_J_numberOfTrailingZeros 61 = .ok (.istore_n 0, 1) := by decide +kernel
theorem d_J_numberOfTrailingZeros_62 : decode c_J_numberOfTrailingZeros 62 = .ok (.iload_n 0, 1) := by decide +kernel
theorem d_J_numberOfTrailingZeros_63 : decode c_J_numberOfTrailingZeros 63 = .ok (.iconst 4, 1) := by decide +kernel
theorem d_J_numberOfTrailingZeros_64 : decode c_J_numberOfTrailingZeros 64 = .ok (.if_icmp .le 10, 3) := by decide +kernel
theorem d_J_numberOfTrailingZeros_67 : decode c_J_numberOfTrailingZeros 67 = .ok (.iinc 1 2, 3) := by decide +kernel
theorem d_J_numberOfTrailingZeros_70 : decode c_J_numberOfTrailingZeros 70 = .ok (.iload_n 0, 1) := by decide +kernel
theorem d_J_numberOfTrailingZeros_71 : decode c_J_numberOfTrailingZeros 71 = .ok (.iconst 2, 1) := by decide +kernel
theorem d_J_numberOfTrailingZeros_72 : decode c_J_numberOfTrailingZeros 72 = .ok (.iushr, 1) := by decide +kernel
theorem d_J_numberOfTrailingZeros_73 : decode c_J_numberOfTrailingZeros 73 = .ok (.istore_n 0, 1) := by decide +kernel
theorem d_J_numberOfTrailingZeros_74 : decode c_J_numberOfTrailingZeros 74 = .ok (.iload_n 1, 1) := by decide +kernel
theorem d_J_numberOfTrailingZeros_75 : decode c_J_numberOfTrailingZeros 75 = .ok (.iload_n 0, 1) := by decide +kernel
theorem d_J_numberOfTrailingZeros_76 : decode c_J_numberOfTrailingZeros 76 = .ok (.iconst 1, 1) := by decide +kernel
theorem d_J_numberOfTrailingZeros_77 : decode c_J_numberOfTrailingZeros 77 = .ok (.iushr, 1) := by decide +kernel
theorem d_J_numberOfTrailingZeros_78 : decode c_J_numberOfTrailingZeros 78 = .ok (.iadd, 1) := by decide +kernel
theorem d_J_numberOfTrailingZeros_79 : decode c_J_numberOfTrailingZeros 79 = .ok (.ireturn, 1) := by decide +kernel
theorem d_A_init_0 : decode c_A_init 0 = .ok (.aload_n 0, 1) := by decide +kernel
theorem d_A_init_1 : decode c_A_init 1 = .ok (.invokespecial 3, 3) := by decide +kernel
theorem d_A_init_4 : decode c_A_init 4 = .ok (.aload_n 0, 1) := by decide +kernel
theorem d_A_init_5 : decode c_A_init 5 = .ok (.bipush 66, 2) := by decide +kernel
theorem d_A_init_7 : decode c_A_init 7 = .ok (.newarray .int, 2) := by decide +kernel
theorem d_A_init_9 : decode c_A_init 9 = .ok (.putfield 9, 3) := by decide +kernel
theorem d_A_init_12 : decode c_A_init 12 = .ok (.aload_n 0, 1) := by decide +kernel
theorem d_A_init_13 : decode c_A_init 13 = .ok (.bipush 66, 2) := by decide +kernel
theorem d_A_init_15 : decode c_A_init 15 = .ok (.newarray .int, 2) := by decide +kernel
theorem d_A_init_17 : decode c_A_init 17 = .ok (.putfield 15, 3) := by decide +kernel
theorem d_A_init_20 : decode c_A_init 20 = .ok (.aload_n 0, 1) := by decide +kernel
theorem d_A_init_21 : decode c_A_init 21 = .ok (.bipush 66, 2) := by decide +kernel
theorem d_A_init_23 : decode c_A_init 23 = .ok (.newarray .int, 2) := by decide +kernel
theorem d_A_init_25 : decode c_A_init 25 = .ok (.putfield 18, 3) := by decide +kernel
theorem d_A_init_28 : decode c_A_init 28 = .ok (.aload_n 0, 1) := by decide +kernel
theorem d_A_init_29 : decode c_A_init 29 = .ok (.sipush 1584, 3) := by decide +kernel
theorem d_A_init_32 : decode c_A_init 32 = .ok (.newarray .int, 2) := by decide +kernel
theorem d_A_init_34 : decode c_A_init 34 = .ok (.putfield 21, 3) := by decide +kernel
theorem d_A_init_37 : decode c_A_init 37 = .ok (.aload_n 0, 1) := by decide +kernel
theorem d_A_init_38 : decode c_A_init 38 = .ok (.sipush 1584, 3) := by decide +kernel
theorem d_A_init_41 : decode c_A_init 41 = .ok (.newarray .int, 2) := by decide +kernel
theorem d_A_init_43 : decode c_A_init 43 = .ok (.putfield 24, 3) := by decide +kernel
theorem d_A_init_46 : decode c_A_init 46 = .ok (.aload_n 0, 1) := by decide +kernel
theorem d_A_init_47 : decode c_A_init 47 = .ok (.sipush 1584, 3) := by decide +kernel
theorem d_A_init_50 : decode c_A_init 50 = .ok (.newarray .int, 2) := by decide +kernel
theorem d_A_init_52 : decode c_A_init 52 = .ok (.putfield 27, 3) := by decide +kernel
theorem d_A_init_55 : decode c_A_init 55 = .ok (.aload_n 0, 1) := by decide +kernel
theorem d_A_init_56 : decode c_A_init 56 = .ok (.getfield 9, 3) := by decide +kernel
theorem d_A_init_59 : decode c_A_init 59 = .ok (.iconst (-1), 1) := by decide +kernel
theorem d_A_init_60 : decode c_A_init 60 = .ok (.invokestatic 30, 3) := by decide +kernel
theorem d_A_init_63 : decode c_A_init 63 = .ok (.return_, 1) := by decide +kernel
theorem d_A_isThere_0 : decode c_A_isThere 0 = .ok (.aload_n 0, 1) := by decide +kernel
theorem d_A_isThere_1 : decode c_A_isThere 1 = .ok (.getfield 9, 3) := by decide +kernel
theorem d_A_isThere_4 : decode c_A_isThere 4 = .ok (.iload_n 1, 1) := by decide +kernel
theorem d_A_isThere_5 : decode c_A_isThere 5 = .ok (.iaload, 1) := by decide +kernel
theorem d_A_isThere_6 : decode c_A_isThere 6 = .ok (.iconst (-1), 1) := by decide +kernel
theorem d_A_isThere_7 : decode c_A_isThere 7 = .ok (.if_icmp .eq 7, 3) := by decide +kernel
theorem d_A_isThere_10 : decode c_A_isThere 10 = .ok (.iconst 1, 1) := by decide +kernel
theorem d_A_isThere_11 : decode c_A_isThere 11 = .ok (.goto 4, 3) := by decide +kernel
theorem d_A_isThere_14 : decode c_A_isThere 14 = .ok (.iconst 0, 1) := by decide +kernel
theorem d_A_isThere_15 : decode c_A_isThere 15 = .ok (.ireturn, 1) := by decide +kernel
theorem d_A_clear_0 : decode c_A_clear 0 = .ok (.aload_n 0, 1) := by decide +kernel
theorem d_A_clear_1 : decode c_A_clear 1 = .ok (.getfield 9, 3) := by decide +kernel
theorem d_A_clear_4 : decode c_A_clear 4 = .ok (.iload_n 1, 1) := by decide +kernel
theorem d_A_clear_5 : decode c_A_clear 5 = .ok (.iconst (-1), 1) := by decide +kernel
theorem d_A_clear_6 : decode c_A_clear 6 = .ok (.iastore, 1) := by decide +kernel
theorem d_A_clear_7 : decode c_A_clear 7 = .ok (.aload_n 0, 1) := by decide +kernel
theorem d_A_clear_8 : decode c_A_clear 8 = .ok (.getfield 18, 3) := by decide +kernel
theorem d_A_clear_11 : decode c_A_clear 11 = .ok (.iload_n 1, 1) := by decide +kernel
theorem d_A_clear_12 : decode c_A_clear 12 = .ok (.iconst 0, 1) := by decide +kernel
theorem d_A_clear_13 : decode c_A_clear 13 = .ok (.iastore, 1) := by decide +kernel
theorem d_A_clear_14 : decode c_A_clear 14 = .ok (.return_, 1) := by decide +kernel
theorem d_A_append_0 : decode c_A_append 0 = .ok (.aload_n 0, 1) := by decide +kernel
theorem d_A_append_1 : decode c_A_append 1 = .ok (.iload_n 1, 1) := by decide +kernel
theorem d_A_append_2 : decode c_A_append 2 = .ok (.invokevirtual 36, 3) := by decide +kernel
theorem d_A_append_5 : decode c_A_append 5 = .ok (.ifCond .ne 4, 3) := by decide +kernel
theorem d_A_append_8 : decode c_A_append 8 = .ok (.return_, 1) := by decide +kernel
theorem d_A_append_9 : decode c_A_append 9 = .ok (.iload_n 1, 1) := by decide +kernel
theorem d_A_append_10 : decode c_A_append 10 = .ok (.aload_n 0, 1) := by decide +kernel
theorem d_A_append_11 : decode c_A_append 11 = .ok (.getfield 18, 3) := by decide +kernel
theorem d_A_append_14 : decode c_A_append 14 = .ok (.iload_n 1, 1) := by decide +kernel
theorem d_A_append_15 : decode c_A_append 15 = .ok (.iaload, 1) := by decide +kernel
theorem d_A_append_16 : decode c_A_append 16 = .ok (.invokestatic 40, 3) := by decide +kernel
theorem d_A_append_19 : decode c_A_append 19 = .ok (.istore 5, 2) := by decide +kernel
theorem d_A_append_21 : decode c_A_append 21 = .ok (.aload_n 0, 1) := by decide +kernel
theorem d_A_append_22 : decode c_A_append 22 = .ok (.getfield 21, 3) := by decide +kernel
theorem d_A_append_25 : decode c_A_append 25 = .ok (.iload 5, 2) := by decide +kernel
theorem d_A_append_27 : decode c_A_append 27 = .ok (.iload_n 2, 1) := by decide +kernel
theorem d_A_append_28 : decode c_A_append 28 = .ok (.iastore, 1) := by decide +kernel
theorem d_A_append_29 : decode c_A_append 29 = .ok (.aload_n 0, 1) := by decide +kernel
theorem d_A_append_30 : decode c_A_append 30 = .ok (.getfield 24, 3) := by decide +kernel
theorem d_A_append_33 : decode c_A_append 33 = .ok (.iload 5, 2) := by decide +kernel
theorem d_A_append_35 : decode c_A_append 35 = .ok (.iload_n 3, 1) := by decide +kernel
theorem d_A_append_36 : decode c_A_append 36 = .ok (.iastore, 1) := by decide +kernel
theorem d_A_append_37 : decode c_A_append 37 = .ok (.aload_n 0, 1) := by decide +kernel
theorem d_A_append_38 : decode c_A_append 38 = .ok (.getfield 27, 3) := by decide +kernel
theorem d_A_append_41 : decode c_A_append 41 = .ok (.iload 5, 2) := by decide +kernel
theorem d_A_append_43 : decode c_A_append 43 = .ok (.iload 4, 2) := by decide +kernel
theorem d_A_append_45 : decode c_A_append 45 = .ok (.iastore, 1) := by decide +kernel
theorem d_A_append_46 : decode c_A_append 46 = .ok (.aload_n 0, 1) := by decide +kernel
theorem d_A_append_47 : decode c_A_append 47 = .ok (.getfield 18, 3) := by decide +kernel
theorem d_A_append_50 : decode c_A_append 50 = .ok (.iload_n 1, 1) := by decide +kernel
theorem d_A_append_51 : decode c_A_append 51 = .ok (.dup2, 1) := by decide +kernel
theorem d_A_append_52 : decode c_A_append 52 = .ok (.iaload, 1) := by decide +kernel
theorem d_A_append_53 : decode c_A_append 53 = .ok (.iconst 1, 1) := by decide +kernel
theorem d_A_append_54 : decode c_A_append 54 = .ok (.iadd, 1) := by decide +kernel
theorem d_A_append_55 : decode c_A_append 55 = .ok (.iastore, 1) := by decide +kernel
theorem d_A_append_56 : decode c_A_append 56 = .ok (.return_, 1) := by decide +kernel
theorem d_A_hasRoom_0 : decode c_A_hasRoom 0 = .ok (.aload_n 0, 1) := by decide +kernel
theorem d_A_hasRoom_1 : decode c_A_hasRoom 1 = .ok (.getfield 18, 3) := by decide +kernel
theorem d_A_hasRoom_4 : decode c_A_hasRoom 4 = .ok (.iload_n 1, 1) := by decide +kernel
theorem d_A_hasRoom_5 : decode c_A_hasRoom 5 = .ok (.iaload, 1) := by decide +kernel
theorem d_A_hasRoom_6 : decode c_A_hasRoom 6 = .ok (.bipush 24, 2) := by decide +kernel
theorem d_A_hasRoom_8 : decode c_A_hasRoom 8 = .ok (.if_icmp .ge 7, 3) := by decide +kernel
theorem d_A_hasRoom_11 : decode c_A_hasRoom 11 = .ok (.iconst 1, 1) := by decide +kernel
theorem d_A_hasRoom_12 : decode c_A_hasRoom 12 = .ok (.goto 4, 3) := by decide +kernel
theorem d_A_hasRoom_15 : decode c_A_hasRoom 15 = .ok (.iconst 0, 1) := by decide +kernel
theorem d_A_hasRoom_16 : decode c_A_hasRoom 16 = .ok (.ireturn, 1) := by decide +kernel
theorem d_A_indexOf_0 : decode c_A_indexOf 0 = .ok (.iload_n 0, 1) := by decide +kernel
theorem d_A_indexOf_1 : decode c_A_indexOf 1 = .ok (.bipush 24, 2) := by decide +kernel
theorem d_A_indexOf_3 : decode c_A_indexOf 3 = .ok (.imul, 1) := by decide +kernel
theorem d_A_indexOf_4 : decode c_A_indexOf 4 = .ok (.iload_n 1, 1) := by decide +kernel
theorem d_A_indexOf_5 : decode c_A_indexOf 5 = .ok (.iadd, 1) := by decide +kernel
theorem d_A_indexOf_6 : decode c_A_indexOf 6 = .ok (.ireturn, 1) := by decide +kernel
theorem d_A_haveSameEntries_0 : decode c_A_haveSameEntries 0 = .ok (.aload_n 0, 1) := by decide +kernel
theorem d_A_haveSameEntries_1 : decode c_A_haveSameEntries 1 = .ok (.getfield 18, 3) := by decide +kernel
theorem d_A_haveSameEntries_4 : decode c_A_haveSameEntries 4 = .ok (.iload_n 1, 1) := by decide +kernel
theorem d_A_haveSameEntries_5 : decode c_A_haveSameEntries 5 = .ok (.iaload, 1) := by decide +kernel
theorem d_A_haveSameEntries_6 : decode c_A_haveSameEntries 6 = .ok (.aload_n 0, 1) := by decide +kernel
theorem d_A_haveSameEntries_7 : decode c_A_haveSameEntries 7 = .ok (.getfield 18, 3) := by decide +kernel
theorem d_A_haveSameEntries_10 : decode c_A_haveSameEntries 10 = .ok (.iload_n 2, 1) := by decide +kernel
theorem d_A_haveSameEntries_11 : decode c_A_haveSameEntries 11 = .ok (.iaload, 1) := by decide +kernel
theorem d_A_haveSameEntries_12 : decode c_A_haveSameEntries 12 = .ok (.if_icmp .eq 5, 3) := by decide +kernel
theorem d_A_haveSameEntries_15 : decode c_A_haveSameEntries 15 = .ok (.iconst 0, 1) := by decide +kernel
theorem d_A_haveSameEntries_16 : decode c_A_haveSameEntries 16 = .ok (.ireturn, 1) := by decide +kernel
theorem d_A_haveSameEntries_17 : decode c_A_haveSameEntries 17 = .ok (.iconst 0, 1) := by decide +kernel
theorem d_A_haveSameEntries_18 : decode c_A_haveSameEntries 18 = .ok (.istore_n 3, 1) := by decide +kernel
theorem d_A_haveSameEntries_19 : decode c_A_haveSameEntries 19 = .ok (.iload_n 3, 1) := by decide +kernel
theorem d_A_haveSameEntries_20 : decode c_A_haveSameEntries 20 = .ok (.aload_n 0, 1) := by decide +kernel
theorem d_A_haveSameEntries_21 : decode c_A_haveSameEntries 21 = .ok (.getfield 18, 3) := by decide +kernel
theorem d_A_haveSameEntries_24 : decode c_A_haveSameEntries 24 = .ok (.iload_n 1, 1) := by decide +kernel
theorem d_A_haveSameEntries_25 : decode c_A_haveSameEntries 25 = .ok (.iaload, 1) := by decide +kernel
theorem d_A_haveSameEntries_26 : decode c_A_haveSameEntries 26 = .ok (.if_icmp .ge 28, 3) := by decide +kernel
theorem d_A_haveSameEntries_29 : decode c_A_haveSameEntries 29 = .ok (.aload_n 0, 1) := by decide +kernel
theorem d_A_haveSameEntries_30 : decode c_A_haveSameEntries 30 = .ok (.iload_n 1, 1) := by decide +kernel
theorem d_A_haveSameEntries_31 : decode c_A_haveSameEntries 31 = .ok (.iload_n 3, 1) := by decide +kernel
theorem d_A_haveSameEntries_32 : decode c_A_haveSameEntries 32 = .ok (.invokestatic 40, 3) := by decide +kernel
theorem d_A_haveSameEntries_35 : decode c_A_haveSameEntries 35 = .ok (.iload_n 2, 1) := by decide +kernel
theorem d_A_haveSameEntries_36 : decode c_A_haveSameEntries 36 = .ok (.iload_n 3, 1) := by decide +kernel
theorem d_A_haveSameEntries_37 : decode c_A_haveSameEntries 37 = .ok (.invokestatic 40, 3) := by decide +kernel
theorem d_A_haveSameEntries_40 : decode c_A_haveSameEntries 40 = .ok (.invokevirtual 54, 3) := by decide +kernel
theorem d_A_haveSameEntries_43 : decode c_A_haveSameEntries 43 = .ok (.ifCond .ne 5, 3) := by decide +kernel
theorem d_A_haveSameEntries_46 : decode c_A_haveSameEntries 46 = .ok (.iconst 0, 1) := by decide +kernel
theorem d_A_haveSameEntries_47 : decode c_A_haveSameEntries 47 = .ok (.ireturn, 1) := by decide +kernel
theorem d_A_haveSameEntries_48 : decode c_A_haveSameEntries 48 = .ok (.iinc 3 1, 3) := by decide +kernel
theorem d_A_haveSameEntries_51 : decode c_A_haveSameEntries 51 = .ok (.goto (-32), 3) := by decide +kernel
theorem d_A_haveSameEntries_54 : decode c_A_haveSameEntries 54 = .ok (.iconst 1, 1) := by decide +kernel
theorem d_A_haveSameEntries_55 : decode c_A_haveSameEntries 55 = .ok (.ireturn, 1) := by decide +kernel
theorem d_A_isSameEntry_0 : decode c_A_isSameEntry 0 = .ok (.aload_n 0, 1) := by decide +kernel
theorem d_A_isSameEntry_1 : decode c_A_isSameEntry 1 = .ok (.getfield 21, 3) := by decide +kernel
theorem d_A_isSameEntry_4 : decode c_A_isSameEntry 4 = .ok (.iload_n 1, 1) := by decide +kernel
theorem d_A_isSameEntry_5 : decode c_A_isSameEntry 5 = .ok (.iaload, 1) := by decide +kernel
theorem d_A_isSameEntry_6 : decode c_A_isSameEntry 6 = .ok (.aload_n 0, 1) := by decide +kernel
theorem d_A_isSameEntry_7 : decode c_A_isSameEntry 7 = .ok (.getfield 21, 3) := by decide +kernel
theorem d_A_isSameEntry_10 : decode c_A_isSameEntry 10 = .ok (.iload_n 2, 1) := by decide +kernel
theorem d_A_isSameEntry_11 : decode c_A_isSameEntry 11 = .ok (.iaload, 1) := by decide +kernel
theorem d_A_isSameEntry_12 : decode c_A_isSameEntry 12 = .ok (.if_icmp .ne 37, 3) := by decide +kernel
theorem d_A_isSameEntry_15 : decode c_A_isSameEntry 15 = .ok (.aload_n 0, 1) := by decide +kernel
theorem d_A_isSameEntry_16 : decode c_A_isSameEntry 16 = .ok (.getfield 24, 3) := by decide +kernel
theorem d_A_isSameEntry_19 : decode c_A_isSameEntry 19 = .ok (.iload_n 1, 1) := by decide +kernel
theorem d_A_isSameEntry_20 : decode c_A_isSameEntry 20 = .ok (.iaload, 1) := by decide +kernel
theorem d_A_isSameEntry_21 : decode c_A_isSameEntry 21 = .ok (.aload_n 0, 1) := by decide +kernel
theorem d_A_isSameEntry_22 : decode c_A_isSameEntry 22 = .ok (.getfield 24, 3) := by decide +kernel
theorem d_A_isSameEntry_25 : decode c_A_isSameEntry 25 = .ok (.iload_n 2, 1) := by decide +kernel
theorem d_A_isSameEntry_26 : decode c_A_isSameEntry 26 = .ok (.iaload, 1) := by decide +kernel
theorem d_A_isSameEntry_27 : decode c_A_isSameEntry 27 = .ok (.if_icmp .ne 22, 3) := by decide +kernel
theorem d_A_isSameEntry_30 : decode c_A_isSameEntry 30 = .ok (.aload_n 0, 1) := by decide +kernel
theorem d_A_isSameEntry_31 : decode c_A_isSameEntry 31 = .ok (.getfield 27, 3) := by decide +kernel
theorem d_A_isSameEntry_34 : decode c_A_isSameEntry 34 = .ok (.iload_n 1, 1) := by decide +kernel
theorem d_A_isSameEntry_35 : decode c_A_isSameEntry 35 = .ok (.iaload, 1) := by decide +kernel
theorem d_A_isSameEntry_36 : decode c_A_isSameEntry 36 = .ok (.aload_n 0, 1) := by decide +kernel
theorem d_A_isSameEntry_37 : decode c_A_isSameEntry 37 = .ok (.getfield 27, 3) := by decide +kernel
theorem d_A_isSameEntry_40 : decode c_A_isSameEntry 40 = .ok (.iload_n 2, 1) := by decide +kernel
theorem d_A_isSameEntry_41 : decode c_A_isSameEntry 41 = .ok (.iaload, 1) := by decide +kernel
theorem d_A_isSameEntry_42 : decode c_A_isSameEntry 42 = .ok (.if_icmp .ne 7, 3) := by decide +kernel
theorem d_A_isSameEntry_45 : decode c_A_isSameEntry 45 = .ok (.iconst 1, 1) := by decide +kernel
theorem d_A_isSameEntry_46 : decode c_A_isSameEntry 46 = .ok (.goto 4, 3) := by decide +kernel
theorem d_A_isSameEntry_49 : decode c_A_isSameEntry 49 = .ok (.iconst 0, 1) := by decide +kernel
theorem d_A_isSameEntry_50 : decode c_A_isSameEntry 50 = .ok (.ireturn, 1) := by decide +kernel
theorem d_A_copyEntries_0 : decode c_A_copyEntries 0 = .ok (.aload_n 0, 1) := by decide +kernel
theorem d_A_copyEntries_1 : decode c_A_copyEntries 1 = .ok (.getfield 18, 3) := by decide +kernel
theorem d_A_copyEntries_4 : decode c_A_copyEntries 4 = .ok (.iload_n 1, 1) := by decide +kernel
theorem d_A_copyEntries_5 : decode c_A_copyEntries 5 = .ok (.iaload, 1) := by decide +kernel
theorem d_A_copyEntries_6 : decode c_A_copyEntries 6 = .ok (.istore_n 3, 1) := by decide +kernel
theorem d_A_copyEntries_7 : decode c_A_copyEntries 7 = .ok (.aload_n 0, 1) := by decide +kernel
theorem d_A_copyEntries_8 : decode c_A_copyEntries 8 = .ok (.getfield 21, 3) := by decide +kernel
theorem d_A_copyEntries_11 : decode c_A_copyEntries 11 = .ok (.iload_n 1, 1) := by decide +kernel
theorem d_A_copyEntries_12 : decode c_A_copyEntries 12 = .ok (.iconst 0, 1) := by decide +kernel
theorem d_A_copyEntries_13 : decode c_A_copyEntries 13 = .ok (.invokestatic 40, 3) := by decide +kernel
theorem d_A_copyEntries_16 : decode c_A_copyEntries 16 = .ok (.aload_n 0, 1) := by decide +kernel
theorem d_A_copyEntries_17 : decode c_A_copyEntries 17 = .ok (.getfield 21, 3) := by decide +kernel
theorem d_A_copyEntries_20 : decode c_A_copyEntries 20 = .ok (.iload_n 2, 1) := by decide +kernel
theorem d_A_copyEntries_21 : decode c_A_copyEntries 21 = .ok (.iconst 0, 1) := by decide +kernel
theorem d_A_copyEntries_22 : decode c_A_copyEntries 22 = .ok (.invokestatic 40, 3) := by decide +kernel
theorem d_A_copyEntries_25 : decode c_A_copyEntries 25 = .ok (.iload_n 3, 1) := by decide +kernel
theorem d_A_copyEntries_26 : decode c_A_copyEntries 26 = .ok (.invokestatic 48, 3) := by decide +kernel
theorem d_A_copyEntries_29 : decode c_A_copyEntries 29 = .ok (.aload_n 0, 1) := by decide +kernel
theorem d_A_copyEntries_30 : decode c_A_copyEntries 30 = .ok (.getfield 24, 3) := by decide +kernel
theorem d_A_copyEntries_33 : decode c_A_copyEntries 33 = .ok (.iload_n 1, 1) := by decide +kernel
theorem d_A_copyEntries_34 : decode c_A_copyEntries 34 = .ok (.iconst 0, 1) := by decide +kernel
theorem d_A_copyEntries_35 : decode c_A_copyEntries 35 = .ok (.invokestatic 40, 3) := by decide +kernel
theorem d_A_copyEntries_38 : decode c_A_copyEntries 38 = .ok (.aload_n 0, 1) := by decide +kernel
theorem d_A_copyEntries_39 : decode c_A_copyEntries 39 = .ok (.getfield 24, 3) := by decide +kernel
theorem d_A_copyEntries_42 : decode c_A_copyEntries 42 = .ok (.iload_n 2, 1) := by decide +kernel
theorem d_A_copyEntries_43 : decode c_A_copyEntries 43 = .ok (.iconst 0, 1) := by decide +kernel
theorem d_A_copyEntries_44 : decode c_A_copyEntries 44 = .ok (.invokestatic 40, 3) := by decide +kernel
theorem d_A_copyEntries_47 : decode c_A_copyEntries 47 = .ok (.iload_n 3, 1) := by decide +kernel
theorem d_A_copyEntries_48 : decode c_A_copyEntries 48 = .ok (.invokestatic 48, 3) := by decide +kernel
theorem d_A_copyEntries_51 : decode c_A_copyEntries 51 = .ok (.aload_n 0, 1) := by decide +kernel
theorem d_A_copyEntries_52 : decode c_A_copyEntries 52 = .ok (.getfield 27, 3) := by decide +kernel
theorem d_A_copyEntries_55 : decode c_A_copyEntries 55 = .ok (.iload_n 1, 1) := by decide +kernel
theorem d_A_copyEntries_56 : decode c_A_copyEntries 56 = .ok (.iconst 0, 1) := by decide +kernel
theorem d_A_copyEntries_57 : decode c_A_copyEntries 57 = .ok (.invokestatic 40, 3) := by decide +kernel
theorem d_A_copyEntries_60 : decode c_A_copyEntries 60 = .ok (.aload_n 0, 1) := by decide +kernel
theorem d_A_copyEntries_61 : decode c_A_copyEntries 61 = .ok (.getfield 27, 3) := by decide +kernel
theorem d_A_copyEntries_64 : decode c_A_copyEntries 64 = .ok (.iload_n 2, 1) := by decide +kernel
theorem d_A_copyEntries_65 : decode c_A_copyEntries 65 = .ok (.iconst 0, 1) := by decide +kernel
theorem d_A_copyEntries_66 : decode c_A_copyEntries 66 = .ok (.invokestatic 40, 3) := by decide +kernel
theorem d_A_copyEntries_69 : decode c_A_copyEntries 69 = .ok (.iload_n 3, 1) := by decide +kernel
theorem d_A_copyEntries_70 : decode c_A_copyEntries 70 = .ok (.invokestatic 48, 3) := by decide +kernel
theorem d_A_copyEntries_73 : decode c_A_copyEntries 73 = .ok (.aload_n 0, 1) := by decide +kernel
theorem d_A_copyEntries_74 : decode c_A_copyEntries 74 = .ok (.getfield 18, 3) := by decide +kernel
theorem d_A_copyEntries_77 : decode c_A_copyEntries 77 = .ok (.iload_n 2, 1) := by decide +kernel
theorem d_A_copyEntries_78 : decode c_A_copyEntries 78 = .ok (.iload_n 3, 1) := by decide +kernel
theorem d_A_copyEntries_79 : decode c_A_copyEntries 79 = .ok (.iastore, 1) := by decide +kernel
theorem d_A_copyEntries_80 : decode c_A_copyEntries 80 = .ok (.return_, 1) := by decide +kernel
theorem d_A_has_0 : decode c_A_has 0 = .ok (.aload_n 0, 1) := by decide +kernel
theorem d_A_has_1 : decode c_A_has 1 = .ok (.iload_n 1, 1) := by decide +kernel
theorem d_A_has_2 : decode c_A_has 2 = .ok (.iload_n 2, 1) := by decide +kernel
theorem d_A_has_3 : decode c_A_has 3 = .ok (.iload_n 3, 1) := by decide +kernel
theorem d_A_has_4 : decode c_A_has 4 = .ok (.invokevirtual 44, 3) := by decide +kernel
theorem d_A_has_7 : decode c_A_has 7 = .ok (.iconst (-1), 1) := by decide +kernel
theorem d_A_has_8 : decode c_A_has 8 = .ok (.if_icmp .eq 7, 3) := by decide +kernel
theorem d_A_has_11 : decode c_A_has 11 = .ok (.iconst 1, 1) := by decide +kernel
theorem d_A_has_12 : decode c_A_has 12 = .ok (.goto 4, 3) := by decide +kernel
theorem d_A_has_15 : decode c_A_has 15 = .ok (.iconst 0, 1) := by decide +kernel
theorem d_A_has_16 : decode c_A_has 16 = .ok (.ireturn, 1) := by decide +kernel
theorem d_A_costOf_0 : decode c_A_costOf 0 = .ok (.iload_n 1, 1) := by decide +kernel
theorem d_A_costOf_1 : decode c_A_costOf 1 = .ok (.aload_n 0, 1) := by decide +kernel
theorem d_A_costOf_2 : decode c_A_costOf 2 = .ok (.getfield 18, 3) := by decide +kernel
theorem d_A_costOf_5 : decode c_A_costOf 5 = .ok (.iload_n 1, 1) := by decide +kernel
theorem d_A_costOf_6 : decode c_A_costOf 6 = .ok (.iaload, 1) := by decide +kernel
theorem d_A_costOf_7 : decode c_A_costOf 7 = .ok (.invokestatic 40, 3) := by decide +kernel
theorem d_A_costOf_10 : decode c_A_costOf 10 = .ok (.istore 4, 2) := by decide +kernel
theorem d_A_costOf_12 : decode c_A_costOf 12 = .ok (.iload_n 1, 1) := by decide +kernel
theorem d_A_costOf_13 : decode c_A_costOf 13 = .ok (.iconst 0, 1) := by decide +kernel
theorem d_A_costOf_14 : decode c_A_costOf 14 = .ok (.invokestatic 40, 3) := by decide +kernel
theorem d_A_costOf_17 : decode c_A_costOf 17 = .ok (.istore 5, 2) := by decide +kernel
theorem d_A_costOf_19 : decode c_A_costOf 19 = .ok (.iload 5, 2) := by decide +kernel
theorem d_A_costOf_21 : decode c_A_costOf 21 = .ok (.iload 4, 2) := by decide +kernel
theorem d_A_costOf_23 : decode c_A_costOf 23 = .ok (.if_icmp .ge 39, 3) := by decide +kernel
theorem d_A_costOf_26 : decode c_A_costOf 26 = .ok (.aload_n 0, 1) := by decide +kernel
theorem d_A_costOf_27 : decode c_A_costOf 27 = .ok (.getfield 21, 3) := by decide +kernel
theorem d_A_costOf_30 : decode c_A_costOf 30 = .ok (.iload 5, 2) := by decide +kernel
theorem d_A_costOf_32 : decode c_A_costOf 32 = .ok (.iaload, 1) := by decide +kernel
theorem d_A_costOf_33 : decode c_A_costOf 33 = .ok (.iload_n 2, 1) := by decide +kernel
theorem d_A_costOf_34 : decode c_A_costOf 34 = .ok (.if_icmp .ne 22, 3) := by decide +kernel
theorem d_A_costOf_37 : decode c_A_costOf 37 = .ok (.aload_n 0, 1) := by decide +kernel
theorem d_A_costOf_38 : decode c_A_costOf 38 = .ok (.getfield 24, 3) := by decide +kernel
theorem d_A_costOf_41 : decode c_A_costOf 41 = .ok (.iload 5, 2) := by decide +kernel
theorem d_A_costOf_43 : decode c_A_costOf 43 = .ok (.iaload, 1) := by decide +kernel
theorem d_A_costOf_44 : decode c_A_costOf 44 = .ok (.iload_n 3, 1) := by decide +kernel
theorem d_A_costOf_45 : decode c_A_costOf 45 = .ok (.if_icmp .ne 11, 3) := by decide +kernel
theorem d_A_costOf_48 : decode c_A_costOf 48 = .ok (.aload_n 0, 1) := by decide +kernel
theorem d_A_costOf_49 : decode c_A_costOf 49 = .ok (.getfield 27, 3) := by decide +kernel
theorem d_A_costOf_52 : decode c_A_costOf 52 = .ok (.iload 5, 2) := by decide +kernel
theorem d_A_costOf_54 : decode c_A_costOf 54 = .ok (.iaload, 1) := by decide +kernel
theorem d_A_costOf_55 : decode c_A_costOf 55 = .ok (.ireturn, 1) := by decide +kernel
theorem d_A_costOf_56 : decode c_A_costOf 56 = .ok (.iinc 5 1, 3) := by decide +kernel
theorem d_A_costOf_59 : decode c_A_costOf 59 = .ok (.goto (-40), 3) := by decide +kernel
theorem d_A_costOf_62 : decode c_A_costOf 62 = .ok (.iconst (-1), 1) := by decide +kernel
theorem d_A_costOf_63 : decode c_A_costOf 63 = .ok (.ireturn, 1) := by decide +kernel
theorem d_K_init_0 : decode c_K_init 0 = .ok (.aload_n 0, 1) := by decide +kernel
theorem d_K_init_1 : decode c_K_init 1 = .ok (.invokespecial 3, 3) := by decide +kernel
theorem d_K_init_4 : decode c_K_init 4 = .ok (.aload_n 0, 1) := by decide +kernel
theorem d_K_init_5 : decode c_K_init 5 = .ok (.bipush 64, 2) := by decide +kernel
theorem d_K_init_7 : decode c_K_init 7 = .ok (.newarray .int, 2) := by decide +kernel
theorem d_K_init_9 : decode c_K_init 9 = .ok (.putfield 9, 3) := by decide +kernel
theorem d_K_init_12 : decode c_K_init 12 = .ok (.aload_n 0, 1) := by decide +kernel
theorem d_K_init_13 : decode c_K_init 13 = .ok (.bipush 16, 2) := by decide +kernel
theorem d_K_init_15 : decode c_K_init 15 = .ok (.newarray .int, 2) := by decide +kernel
theorem d_K_init_17 : decode c_K_init 17 = .ok (.putfield 15, 3) := by decide +kernel
theorem d_K_init_20 : decode c_K_init 20 = .ok (.return_, 1) := by decide +kernel
theorem d_K_tellInto_0 : decode c_K_tellInto 0 = .ok (.aload_n 1, 1) := by decide +kernel
theorem d_K_tellInto_1 : decode c_K_tellInto 1 = .ok (.iload_n 2, 1) := by decide +kernel
theorem d_K_tellInto_2 : decode c_K_tellInto 2 = .ok (.invokevirtual 41, 3) := by decide +kernel
theorem d_K_tellInto_5 : decode c_K_tellInto 5 = .ok (.iconst 0, 1) := by decide +kernel
theorem d_K_tellInto_6 : decode c_K_tellInto 6 = .ok (.istore_n 3, 1) := by decide +kernel
theorem d_K_tellInto_7 : decode c_K_tellInto 7 = .ok (.iload_n 3, 1) := by decide +kernel
theorem d_K_tellInto_8 : decode c_K_tellInto 8 = .ok (.bipush 64, 2) := by decide +kernel
theorem d_K_tellInto_10 : decode c_K_tellInto 10 = .ok (.if_icmp .ge 30, 3) := by decide +kernel
theorem d_K_tellInto_13 : decode c_K_tellInto 13 = .ok (.aload_n 0, 1) := by decide +kernel
theorem d_K_tellInto_14 : decode c_K_tellInto 14 = .ok (.iload_n 3, 1) := by decide +kernel
theorem d_K_tellInto_15 : decode c_K_tellInto 15 = .ok (.invokevirtual 18, 3) := by decide +kernel
theorem d_K_tellInto_18 : decode c_K_tellInto 18 = .ok (.ifCond .eq 16, 3) := by decide +kernel
theorem d_K_tellInto_21 : decode c_K_tellInto 21 = .ok (.aload_n 1, 1) := by decide +kernel
theorem d_K_tellInto_22 : decode c_K_tellInto 22 = .ok (.iload_n 2, 1) := by decide +kernel
theorem d_K_tellInto_23 : decode c_K_tellInto 23 = .ok (.iconst (-1), 1) := by decide +kernel
theorem d_K_tellInto_24 : decode c_K_tellInto 24 = .ok (.iload_n 3, 1) := by decide +kernel
theorem d_K_tellInto_25 : decode c_K_tellInto 25 = .ok (.aload_n 0, 1) := by decide +kernel
theorem d_K_tellInto_26 : decode c_K_tellInto 26 = .ok (.getfield 9, 3) := by decide +kernel
theorem d_K_tellInto_29 : decode c_K_tellInto 29 = .ok (.iload_n 3, 1) := by decide +kernel
theorem d_K_tellInto_30 : decode c_K_tellInto 30 = .ok (.iaload, 1) := by decide +kernel
theorem d_K_tellInto_31 : decode c_K_tellInto 31 = .ok (.invokevirtual 46, 3) := by decide +kernel
theorem d_K_tellInto_34 : decode c_K_tellInto 34 = .ok (.iinc 3 1, 3) := by decide +kernel
theorem d_K_tellInto_37 : decode c_K_tellInto 37 = .ok (.goto (-30), 3) := by decide +kernel
theorem d_K_tellInto_40 : decode c_K_tellInto 40 = .ok (.iconst 0, 1) := by decide +kernel
theorem d_K_tellInto_41 : decode c_K_tellInto 41 = .ok (.istore_n 3, 1) := by decide +kernel
theorem d_K_tellInto_42 : decode c_K_tellInto 42 = .ok (.iload_n 3, 1) := by decide +kernel
theorem d_K_tellInto_43 : decode c_K_tellInto 43 = .ok (.aload_n 0, 1) := by decide +kernel
theorem d_K_tellInto_44 : decode c_K_tellInto 44 = .ok (.getfield 30, 3) := by decide +kernel
theorem d_K_tellInto_47 : decode c_K_tellInto 47 = .ok (.if_icmp .ge 43, 3) := by decide +kernel
theorem d_K_tellInto_50 : decode c_K_tellInto 50 = .ok (.aload_n 0, 1) := by decide +kernel
theorem d_K_tellInto_51 : decode c_K_tellInto 51 = .ok (.getfield 15, 3) := by decide +kernel
theorem d_K_tellInto_54 : decode c_K_tellInto 54 = .ok (.iload_n 3, 1) := by decide +kernel
theorem d_K_tellInto_55 : decode c_K_tellInto 55 = .ok (.iaload, 1) := by decide +kernel
theorem d_K_tellInto_56 : decode c_K_tellInto 56 = .ok (.bipush 64, 2) := by decide +kernel
theorem d_K_tellInto_58 : decode c_K_tellInto 58 = .ok (.idiv, 1) := by decide +kernel
theorem d_K_tellInto_59 : decode c_K_tellInto 59 = .ok (.istore 4, 2) := by decide +kernel
theorem d_K_tellInto_61 : decode c_K_tellInto 61 = .ok (.aload_n 1, 1) := by decide +kernel
theorem d_K_tellInto_62 : decode c_K_tellInto 62 = .ok (.iload_n 2, 1) := by decide +kernel
theorem d_K_tellInto_63 : decode c_K_tellInto 63 = .ok (.aload_n 0, 1) := by decide +kernel
theorem d_K_tellInto_64 : decode c_K_tellInto 64 = .ok (.getfield 15, 3) := by decide +kernel
theorem d_K_tellInto_67 : decode c_K_tellInto 67 = .ok (.iload_n 3, 1) := by decide +kernel
theorem d_K_tellInto_68 : decode c_K_tellInto 68 = .ok (.iaload, 1) := by decide +kernel
theorem d_K_tellInto_69 : decode c_K_tellInto 69 = .ok (.bipush 64, 2) := by decide +kernel
theorem d_K_tellInto_71 : decode c_K_tellInto 71 = .ok (.irem, 1) := by decide +kernel
theorem d_K_tellInto_72 : decode c_K_tellInto 72 = .ok (.iload 4, 2) := by decide +kernel
theorem d_K_tellInto_74 : decode c_K_tellInto 74 = .ok (.aload_n 0, 1) := by decide +kernel
theorem d_K_tellInto_75 : decode c_K_tellInto 75 = .ok (.getfield 9, 3) := by decide +kernel
theorem d_K_tellInto_78 : decode c_K_tellInto 78 = .ok (.iload 4, 2) := by decide +kernel
theorem d_K_tellInto_80 : decode c_K_tellInto 80 = .ok (.iaload, 1) := by decide +kernel
theorem d_K_tellInto_81 : decode c_K_tellInto 81 = .ok (.invokevirtual 46, 3) := by decide +kernel
theorem d_K_tellInto_84 : decode c_K_tellInto 84 = .ok (.iinc 3 1, 3) := by decide +kernel
theorem d_K_tellInto_87 : decode c_K_tellInto 87 = .ok (.goto (-45), 3) := by decide +kernel
theorem d_K_tellInto_90 : decode c_K_tellInto 90 = .ok (.return_, 1) := by decide +kernel
theorem d_K_hasPort_0 : decode c_K_hasPort 0 = .ok (.aload_n 0, 1) := by decide +kernel
theorem d_K_hasPort_1 : decode c_K_hasPort 1 = .ok (.getfield 9, 3) := by decide +kernel
theorem d_K_hasPort_4 : decode c_K_hasPort 4 = .ok (.iload_n 1, 1) := by decide +kernel
theorem d_K_hasPort_5 : decode c_K_hasPort 5 = .ok (.iaload, 1) := by decide +kernel
theorem d_K_hasPort_6 : decode c_K_hasPort 6 = .ok (.ifCond .eq 7, 3) := by decide +kernel
theorem d_K_hasPort_9 : decode c_K_hasPort 9 = .ok (.iconst 1, 1) := by decide +kernel
theorem d_K_hasPort_10 : decode c_K_hasPort 10 = .ok (.goto 4, 3) := by decide +kernel
theorem d_K_hasPort_13 : decode c_K_hasPort 13 = .ok (.iconst 0, 1) := by decide +kernel
theorem d_K_hasPort_14 : decode c_K_hasPort 14 = .ok (.ireturn, 1) := by decide +kernel
theorem d_K_hasRoomForPort_0 : decode c_K_hasRoomForPort 0 = .ok (.aload_n 0, 1) := by decide +kernel
theorem d_K_hasRoomForPort_1 : decode c_K_hasRoomForPort 1 = .ok (.iload_n 1, 1) := by decide +kernel
theorem d_K_hasRoomForPort_2 : decode c_K_hasRoomForPort 2 = .ok (.invokevirtual 18, 3) := by decide +kernel
theorem d_K_hasRoomForPort_5 : decode c_K_hasRoomForPort 5 = .ok (.ifCond .ne 12, 3) := by decide +kernel
theorem d_K_hasRoomForPort_8 : decode c_K_hasRoomForPort 8 = .ok (.aload_n 0, 1) := by decide +kernel
theorem d_K_hasRoomForPort_9 : decode c_K_hasRoomForPort 9 = .ok (.getfield 22, 3) := by decide +kernel
theorem d_K_hasRoomForPort_12 : decode c_K_hasRoomForPort 12 = .ok (.bipush 8, 2) := by decide +kernel
theorem d_K_hasRoomForPort_14 : decode c_K_hasRoomForPort 14 = .ok (.if_icmp .ge 7, 3) := by decide +kernel
theorem d_K_hasRoomForPort_17 : decode c_K_hasRoomForPort 17 = .ok (.iconst 1, 1) := by decide +kernel
theorem d_K_hasRoomForPort_18 : decode c_K_hasRoomForPort 18 = .ok (.goto 4, 3) := by decide +kernel
theorem d_K_hasRoomForPort_21 : decode c_K_hasRoomForPort 21 = .ok (.iconst 0, 1) := by decide +kernel
theorem d_K_hasRoomForPort_22 : decode c_K_hasRoomForPort 22 = .ok (.ireturn, 1) := by decide +kernel
theorem d_K_setPort_0 : decode c_K_setPort 0 = .ok (.aload_n 0, 1) := by decide +kernel
theorem d_K_setPort_1 : decode c_K_setPort 1 = .ok (.getfield 9, 3) := by decide +kernel
theorem d_K_setPort_4 : decode c_K_setPort 4 = .ok (.iload_n 1, 1) := by decide +kernel
theorem d_K_setPort_5 : decode c_K_setPort 5 = .ok (.iaload, 1) := by decide +kernel
theorem d_K_setPort_6 : decode c_K_setPort 6 = .ok (.istore_n 3, 1) := by decide +kernel
theorem d_K_setPort_7 : decode c_K_setPort 7 = .ok (.aload_n 0, 1) := by decide +kernel
theorem d_K_setPort_8 : decode c_K_setPort 8 = .ok (.getfield 9, 3) := by decide +kernel
theorem d_K_setPort_11 : decode c_K_setPort 11 = .ok (.iload_n 1, 1) := by decide +kernel
theorem d_K_setPort_12 : decode c_K_setPort 12 = .ok (.iload_n 2, 1) := by decide +kernel
theorem d_K_setPort_13 : decode c_K_setPort 13 = .ok (.iastore, 1) := by decide +kernel
theorem d_K_setPort_14 : decode c_K_setPort 14 = .ok (.iload_n 3, 1) := by decide +kernel
theorem d_K_setPort_15 : decode c_K_setPort 15 = .ok (.ifCond .ne 17, 3) := by decide +kernel
theorem d_K_setPort_18 : decode c_K_setPort 18 = .ok (.iload_n 2, 1) := by decide +kernel
theorem d_K_setPort_19 : decode c_K_setPort 19 = .ok (.ifCond .eq 13, 3) := by decide +kernel
theorem d_K_setPort_22 : decode c_K_setPort 22 = .ok (.aload_n 0, 1) := by decide +kernel
theorem d_K_setPort_23 : decode c_K_setPort 23 = .ok (.dup, 1) := by decide +kernel
theorem d_K_setPort_24 : decode c_K_setPort 24 = .ok (.getfield 22, 3) := by decide +kernel
theorem d_K_setPort_27 : decode c_K_setPort 27 = .ok (.iconst 1, 1) := by decide +kernel
theorem d_K_setPort_28 : decode c_K_setPort 28 = .ok (.iadd, 1) := by decide +kernel
theorem d_K_setPort_29 : decode c_K_setPort 29 = .ok (.putfield 22, 3) := by decide +kernel
theorem d_K_setPort_32 : decode c_K_setPort 32 = .ok (.iload_n 3, 1) := by decide +kernel
theorem d_K_setPort_33 : decode c_K_setPort 33 = .ok (.ifCond .eq 22, 3) := by decide +kernel
theorem d_K_setPort_36 : decode c_K_setPort 36 = .ok (.iload_n 2, 1) := by decide +kernel
theorem d_K_setPort_37 : decode c_K_setPort 37 = .ok (.ifCond .ne 18, 3) := by decide +kernel
theorem d_K_setPort_40 : decode c_K_setPort 40 = .ok (.aload_n 0, 1) := by decide +kernel
theorem d_K_setPort_41 : decode c_K_setPort 41 = .ok (.dup, 1) := by decide +kernel
theorem d_K_setPort_42 : decode c_K_setPort 42 = .ok (.getfield 22, 3) := by decide +kernel
theorem d_K_setPort_45 : decode c_K_setPort 45 = .ok (.iconst 1, 1) := by decide +kernel
theorem d_K_setPort_46 : decode c_K_setPort 46 = .ok (.isub, 1) := by decide +kernel
theorem d_K_setPort_47 : decode c_K_setPort 47 = .ok (.putfield 22, 3) := by decide +kernel
theorem d_K_setPort_50 : decode c_K_setPort 50 = .ok (.aload_n 0, 1) := by decide +kernel
theorem d_K_setPort_51 : decode c_K_setPort 51 = .ok (.iload_n 1, 1) := by decide +kernel
theorem d_K_setPort_52 : decode c_K_setPort 52 = .ok (.invokevirtual 26, 3) := by decide +kernel
theorem d_K_setPort_55 : decode c_K_setPort 55 = .ok (.iload_n 3, 1) := by decide +kernel
theorem d_K_setPort_56 : decode c_K_setPort 56 = .ok (.ireturn, 1) := by decide +kernel
theorem d_K_removeFriendsOn_0 : decode c_K_removeFriendsOn 0 = .ok (.aload_n 0, 1) := by decide +kernel
theorem d_K_removeFriendsOn_1 : decode c_K_removeFriendsOn 1 = .ok (.iload_n 1, 1) := by decide +kernel
theorem d_K_removeFriendsOn_2 : decode c_K_removeFriendsOn 2 = .ok (.iconst 0, 1) := by decide +kernel
theorem d_K_removeFriendsOn_3 : decode c_K_removeFriendsOn 3 = .ok (.invokestatic 37, 3) := by decide +kernel
theorem d_K_removeFriendsOn_6 : decode c_K_removeFriendsOn 6 = .ok (.iload_n 1, 1) := by decide +kernel
theorem d_K_removeFriendsOn_7 : decode c_K_removeFriendsOn 7 = .ok (.bipush 63, 2) := by decide +kernel
theorem d_K_removeFriendsOn_9 : decode c_K_removeFriendsOn 9 = .ok (.invokestatic 37, 3) := by decide +kernel
theorem d_K_removeFriendsOn_12 : decode c_K_removeFriendsOn 12 = .ok (.invokevirtual 33, 3) := by decide +kernel
theorem d_K_removeFriendsOn_15 : decode c_K_removeFriendsOn 15 = .ok (.return_, 1) := by decide +kernel
theorem d_K_removeFriendsFrom_0 : decode c_K_removeFriendsFrom 0 = .ok (.iconst 0, 1) := by decide +kernel
theorem d_K_removeFriendsFrom_1 : decode c_K_removeFriendsFrom 1 = .ok (.istore_n 3, 1) := by decide +kernel
theorem d_K_removeFriendsFrom_2 : decode c_K_removeFriendsFrom 2 = .ok (.iconst 0, 1) := by decide +kernel
theorem d_K_removeFriendsFrom_3 : decode c_K_removeFriendsFrom 3 = .ok (.istore 4, 2) := by decide +kernel
theorem d_K_removeFriendsFrom_5 : decode c_K_removeFriendsFrom 5 = .ok (.iload 4, 2) := by decide +kernel
theorem d_K_removeFriendsFrom_7 : decode c_K_removeFriendsFrom 7 = .ok (.aload_n 0, 1) := by decide +kernel
theorem d_K_removeFriendsFrom_8 : decode c_K_removeFriendsFrom 8 = .ok (.getfield 30, 3) := by decide +kernel
theorem d_K_removeFriendsFrom_11 : decode c_K_removeFriendsFrom 11 = .ok (.if_icmp .ge 41, 3) := by decide +kernel
theorem d_K_removeFriendsFrom_14 : decode c_K_removeFriendsFrom 14 = .ok (.aload_n 0, 1) := by decide +kernel
theorem d_K_removeFriendsFrom_15 : decode c_K_removeFriendsFrom 15 = .ok (.getfield 15, 3) := by decide +kernel
theorem d_K_removeFriendsFrom_18 : decode c_K_removeFriendsFrom 18 = .ok (.iload 4, 2) := by decide +kernel
theorem d_K_removeFriendsFrom_20 : decode c_K_removeFriendsFrom 20 = .ok (.iaload, 1) := by decide +kernel
theorem d_K_removeFriendsFrom_21 : decode c_K_removeFriendsFrom 21 = .ok (.istore 5, 2) := by decide +kernel
theorem d_K_removeFriendsFrom_23 : decode c_K_removeFriendsFrom 23 = .ok (.iload 5, 2) := by decide +kernel
theorem d_K_removeFriendsFrom_25 : decode c_K_removeFriendsFrom 25 = .ok (.iload_n 1, 1) := by decide +kernel
theorem d_K_removeFriendsFrom_26 : decode c_K_removeFriendsFrom 26 = .ok (.if_icmp .lt 9, 3) := by decide +kernel
theorem d_K_removeFriendsFrom_29 : decode c_K_removeFriendsFrom 29 = .ok (.iload 5, 2) := by decide +kernel
theorem d_K_removeFriendsFrom_31 : decode c_K_removeFriendsFrom 31 = .ok (.iload_n 2, 1) := by decide +kernel
theorem d_K_removeFriendsFrom_32 : decode c_K_removeFriendsFrom 32 = .ok (.if_icmp .le 14, 3) := by decide +kernel
theorem d_K_removeFriendsFrom_35 : decode c_K_removeFriendsFrom 35 = .ok (.aload_n 0, 1) := by decide +kernel
theorem d_K_removeFriendsFrom_36 : decode c_K_removeFriendsFrom 36 = .ok (.getfield 15, 3) := by decide +kernel
theorem d_K_removeFriendsFrom_39 : decode c_K_removeFriendsFrom 39 = .ok (.iload_n 3, 1) := by decide +kernel
theorem d_K_removeFriendsFrom_40 : decode c_K_removeFriendsFrom 40 = .ok (.iload 5, 2) := by decide +kernel
theorem d_K_removeFriendsFrom_42 : decode c_K_removeFriendsFrom 42 = .ok (.iastore, 1) := by decide +kernel
theorem d_K_removeFriendsFrom_43 : decode c_K_removeFriendsFrom 43 = .ok (.iinc 3 1, 3) := by decide +kernel
theorem d_K_removeFriendsFrom_46 : decode c_K_removeFriendsFrom 46 = .ok (.iinc 4 1, 3) := by decide +kernel
theorem d_K_removeFriendsFrom_49 : decode c_K_removeFriendsFrom 49 = .ok (.goto (-44), 3) := by decide +kernel
theorem d_K_removeFriendsFrom_52 : decode c_K_removeFriendsFrom 52 = .ok (.aload_n 0, 1) := by decide +kernel
theorem d_K_removeFriendsFrom_53 : decode c_K_removeFriendsFrom 53 = .ok (.iload_n 3, 1) := by decide +kernel
theorem d_K_removeFriendsFrom_54 : decode c_K_removeFriendsFrom 54 = .ok (.putfield 30, 3) := by decide +kernel
theorem d_K_removeFriendsFrom_57 : decode c_K_removeFriendsFrom 57 = .ok (.return_, 1) := by decide +kernel
theorem d_K_hasFriend_0 : decode c_K_hasFriend 0 = .ok (.iconst 0, 1) := by decide +kernel
theorem d_K_hasFriend_1 : decode c_K_hasFriend 1 = .ok (.istore_n 2, 1) := by decide +kernel
theorem d_K_hasFriend_2 : decode c_K_hasFriend 2 = .ok (.iload_n 2, 1) := by decide +kernel
theorem d_K_hasFriend_3 : decode c_K_hasFriend 3 = .ok (.aload_n 0, 1) := by decide +kernel
theorem d_K_hasFriend_4 : decode c_K_hasFriend 4 = .ok (.getfield 30, 3) := by decide +kernel
theorem d_K_hasFriend_7 : decode c_K_hasFriend 7 = .ok (.if_icmp .ge 21, 3) := by decide +kernel
theorem d_K_hasFriend_10 : decode c_K_hasFriend 10 = .ok (.aload_n 0, 1) := by decide +kernel
theorem d_K_hasFriend_11 : decode c_K_hasFriend 11 = .ok (.getfield 15, 3) := by decide +kernel
theorem d_K_hasFriend_14 : decode c_K_hasFriend 14 = .ok (.iload_n 2, 1) := by decide +kernel
theorem d_K_hasFriend_15 : decode c_K_hasFriend 15 = .ok (.iaload, 1) := by decide +kernel
theorem d_K_hasFriend_16 : decode c_K_hasFriend 16 = .ok (.iload_n 1, 1) := by decide +kernel
theorem d_K_hasFriend_17 : decode c_K_hasFriend 17 = .ok (.if_icmp .ne 5, 3) := by decide +kernel
theorem d_K_hasFriend_20 : decode c_K_hasFriend 20 = .ok (.iconst 1, 1) := by decide +kernel
theorem d_K_hasFriend_21 : decode c_K_hasFriend 21 = .ok (.ireturn, 1) := by decide +kernel
theorem d_K_hasFriend_22 : decode c_K_hasFriend 22 = .ok (.iinc 2 1, 3) := by decide +kernel
theorem d_K_hasFriend_25 : decode c_K_hasFriend 25 = .ok (.goto (-23), 3) := by decide +kernel
theorem d_K_hasFriend_28 : decode c_K_hasFriend 28 = .ok (.iconst 0, 1) := by decide +kernel
theorem d_K_hasFriend_29 : decode c_K_hasFriend 29 = .ok (.ireturn, 1) := by decide +kernel
theorem d_K_removeFriend_0 : decode c_K_removeFriend 0 = .ok (.aload_n 0, 1) := by decide +kernel
theorem d_K_removeFriend_1 : decode c_K_removeFriend 1 = .ok (.iload_n 1, 1) := by decide +kernel
theorem d_K_removeFriend_2 : decode c_K_removeFriend 2 = .ok (.iload_n 1, 1) := by decide +kernel
theorem d_K_removeFriend_3 : decode c_K_removeFriend 3 = .ok (.invokevirtual 33, 3) := by decide +kernel
theorem d_K_removeFriend_6 : decode c_K_removeFriend 6 = .ok (.return_, 1) := by decide +kernel
theorem d_K_hasRoomForFriend_0 : decode c_K_hasRoomForFriend 0 = .ok (.aload_n 0, 1) := by decide +kernel
theorem d_K_hasRoomForFriend_1 : decode c_K_hasRoomForFriend 1 = .ok (.getfield 30, 3) := by decide +kernel
theorem d_K_hasRoomForFriend_4 : decode c_K_hasRoomForFriend 4 = .ok (.bipush 16, 2) := by decide +kernel
theorem d_K_hasRoomForFriend_6 : decode c_K_hasRoomForFriend 6 = .ok (.if_icmp .ge 7, 3) := by decide +kernel
theorem d_K_hasRoomForFriend_9 : decode c_K_hasRoomForFriend 9 = .ok (.iconst 1, 1) := by decide +kernel
theorem d_K_hasRoomForFriend_10 : decode c_K_hasRoomForFriend 10 = .ok (.goto 4, 3) := by decide +kernel
theorem d_K_hasRoomForFriend_13 : decode c_K_hasRoomForFriend 13 = .ok (.iconst 0, 1) := by decide +kernel
theorem d_K_hasRoomForFriend_14 : decode c_K_hasRoomForFriend 14 = .ok (.ireturn, 1) := by decide +kernel
theorem d_K_addFriend_0 : decode c_K_addFriend 0 = .ok (.aload_n 0, 1) := by decide +kernel
theorem d_K_addFriend_1 : decode c_K_addFriend 1 = .ok (.getfield 30, 3) := by decide +kernel
theorem d_K_addFriend_4 : decode c_K_addFriend 4 = .ok (.istore_n 2, 1) := by decide +kernel
theorem d_K_addFriend_5 : decode c_K_addFriend 5 = .ok (.iload_n 2, 1) := by decide +kernel
theorem d_K_addFriend_6 : decode c_K_addFriend 6 = .ok (.ifCond .le 35, 3) := by decide +kernel
theorem d_K_addFriend_9 : decode c_K_addFriend 9 = .ok (.aload_n 0, 1) := by decide +kernel
theorem d_K_addFriend_10 : decode c_K_addFriend 10 = .ok (.getfield 15, 3) := by decide +kernel
theorem d_K_addFriend_13 : decode c_K_addFriend 13 = .ok (.iload_n 2, 1) := by decide +kernel
theorem d_K_addFriend_14 : decode c_K_addFriend 14 = .ok (.iconst 1, 1) := by decide +kernel
theorem d_K_addFriend_15 : decode c_K_addFriend 15 = .ok (.isub, 1) := by decide +kernel
theorem d_K_addFriend_16 : decode c_K_addFriend 16 = .ok (.iaload, 1) := by decide +kernel
theorem d_K_addFriend_17 : decode c_K_addFriend 17 = .ok (.iload_n 1, 1) := by decide +kernel
theorem d_K_addFriend_18 : decode c_K_addFriend 18 = .ok (.if_icmp .le 23, 3) := by decide +kernel
theorem d_K_addFriend_21 : decode c_K_addFriend 21 = .ok (.aload_n 0, 1) := by decide +kernel
theorem d_K_addFriend_22 : decode c_K_addFriend 22 = .ok (.getfield 15, 3) := by decide +kernel
theorem d_K_addFriend_25 : decode c_K_addFriend 25 = .ok (.iload_n 2, 1) := by decide +kernel
theorem d_K_addFriend_26 : decode c_K_addFriend 26 = .ok (.aload_n 0, 1) := by decide +kernel
theorem d_K_addFriend_27 : decode c_K_addFriend 27 = .ok (.getfield 15, 3) := by decide +kernel
theorem d_K_addFriend_30 : decode c_K_addFriend 30 = .ok (.iload_n 2, 1) := by decide +kernel
theorem d_K_addFriend_31 : decode c_K_addFriend 31 = .ok (.iconst 1, 1) := by decide +kernel
theorem d_K_addFriend_32 : decode c_K_addFriend 32 = .ok (.isub, 1) := by decide +kernel
theorem d_K_addFriend_33 : decode c_K_addFriend 33 = .ok (.iaload, 1) := by decide +kernel
theorem d_K_addFriend_34 : decode c_K_addFriend 34 = .ok (.iastore, 1) := by decide +kernel
theorem d_K_addFriend_35 : decode c_K_addFriend 35 = .ok (.iinc 2 (-1), 3) := by decide +kernel
theorem d_K_addFriend_38 : decode c_K_addFriend 38 = .ok (.goto (-33), 3) := by decide +kernel
theorem d_K_addFriend_41 : decode c_K_addFriend 41 = .ok (.aload_n 0, 1) := by decide +kernel
theorem d_K_addFriend_42 : decode c_K_addFriend 42 = .ok (.getfield 15, 3) := by decide +kernel
theorem d_K_addFriend_45 : decode c_K_addFriend 45 = .ok (.iload_n 2, 1) := by decide +kernel
theorem d_K_addFriend_46 : decode c_K_addFriend 46 = .ok (.iload_n 1, 1) := by decide +kernel
theorem d_K_addFriend_47 : decode c_K_addFriend 47 = .ok (.iastore, 1) := by decide +kernel
theorem d_K_addFriend_48 : decode c_K_addFriend 48 = .ok (.aload_n 0, 1) := by decide +kernel
theorem d_K_addFriend_49 : decode c_K_addFriend 49 = .ok (.dup, 1) := by decide +kernel
theorem d_K_addFriend_50 : decode c_K_addFriend 50 = .ok (.getfield 30, 3) := by decide +kernel
theorem d_K_addFriend_53 : decode c_K_addFriend 53 = .ok (.iconst 1, 1) := by decide +kernel
theorem d_K_addFriend_54 : decode c_K_addFriend 54 = .ok (.iadd, 1) := by decide +kernel
theorem d_K_addFriend_55 : decode c_K_addFriend 55 = .ok (.putfield 30, 3) := by decide +kernel
theorem d_K_addFriend_58 : decode c_K_addFriend 58 = .ok (.return_, 1) := by decide +kernel
theorem d_Y_init_0 : decode c_Y_init 0 = .ok (.aload_n 0, 1) := by decide +kernel
theorem d_Y_init_1 : decode c_Y_init 1 = .ok (.invokespecial 3, 3) := by decide +kernel
theorem d_Y_init_4 : decode c_Y_init 4 = .ok (.aload_n 0, 1) := by decide +kernel
theorem d_Y_init_5 : decode c_Y_init 5 = .ok (.bipush 64, 2) := by decide +kernel
theorem d_Y_init_7 : decode c_Y_init 7 = .ok (.newarray .int, 2) := by decide +kernel
theorem d_Y_init_9 : decode c_Y_init 9 = .ok (.putfield 9, 3) := by decide +kernel
theorem d_Y_init_12 : decode c_Y_init 12 = .ok (.aload_n 0, 1) := by decide +kernel
theorem d_Y_init_13 : decode c_Y_init 13 = .ok (.bipush 64, 2) := by decide +kernel
theorem d_Y_init_15 : decode c_Y_init 15 = .ok (.newarray .int, 2) := by decide +kernel
theorem d_Y_init_17 : decode c_Y_init 17 = .ok (.putfield 15, 3) := by decide +kernel
theorem d_Y_init_20 : decode c_Y_init 20 = .ok (.aload_n 0, 1) := by decide +kernel
theorem d_Y_init_21 : decode c_Y_init 21 = .ok (.bipush 64, 2) := by decide +kernel
theorem d_Y_init_23 : decode c_Y_init 23 = .ok (.newarray .boolean, 2) := by decide +kernel
theorem d_Y_init_25 : decode c_Y_init 25 = .ok (.putfield 18, 3) := by decide +kernel
theorem d_Y_init_28 : decode c_Y_init 28 = .ok (.aload_n 0, 1) := by decide +kernel
theorem d_Y_init_29 : decode c_Y_init 29 = .ok (.aload_n 1, 1) := by decide +kernel
theorem d_Y_init_30 : decode c_Y_init 30 = .ok (.putfield 22, 3) := by decide +kernel
theorem d_Y_init_33 : decode c_Y_init 33 = .ok (.aload_n 0, 1) := by decide +kernel
theorem d_Y_init_34 : decode c_Y_init 34 = .ok (.iload_n 2, 1) := by decide +kernel
theorem d_Y_init_35 : decode c_Y_init 35 = .ok (.putfield 26, 3) := by decide +kernel
theorem d_Y_init_38 : decode c_Y_init 38 = .ok (.return_, 1) := by decide +kernel
theorem d_Y_forget_0 : decode c_Y_forget 0 = .ok (.aload_n 0, 1) := by decide +kernel
theorem d_Y_forget_1 : decode c_Y_forget 1 = .ok (.iconst 0, 1) := by decide +kernel
theorem d_Y_forget_2 : decode c_Y_forget 2 = .ok (.putfield 30, 3) := by decide +kernel
theorem d_Y_forget_5 : decode c_Y_forget 5 = .ok (.return_, 1) := by decide +kernel
theorem d_Y_refresh_0 : decode c_Y_refresh 0 = .ok (.aload_n 0, 1) := by decide +kernel
theorem d_Y_refresh_1 : decode c_Y_refresh 1 = .ok (.getfield 30, 3) := by decide +kernel
theorem d_Y_refresh_4 : decode c_Y_refresh 4 = .ok (.ifCond .eq 4, 3) := by decide +kernel
theorem d_Y_refresh_7 : decode c_Y_refresh 7 = .ok (.return_, 1) := by decide +kernel
theorem d_Y_refresh_8 : decode c_Y_refresh 8 = .ok (.aload_n 0, 1) := by decide +kernel
theorem d_Y_refresh_9 : decode c_Y_refresh 9 = .ok (.iconst 1, 1) := by decide +kernel
theorem d_Y_refresh_10 : decode c_Y_refresh 10 = .ok (.putfield 30, 3) := by decide +kernel
theorem d_Y_refresh_13 : decode c_Y_refresh 13 = .ok (.aload_n 0, 1) := by decide +kernel
theorem d_Y_refresh_14 : decode c_Y_refresh 14 = .ok (.invokevirtual 34, 3) := by decide +kernel
theorem d_Y_refresh_17 : decode c_Y_refresh 17 = .ok (.iconst 0, 1) := by decide +kernel
theorem d_Y_refresh_18 : decode c_Y_refresh 18 = .ok (.istore_n 1, 1) := by decide +kernel
theorem d_Y_refresh_19 : decode c_Y_refresh 19 = .ok (.iload_n 1, 1) := by decide +kernel
theorem d_Y_refresh_20 : decode c_Y_refresh 20 = .ok (.bipush 64, 2) := by decide +kernel
theorem d_Y_refresh_22 : decode c_Y_refresh 22 = .ok (.if_icmp .ge 32, 3) := by decide +kernel
theorem d_Y_refresh_25 : decode c_Y_refresh 25 = .ok (.aload_n 0, 1) := by decide +kernel
theorem d_Y_refresh_26 : decode c_Y_refresh 26 = .ok (.invokevirtual 37, 3) := by decide +kernel
theorem d_Y_refresh_29 : decode c_Y_refresh 29 = .ok (.istore_n 2, 1) := by decide +kernel
theorem d_Y_refresh_30 : decode c_Y_refresh 30 = .ok (.iload_n 2, 1) := by decide +kernel
theorem d_Y_refresh_31 : decode c_Y_refresh 31 = .ok (.iconst (-1), 1) := by decide +kernel
theorem d_Y_refresh_32 : decode c_Y_refresh 32 = .ok (.if_icmp .ne 4, 3) := by decide +kernel
theorem d_Y_refresh_35 : decode c_Y_refresh 35 = .ok (.return_, 1) := by decide +kernel
theorem d_Y_refresh_36 : decode c_Y_refresh 36 = .ok (.aload_n 0, 1) := by decide +kernel
theorem d_Y_refresh_37 : decode c_Y_refresh 37 = .ok (.getfield 18, 3) := by decide +kernel
theorem d_Y_refresh_40 : decode c_Y_refresh 40 = .ok (.iload_n 2, 1) := by decide +kernel
theorem d_Y_refresh_41 : decode c_Y_refresh 41 = .ok (.iconst 1, 1) := by decide +kernel
theorem d_Y_refresh_42 : decode c_Y_refresh 42 = .ok (.bastore, 1) := by decide +kernel
theorem d_Y_refresh_43 : decode c_Y_refresh 43 = .ok (.aload_n 0, 1) := by decide +kernel
theorem d_Y_refresh_44 : decode c_Y_refresh 44 = .ok (.iload_n 2, 1) := by decide +kernel
theorem d_Y_refresh_45 : decode c_Y_refresh 45 = .ok (.invokevirtual 41, 3) := by decide +kernel
theorem d_Y_refresh_48 : decode c_Y_refresh 48 = .ok (.iinc 1 1, 3) := by decide +kernel
theorem d_Y_refresh_51 : decode c_Y_refresh 51 = .ok (.goto (-32), 3) := by decide +kernel
theorem d_Y_refresh_54 : decode c_Y_refresh 54 = .ok (.return_, 1) := by decide +kernel
theorem d_Y_beginAnew_0 : decode c_Y_beginAnew 0 = .ok (.iconst 0, 1) := by decide +kernel
theorem d_Y_beginAnew_1 : decode c_Y_beginAnew 1 = .ok (.istore_n 1, 1) := by decide +kernel
theorem d_Y_beginAnew_2 : decode c_Y_beginAnew 2 = .ok (.iload_n 1, 1) := by decide +kernel
theorem d_Y_beginAnew_3 : decode c_Y_beginAnew 3 = .ok (.bipush 64, 2) := by decide +kernel
theorem d_Y_beginAnew_5 : decode c_Y_beginAnew 5 = .ok (.if_icmp .ge 30, 3) := by decide +kernel
theorem d_Y_beginAnew_8 : decode c_Y_beginAnew 8 = .ok (.aload_n 0, 1) := by decide +kernel
theorem d_Y_beginAnew_9 : decode c_Y_beginAnew 9 = .ok (.getfield 9, 3) := by decide +kernel
theorem d_Y_beginAnew_12 : decode c_Y_beginAnew 12 = .ok (.iload_n 1, 1) := by decide +kernel
theorem d_Y_beginAnew_13 : decode c_Y_beginAnew 13 = .ok (.iconst (-1), 1) := by decide +kernel
theorem d_Y_beginAnew_14 : decode c_Y_beginAnew 14 = .ok (.iastore, 1) := by decide +kernel
theorem d_Y_beginAnew_15 : decode c_Y_beginAnew 15 = .ok (.aload_n 0, 1) := by decide +kernel
theorem d_Y_beginAnew_16 : decode c_Y_beginAnew 16 = .ok (.getfield 15, 3) := by decide +kernel
theorem d_Y_beginAnew_19 : decode c_Y_beginAnew 19 = .ok (.iload_n 1, 1) := by decide +kernel
theorem d_Y_beginAnew_20 : decode c_Y_beginAnew 20 = .ok (.iconst 0, 1) := by decide +kernel
theorem d_Y_beginAnew_21 : decode c_Y_beginAnew 21 = .ok (.iastore, 1) := by decide +kernel
theorem d_Y_beginAnew_22 : decode c_Y_beginAnew 22 = .ok (.aload_n 0, 1) := by decide +kernel
theorem d_Y_beginAnew_23 : decode c_Y_beginAnew 23 = .ok (.getfield 18, 3) := by decide +kernel
theorem d_Y_beginAnew_26 : decode c_Y_beginAnew 26 = .ok (.iload_n 1, 1) := by decide +kernel
theorem d_Y_beginAnew_27 : decode c_Y_beginAnew 27 = .ok (.iconst 0, 1) := by decide +kernel
theorem d_Y_beginAnew_28 : decode c_Y_beginAnew 28 = .ok (.bastore, 1) := by decide +kernel
theorem d_Y_beginAnew_29 : decode c_Y_beginAnew 29 = .ok (.iinc 1 1, 3) := by decide +kernel
theorem d_Y_beginAnew_32 : decode c_Y_beginAnew 32 = .ok (.goto (-30), 3) := by decide +kernel
theorem d_Y_beginAnew_35 : decode c_Y_beginAnew 35 = .ok (.aload_n 0, 1) := by decide +kernel
theorem d_Y_beginAnew_36 : decode c_Y_beginAnew 36 = .ok (.getfield 9, 3) := by decide +kernel
theorem d_Y_beginAnew_39 : decode c_Y_beginAnew 39 = .ok (.aload_n 0, 1) := by decide +kernel
theorem d_Y_beginAnew_40 : decode c_Y_beginAnew 40 = .ok (.getfield 26, 3) := by decide +kernel
theorem d_Y_beginAnew_43 : decode c_Y_beginAnew 43 = .ok (.iconst 0, 1) := by decide +kernel
theorem d_Y_beginAnew_44 : decode c_Y_beginAnew 44 = .ok (.iastore, 1) := by decide +kernel
theorem d_Y_beginAnew_45 : decode c_Y_beginAnew 45 = .ok (.return_, 1) := by decide +kernel
theorem d_Y_nearestUnsettled_0 : decode c_Y_nearestUnsettled 0 = .ok (.iconst (-1), 1) := by decide +kernel
theorem d_Y_nearestUnsettled_1 : decode c_Y_nearestUnsettled 1 = .ok (.istore_n 1, 1) := by decide +kernel
theorem d_Y_nearestUnsettled_2 : decode c_Y_nearestUnsettled 2 = .ok (.iconst 0, 1) := by decide +kernel
theorem d_Y_nearestUnsettled_3 : decode c_Y_nearestUnsettled 3 = .ok (.istore_n 2, 1) := by decide +kernel
theorem d_Y_nearestUnsettled_4 : decode c_Y_nearestUnsettled 4 = .ok (.iload_n 2, 1) := by decide +kernel
theorem d_Y_nearestUnsettled_5 : decode c_Y_nearestUnsettled 5 = .ok (.bipush 64, 2) := by decide +kernel
theorem d_Y_nearestUnsettled_7 : decode c_Y_nearestUnsettled 7 = .ok (.if_icmp .ge 53, 3) := by decide +kernel
theorem d_Y_nearestUnsettled_10 : decode c_Y_nearestUnsettled 10 = .ok (.aload_n 0, 1) := by decide +kernel
theorem d_Y_nearestUnsettled_11 : decode c_Y_nearestUnsettled 11 = .ok (.getfield 18, 3) := by decide +kernel
theorem d_Y_nearestUnsettled_14 : decode c_Y_nearestUnsettled 14 = .ok (.iload_n 2, 1) := by decide +kernel
theorem d_Y_nearestUnsettled_15 : decode c_Y_nearestUnsettled 15 = .ok (.baload, 1) := by decide +kernel
theorem d_Y_nearestUnsettled_16 : decode c_Y_nearestUnsettled 16 = .ok (.ifCond .ne 38, 3) := by decide +kernel
theorem d_Y_nearestUnsettled_19 : decode c_Y_nearestUnsettled 19 = .ok (.aload_n 0, 1) := by decide +kernel
theorem d_Y_nearestUnsettled_20 : decode c_Y_nearestUnsettled 20 = .ok (.getfield 9, 3) := by decide +kernel
theorem d_Y_nearestUnsettled_23 : decode c_Y_nearestUnsettled 23 = .ok (.iload_n 2, 1) := by decide +kernel
theorem d_Y_nearestUnsettled_24 : decode c_Y_nearestUnsettled 24 = .ok (.iaload, 1) := by decide +kernel
theorem d_Y_nearestUnsettled_25 : decode c_Y_nearestUnsettled 25 = .ok (.iconst (-1), 1) := by decide +kernel
theorem d_Y_nearestUnsettled_26 : decode c_Y_nearestUnsettled 26 = .ok (.if_icmp .ne 6, 3) := by decide +kernel
theorem d_Y_nearestUnsettled_29 : decode c_Y_nearestUnsettled 29 = .ok (.goto 25, 3) := by decide +kernel
theorem d_Y_nearestUnsettled_32 : decode c_Y_nearestUnsettled 32 = .ok (.iload_n 1, 1) := by decide +kernel
theorem d_Y_nearestUnsettled_33 : decode c_Y_nearestUnsettled 33 = .ok (.iconst (-1), 1) := by decide +kernel
theorem d_Y_nearestUnsettled_34 : decode c_Y_nearestUnsettled 34 = .ok (.if_icmp .eq 18, 3) := by decide +kernel
theorem d_Y_nearestUnsettled_37 : decode c_Y_nearestUnsettled 37 = .ok (.aload_n 0, 1) := by decide +kernel
theorem d_Y_nearestUnsettled_38 : decode c_Y_nearestUnsettled 38 = .ok (.getfield 9, 3) := by decide +kernel
theorem d_Y_nearestUnsettled_41 : decode c_Y_nearestUnsettled 41 = .ok (.iload_n 2, 1) := by decide +kernel
theorem d_Y_nearestUnsettled_42 : decode c_Y_nearestUnsettled 42 = .ok (.iaload, 1) := by decide +kernel
theorem d_Y_nearestUnsettled_43 : decode c_Y_nearestUnsettled 43 = .ok (.aload_n 0, 1) := by decide +kernel
theorem d_Y_nearestUnsettled_44 : decode c_Y_nearestUnsettled 44 = .ok (.getfield 9, 3) := by decide +kernel
theorem d_Y_nearestUnsettled_47 : decode c_Y_nearestUnsettled 47 = .ok (.iload_n 1, 1) := by decide +kernel
theorem d_Y_nearestUnsettled_48 : decode c_Y_nearestUnsettled 48 = .ok (.iaload, 1) := by decide +kernel
theorem d_Y_nearestUnsettled_49 : decode c_Y_nearestUnsettled 49 = .ok (.if_icmp .ge 5, 3) := by decide +kernel
theorem d_Y_nearestUnsettled_52 : decode c_Y_nearestUnsettled 52 = .ok (.iload_n 2, 1) := by decide +kernel
theorem d_Y_nearestUnsettled_53 : decode c_Y_nearestUnsettled 53 = .ok (.istore_n 1, 1) := by decide +kernel
theorem d_Y_nearestUnsettled_54 : decode c_Y_nearestUnsettled 54 = .ok (.iinc 2 1, 3) := by decide +kernel
theorem d_Y_nearestUnsettled_57 : decode c_Y_nearestUnsettled 57 = .ok (.goto (-53), 3) := by decide +kernel
theorem d_Y_nearestUnsettled_60 : decode c_Y_nearestUnsettled 60 = .ok (.iload_n 1, 1) := by decide +kernel
theorem d_Y_nearestUnsettled_61 : decode c_Y_nearestUnsettled 61 = .ok (.ireturn, 1) := by decide +kernel
theorem d_Y_goOnFrom_0 : decode c_Y_goOnFrom 0 = .ok (.iconst 0, 1) := by decide +kernel
theorem d_Y_goOnFrom_1 : decode c_Y_goOnFrom 1 = .ok (.istore_n 2, 1) := by decide +kernel
theorem d_Y_goOnFrom_2 : decode c_Y_goOnFrom 2 = .ok (.iload_n 2, 1) := by decide +kernel
theorem d_Y_goOnFrom_3 : decode c_Y_goOnFrom 3 = .ok (.aload_n 0, 1) := by decide +kernel
theorem d_Y_goOnFrom_4 : decode c_Y_goOnFrom 4 = .ok (.getfield 22, 3) := by decide +kernel
theorem d_Y_goOnFrom_7 : decode c_Y_goOnFrom 7 = .ok (.getfield 45, 3) := by decide +kernel
theorem d_Y_goOnFrom_10 : decode c_Y_goOnFrom 10 = .ok (.iload_n 1, 1) := by decide +kernel
theorem d_Y_goOnFrom_11 : decode c_Y_goOnFrom 11 = .ok (.iaload, 1) := by decide +kernel
theorem d_Y_goOnFrom_12 : decode c_Y_goOnFrom 12 = .ok (.if_icmp .ge 100, 3) := by decide +kernel
theorem d_Y_goOnFrom_15 : decode c_Y_goOnFrom 15 = .ok (.iload_n 1, 1) := by decide +kernel
theorem d_Y_goOnFrom_16 : decode c_Y_goOnFrom 16 = .ok (.iload_n 2, 1) := by decide +kernel
theorem d_Y_goOnFrom_17 : decode c_Y_goOnFrom 17 = .ok (.invokestatic 50, 3) := by decide +kernel
theorem d_Y_goOnFrom_20 : decode c_Y_goOnFrom 20 = .ok (.istore_n 3, 1) := by decide +kernel
theorem d_Y_goOnFrom_21 : decode c_Y_goOnFrom 21 = .ok (.aload_n 0, 1) := by decide +kernel
theorem d_Y_goOnFrom_22 : decode c_Y_goOnFrom 22 = .ok (.getfield 22, 3) := by decide +kernel
theorem d_Y_goOnFrom_25 : decode c_Y_goOnFrom 25 = .ok (.getfield 54, 3) := by decide +kernel
theorem d_Y_goOnFrom_28 : decode c_Y_goOnFrom 28 = .ok (.iload_n 3, 1) := by decide +kernel
theorem d_Y_goOnFrom_29 : decode c_Y_goOnFrom 29 = .ok (.iaload, 1) := by decide +kernel
theorem d_Y_goOnFrom_30 : decode c_Y_goOnFrom 30 = .ok (.istore 4, 2) := by decide +kernel
theorem d_Y_goOnFrom_32 : decode c_Y_goOnFrom 32 = .ok (.iload 4, 2) := by decide +kernel
theorem d_Y_goOnFrom_34 : decode c_Y_goOnFrom 34 = .ok (.iconst (-1), 1) := by decide +kernel
theorem d_Y_goOnFrom_35 : decode c_Y_goOnFrom 35 = .ok (.if_icmp .eq 71, 3) := by decide +kernel
theorem d_Y_goOnFrom_38 : decode c_Y_goOnFrom 38 = .ok (.aload_n 0, 1) := by decide +kernel
theorem d_Y_goOnFrom_39 : decode c_Y_goOnFrom 39 = .ok (.getfield 22, 3) := by decide +kernel
theorem d_Y_goOnFrom_42 : decode c_Y_goOnFrom 42 = .ok (.iload 4, 2) := by decide +kernel
theorem d_Y_goOnFrom_44 : decode c_Y_goOnFrom 44 = .ok (.iload_n 1, 1) := by decide +kernel
theorem d_Y_goOnFrom_45 : decode c_Y_goOnFrom 45 = .ok (.aload_n 0, 1) := by decide +kernel
theorem d_Y_goOnFrom_46 : decode c_Y_goOnFrom 46 = .ok (.getfield 22, 3) := by decide +kernel
theorem d_Y_goOnFrom_49 : decode c_Y_goOnFrom 49 = .ok (.getfield 57, 3) := by decide +kernel
theorem d_Y_goOnFrom_52 : decode c_Y_goOnFrom 52 = .ok (.iload_n 3, 1) := by decide +kernel
theorem d_Y_goOnFrom_53 : decode c_Y_goOnFrom 53 = .ok (.iaload, 1) := by decide +kernel
theorem d_Y_goOnFrom_54 : decode c_Y_goOnFrom 54 = .ok (.invokevirtual 60, 3) := by decide +kernel
theorem d_Y_goOnFrom_57 : decode c_Y_goOnFrom 57 = .ok (.ifCond .eq 49, 3) := by decide +kernel
theorem d_Y_goOnFrom_60 : decode c_Y_goOnFrom 60 = .ok (.iload_n 1, 1) := by decide +kernel
theorem d_Y_goOnFrom_61 : decode c_Y_goOnFrom 61 = .ok (.aload_n 0, 1) := by decide +kernel
theorem d_Y_goOnFrom_62 : decode c_Y_goOnFrom 62 = .ok (.getfield 26, 3) := by decide +kernel
theorem d_Y_goOnFrom_65 : decode c_Y_goOnFrom 65 = .ok (.if_icmp .ne 9, 3) := by decide +kernel
theorem d_Y_goOnFrom_68 : decode c_Y_goOnFrom 68 = .ok (.iconst 1, 1) := by decide +kernel
theorem d_Y_goOnFrom_69 : decode c_Y_goOnFrom 69 = .ok (.iload_n 2, 1) := by decide +kernel
theorem d_Y_goOnFrom_70 : decode c_Y_goOnFrom 70 = .ok (.ishl, 1) := by decide +kernel
theorem d_Y_goOnFrom_71 : decode c_Y_goOnFrom 71 = .ok (.goto 9, 3) := by decide +kernel
theorem d_Y_goOnFrom_74 : decode c_Y_goOnFrom 74 = .ok (.aload_n 0, 1) := by decide +kernel
theorem d_Y_goOnFrom_75 : decode c_Y_goOnFrom 75 = .ok (.getfield 15, 3) := by decide +kernel
theorem d_Y_goOnFrom_78 : decode c_Y_goOnFrom 78 = .ok (.iload_n 1, 1) := by decide +kernel
theorem d_Y_goOnFrom_79 : decode c_Y_goOnFrom 79 = .ok (.iaload, 1) := by decide +kernel
theorem d_Y_goOnFrom_80 : decode c_Y_goOnFrom 80 = .ok (.istore 5, 2) := by decide +kernel
theorem d_Y_goOnFrom_82 : decode c_Y_goOnFrom 82 = .ok (.aload_n 0, 1) := by decide +kernel
theorem d_Y_goOnFrom_83 : decode c_Y_goOnFrom 83 = .ok (.iload 4, 2) := by decide +kernel
theorem d_Y_goOnFrom_85 : decode c_Y_goOnFrom 85 = .ok (.aload_n 0, 1) := by decide +kernel
theorem d_Y_goOnFrom_86 : decode c_Y_goOnFrom 86 = .ok (.getfield 9, 3) := by decide +kernel
theorem d_Y_goOnFrom_89 : decode c_Y_goOnFrom 89 = .ok (.iload_n 1, 1) := by decide +kernel
theorem d_Y_goOnFrom_90 : decode c_Y_goOnFrom 90 = .ok (.iaload, 1) := by decide +kernel
theorem d_Y_goOnFrom_91 : decode c_Y_goOnFrom 91 = .ok (.aload_n 0, 1) := by decide +kernel
theorem d_Y_goOnFrom_92 : decode c_Y_goOnFrom 92 = .ok (.getfield 22, 3) := by decide +kernel
theorem d_Y_goOnFrom_95 : decode c_Y_goOnFrom 95 = .ok (.getfield 64, 3) := by decide +kernel
theorem d_Y_goOnFrom_98 : decode c_Y_goOnFrom 98 = .ok (.iload_n 3, 1) := by decide +kernel
theorem d_Y_goOnFrom_99 : decode c_Y_goOnFrom 99 = .ok (.iaload, 1) := by decide +kernel
theorem d_Y_goOnFrom_100 : decode c_Y_goOnFrom 100 = .ok (.iadd, 1) := by decide +kernel
theorem d_Y_goOnFrom_101 : decode c_Y_goOnFrom 101 = .ok (.iload 5, 2) := by decide +kernel
theorem d_Y_goOnFrom_103 : decode c_Y_goOnFrom 103 = .ok (.invokevirtual 67, 3) := by decide +kernel
theorem d_Y_goOnFrom_106 : decode c_Y_goOnFrom 106 = .ok (.iinc 2 1, 3) := by decide +kernel
theorem d_Y_goOnFrom_109 : decode c_Y_goOnFrom 109 = .ok (.goto (-107), 3) := by decide +kernel
theorem d_Y_goOnFrom_112 : decode c_Y_goOnFrom 112 = .ok (.return_, 1) := by decide +kernel
theorem d_Y_reach_0 : decode c_Y_reach 0 = .ok (.aload_n 0, 1) := by decide +kernel
theorem d_Y_reach_1 : decode c_Y_reach 1 = .ok (.getfield 9, 3) := by decide +kernel
theorem d_Y_reach_4 : decode c_Y_reach 4 = .ok (.iload_n 1, 1) := by decide +kernel
theorem d_Y_reach_5 : decode c_Y_reach 5 = .ok (.iaload, 1) := by decide +kernel
theorem d_Y_reach_6 : decode c_Y_reach 6 = .ok (.iconst (-1), 1) := by decide +kernel
theorem d_Y_reach_7 : decode c_Y_reach 7 = .ok (.if_icmp .eq 13, 3) := by decide +kernel
theorem d_Y_reach_10 : decode c_Y_reach 10 = .ok (.iload_n 2, 1) := by decide +kernel
theorem d_Y_reach_11 : decode c_Y_reach 11 = .ok (.aload_n 0, 1) := by decide +kernel
theorem d_Y_reach_12 : decode c_Y_reach 12 = .ok (.getfield 9, 3) := by decide +kernel
theorem d_Y_reach_15 : decode c_Y_reach 15 = .ok (.iload_n 1, 1) := by decide +kernel
theorem d_Y_reach_16 : decode c_Y_reach 16 = .ok (.iaload, 1) := by decide +kernel
theorem d_Y_reach_17 : decode c_Y_reach 17 = .ok (.if_icmp .ge 20, 3) := by decide +kernel
theorem d_Y_reach_20 : decode c_Y_reach 20 = .ok (.aload_n 0, 1) := by decide +kernel
theorem d_Y_reach_21 : decode c_Y_reach 21 = .ok (.getfield 9, 3) := by decide +kernel
theorem d_Y_reach_24 : decode c_Y_reach 24 = .ok (.iload_n 1, 1) := by decide +kernel
theorem d_Y_reach_25 : decode c_Y_reach 25 = .ok (.iload_n 2, 1) := by decide +kernel
theorem d_Y_reach_26 : decode c_Y_reach 26 = .ok (.iastore, 1) := by decide +kernel
theorem d_Y_reach_27 : decode c_Y_reach 27 = .ok (.aload_n 0, 1) := by decide +kernel
theorem d_Y_reach_28 : decode c_Y_reach 28 = .ok (.getfield 15, 3) := by decide +kernel
theorem d_Y_reach_31 : decode c_Y_reach 31 = .ok (.iload_n 1, 1) := by decide +kernel
theorem d_Y_reach_32 : decode c_Y_reach 32 = .ok (.iload_n 3, 1) := by decide +kernel
theorem d_Y_reach_33 : decode c_Y_reach 33 = .ok (.iastore, 1) := by decide +kernel
theorem d_Y_reach_34 : decode c_Y_reach 34 = .ok (.goto 23, 3) := by decide +kernel
theorem d_Y_reach_37 : decode c_Y_reach 37 = .ok (.iload_n 2, 1) := by decide +kernel
theorem d_Y_reach_38 : decode c_Y_reach 38 = .ok (.aload_n 0, 1) := by decide +kernel
theorem d_Y_reach_39 : decode c_Y_reach 39 = .ok (.getfield 9, 3) := by decide +kernel
theorem d_Y_reach_42 : decode c_Y_reach 42 = .ok (.iload_n 1, 1) := by decide +kernel
theorem d_Y_reach_43 : decode c_Y_reach 43 = .ok (.iaload, 1) := by decide +kernel
theorem d_Y_reach_44 : decode c_Y_reach 44 = .ok (.if_icmp .ne 13, 3) := by decide +kernel
theorem d_Y_reach_47 : decode c_Y_reach 47 = .ok (.aload_n 0, 1) := by decide +kernel
theorem d_Y_reach_48 : decode c_Y_reach 48 = .ok (.getfield 15, 3) := by decide +kernel
theorem d_Y_reach_51 : decode c_Y_reach 51 = .ok (.iload_n 1, 1) := by decide +kernel
theorem d_Y_reach_52 : decode c_Y_reach 52 = .ok (.dup2, 1) := by decide +kernel
theorem d_Y_reach_53 : decode c_Y_reach 53 = .ok (.iaload, 1) := by decide +kernel
theorem d_Y_reach_54 : decode c_Y_reach 54 = .ok (.iload_n 3, 1) := by decide +kernel
theorem d_Y_reach_55 : decode c_Y_reach 55 = .ok (.ior, 1) := by decide +kernel
theorem d_Y_reach_56 : decode c_Y_reach 56 = .ok (.iastore, 1) := by decide +kernel
theorem d_Y_reach_57 : decode c_Y_reach 57 = .ok (.return_, 1) := by decide +kernel
theorem d_Y_leastTo_0 : decode c_Y_leastTo 0 = .ok (.iconst (-1), 1) := by decide +kernel
theorem d_Y_leastTo_1 : decode c_Y_leastTo 1 = .ok (.istore_n 2, 1) := by decide +kernel
theorem d_Y_leastTo_2 : decode c_Y_leastTo 2 = .ok (.iconst 0, 1) := by decide +kernel
theorem d_Y_leastTo_3 : decode c_Y_leastTo 3 = .ok (.istore_n 3, 1) := by decide +kernel
theorem d_Y_leastTo_4 : decode c_Y_leastTo 4 = .ok (.iload_n 3, 1) := by decide +kernel
theorem d_Y_leastTo_5 : decode c_Y_leastTo 5 = .ok (.bipush 64, 2) := by decide +kernel
theorem d_Y_leastTo_7 : decode c_Y_leastTo 7 = .ok (.if_icmp .ge 37, 3) := by decide +kernel
theorem d_Y_leastTo_10 : decode c_Y_leastTo 10 = .ok (.aload_n 0, 1) := by decide +kernel
theorem d_Y_leastTo_11 : decode c_Y_leastTo 11 = .ok (.iload_n 3, 1) := by decide +kernel
theorem d_Y_leastTo_12 : decode c_Y_leastTo 12 = .ok (.iload_n 1, 1) := by decide +kernel
theorem d_Y_leastTo_13 : decode c_Y_leastTo 13 = .ok (.invokevirtual 71, 3) := by decide +kernel
theorem d_Y_leastTo_16 : decode c_Y_leastTo 16 = .ok (.istore 4, 2) := by decide +kernel
theorem d_Y_leastTo_18 : decode c_Y_leastTo 18 = .ok (.iload 4, 2) := by decide +kernel
theorem d_Y_leastTo_20 : decode c_Y_leastTo 20 = .ok (.iconst (-1), 1) := by decide +kernel
theorem d_Y_leastTo_21 : decode c_Y_leastTo 21 = .ok (.if_icmp .eq 17, 3) := by decide +kernel
theorem d_Y_leastTo_24 : decode c_Y_leastTo 24 = .ok (.iload_n 2, 1) := by decide +kernel
theorem d_Y_leastTo_25 : decode c_Y_leastTo 25 = .ok (.iconst (-1), 1) := by decide +kernel
theorem d_Y_leastTo_26 : decode c_Y_leastTo 26 = .ok (.if_icmp .eq 9, 3) := by decide +kernel
theorem d_Y_leastTo_29 : decode c_Y_leastTo 29 = .ok (.iload 4, 2) := by decide +kernel
theorem d_Y_leastTo_31 : decode c_Y_leastTo 31 = .ok (.iload_n 2, 1) := by decide +kernel
theorem d_Y_leastTo_32 : decode c_Y_leastTo 32 = .ok (.if_icmp .ge 6, 3) := by decide +kernel
theorem d_Y_leastTo_35 : decode c_Y_leastTo 35 = .ok (.iload 4, 2) := by decide +kernel
theorem d_Y_leastTo_37 : decode c_Y_leastTo 37 = .ok (.istore_n 2, 1) := by decide +kernel
theorem d_Y_leastTo_38 : decode c_Y_leastTo 38 = .ok (.iinc 3 1, 3) := by decide +kernel
theorem d_Y_leastTo_41 : decode c_Y_leastTo 41 = .ok (.goto (-37), 3) := by decide +kernel
theorem d_Y_leastTo_44 : decode c_Y_leastTo 44 = .ok (.iload_n 2, 1) := by decide +kernel
theorem d_Y_leastTo_45 : decode c_Y_leastTo 45 = .ok (.ireturn, 1) := by decide +kernel
theorem d_Y_sumOver_0 : decode c_Y_sumOver 0 = .ok (.aload_n 0, 1) := by decide +kernel
theorem d_Y_sumOver_1 : decode c_Y_sumOver 1 = .ok (.getfield 22, 3) := by decide +kernel
theorem d_Y_sumOver_4 : decode c_Y_sumOver 4 = .ok (.iload_n 1, 1) := by decide +kernel
theorem d_Y_sumOver_5 : decode c_Y_sumOver 5 = .ok (.iconst (-1), 1) := by decide +kernel
theorem d_Y_sumOver_6 : decode c_Y_sumOver 6 = .ok (.iload_n 2, 1) := by decide +kernel
theorem d_Y_sumOver_7 : decode c_Y_sumOver 7 = .ok (.invokevirtual 78, 3) := by decide +kernel
theorem d_Y_sumOver_10 : decode c_Y_sumOver 10 = .ok (.istore_n 3, 1) := by decide +kernel
theorem d_Y_sumOver_11 : decode c_Y_sumOver 11 = .ok (.aload_n 0, 1) := by decide +kernel
theorem d_Y_sumOver_12 : decode c_Y_sumOver 12 = .ok (.getfield 9, 3) := by decide +kernel
theorem d_Y_sumOver_15 : decode c_Y_sumOver 15 = .ok (.iload_n 1, 1) := by decide +kernel
theorem d_Y_sumOver_16 : decode c_Y_sumOver 16 = .ok (.iaload, 1) := by decide +kernel
theorem d_Y_sumOver_17 : decode c_Y_sumOver 17 = .ok (.iconst (-1), 1) := by decide +kernel
theorem d_Y_sumOver_18 : decode c_Y_sumOver 18 = .ok (.if_icmp .eq 8, 3) := by decide +kernel
theorem d_Y_sumOver_21 : decode c_Y_sumOver 21 = .ok (.iload_n 3, 1) := by decide +kernel
theorem d_Y_sumOver_22 : decode c_Y_sumOver 22 = .ok (.iconst (-1), 1) := by decide +kernel
theorem d_Y_sumOver_23 : decode c_Y_sumOver 23 = .ok (.if_icmp .ne 7, 3) := by decide +kernel
theorem d_Y_sumOver_26 : decode c_Y_sumOver 26 = .ok (.iconst (-1), 1) := by decide +kernel
theorem d_Y_sumOver_27 : decode c_Y_sumOver 27 = .ok (.goto 11, 3) := by decide +kernel
theorem d_Y_sumOver_30 : decode c_Y_sumOver 30 = .ok (.aload_n 0, 1) := by decide +kernel
theorem d_Y_sumOver_31 : decode c_Y_sumOver 31 = .ok (.getfield 9, 3) := by decide +kernel
theorem d_Y_sumOver_34 : decode c_Y_sumOver 34 = .ok (.iload_n 1, 1) := by decide +kernel
theorem d_Y_sumOver_35 : decode c_Y_sumOver 35 = .ok (.iaload, 1) := by decide +kernel
theorem d_Y_sumOver_36 : decode c_Y_sumOver 36 = .ok (.iload_n 3, 1) := by decide +kernel
theorem d_Y_sumOver_37 : decode c_Y_sumOver 37 = .ok (.iadd, 1) := by decide +kernel
theorem d_Y_sumOver_38 : decode c_Y_sumOver 38 = .ok (.ireturn, 1) := by decide +kernel
theorem d_Y_startsTo_0 : decode c_Y_startsTo 0 = .ok (.aload_n 0, 1) := by decide +kernel
theorem d_Y_startsTo_1 : decode c_Y_startsTo 1 = .ok (.iload_n 1, 1) := by decide +kernel
theorem d_Y_startsTo_2 : decode c_Y_startsTo 2 = .ok (.invokevirtual 74, 3) := by decide +kernel
theorem d_Y_startsTo_5 : decode c_Y_startsTo 5 = .ok (.istore_n 2, 1) := by decide +kernel
theorem d_Y_startsTo_6 : decode c_Y_startsTo 6 = .ok (.iload_n 2, 1) := by decide +kernel
theorem d_Y_startsTo_7 : decode c_Y_startsTo 7 = .ok (.iconst (-1), 1) := by decide +kernel
theorem d_Y_startsTo_8 : decode c_Y_startsTo 8 = .ok (.if_icmp .eq 16, 3) := by decide +kernel
theorem d_Y_startsTo_11 : decode c_Y_startsTo 11 = .ok (.aload_n 0, 1) := by decide +kernel
theorem d_Y_startsTo_12 : decode c_Y_startsTo 12 = .ok (.aload_n 0, 1) := by decide +kernel
theorem d_Y_startsTo_13 : decode c_Y_startsTo 13 = .ok (.getfield 26, 3) := by decide +kernel
theorem d_Y_startsTo_16 : decode c_Y_startsTo 16 = .ok (.iload_n 1, 1) := by decide +kernel
theorem d_Y_startsTo_17 : decode c_Y_startsTo 17 = .ok (.invokevirtual 71, 3) := by decide +kernel
theorem d_Y_startsTo_20 : decode c_Y_startsTo 20 = .ok (.iload_n 2, 1) := by decide +kernel
theorem d_Y_startsTo_21 : decode c_Y_startsTo 21 = .ok (.if_icmp .ne 5, 3) := by decide +kernel
theorem d_Y_startsTo_24 : decode c_Y_startsTo 24 = .ok (.iconst 0, 1) := by decide +kernel
theorem d_Y_startsTo_25 : decode c_Y_startsTo 25 = .ok (.ireturn, 1) := by decide +kernel
theorem d_Y_startsTo_26 : decode c_Y_startsTo 26 = .ok (.iconst 0, 1) := by decide +kernel
theorem d_Y_startsTo_27 : decode c_Y_startsTo 27 = .ok (.istore_n 3, 1) := by decide +kernel
theorem d_Y_startsTo_28 : decode c_Y_startsTo 28 = .ok (.iconst 0, 1) := by decide +kernel
theorem d_Y_startsTo_29 : decode c_Y_startsTo 29 = .ok (.istore 4, 2) := by decide +kernel
theorem d_Y_startsTo_31 : decode c_Y_startsTo 31 = .ok (.iload 4, 2) := by decide +kernel
theorem d_Y_startsTo_33 : decode c_Y_startsTo 33 = .ok (.bipush 64, 2) := by decide +kernel
theorem d_Y_startsTo_35 : decode c_Y_startsTo 35 = .ok (.if_icmp .ge 30, 3) := by decide +kernel
theorem d_Y_startsTo_38 : decode c_Y_startsTo 38 = .ok (.aload_n 0, 1) := by decide +kernel
theorem d_Y_startsTo_39 : decode c_Y_startsTo 39 = .ok (.iload 4, 2) := by decide +kernel
theorem d_Y_startsTo_41 : decode c_Y_startsTo 41 = .ok (.iload_n 1, 1) := by decide +kernel
theorem d_Y_startsTo_42 : decode c_Y_startsTo 42 = .ok (.invokevirtual 71, 3) := by decide +kernel
theorem d_Y_startsTo_45 : decode c_Y_startsTo 45 = .ok (.iload_n 2, 1) := by decide +kernel
theorem d_Y_startsTo_46 : decode c_Y_startsTo 46 = .ok (.if_icmp .ne 13, 3) := by decide +kernel
theorem d_Y_startsTo_49 : decode c_Y_startsTo 49 = .ok (.iload_n 3, 1) := by decide +kernel
theorem d_Y_startsTo_50 : decode c_Y_startsTo 50 = .ok (.aload_n 0, 1) := by decide +kernel
theorem d_Y_startsTo_51 : decode c_Y_startsTo 51 = .ok (.getfield 15, 3) := by decide +kernel
theorem d_Y_startsTo_54 : decode c_Y_startsTo 54 = .ok (.iload 4, 2) := by decide +kernel
theorem d_Y_startsTo_56 : decode c_Y_startsTo 56 = .ok (.iaload, 1) := by decide +kernel
theorem d_Y_startsTo_57 : decode c_Y_startsTo 57 = .ok (.ior, 1) := by decide +kernel
theorem d_Y_startsTo_58 : decode c_Y_startsTo 58 = .ok (.istore_n 3, 1) := by decide +kernel
theorem d_Y_startsTo_59 : decode c_Y_startsTo 59 = .ok (.iinc 4 1, 3) := by decide +kernel
theorem d_Y_startsTo_62 : decode c_Y_startsTo 62 = .ok (.goto (-31), 3) := by decide +kernel
theorem d_Y_startsTo_65 : decode c_Y_startsTo 65 = .ok (.iload_n 3, 1) := by decide +kernel
theorem d_Y_startsTo_66 : decode c_Y_startsTo 66 = .ok (.ireturn, 1) := by decide +kernel
theorem d_B_init_0 : decode c_B_init 0 = .ok (.aload_n 0, 1) := by decide +kernel
theorem d_B_init_1 : decode c_B_init 1 = .ok (.invokespecial 3, 3) := by decide +kernel
theorem d_B_init_4 : decode c_B_init 4 = .ok (.aload_n 0, 1) := by decide +kernel
theorem d_B_init_5 : decode c_B_init 5 = .ok (.iload_n 1, 1) := by decide +kernel
theorem d_B_init_6 : decode c_B_init 6 = .ok (.invokestatic 9, 3) := by decide +kernel
theorem d_B_init_9 : decode c_B_init 9 = .ok (.ifCond .eq 7, 3) := by decide +kernel
theorem d_B_init_12 : decode c_B_init 12 = .ok (.iload_n 1, 1) := by decide +kernel
theorem d_B_init_13 : decode c_B_init 13 = .ok (.goto 4, 3) := by decide +kernel
theorem d_B_init_16 : decode c_B_init 16 = .ok (.iconst 0, 1) := by decide +kernel
theorem d_B_init_17 : decode c_B_init 17 = .ok (.putfield 13, 3) := by decide +kernel
theorem d_B_init_20 : decode c_B_init 20 = .ok (.aload_n 0, 1) := by decide +kernel
theorem d_B_init_21 : decode c_B_init 21 = .ok (.new 17, 3) := by decide +kernel
theorem d_B_init_24 : decode c_B_init 24 = .ok (.dup, 1) := by decide +kernel
theorem d_B_init_25 : decode c_B_init 25 = .ok (.invokespecial 19, 3) := by decide +kernel
theorem d_B_init_28 : decode c_B_init 28 = .ok (.putfield 20, 3) := by decide +kernel
theorem d_B_init_31 : decode c_B_init 31 = .ok (.aload_n 0, 1) := by decide +kernel
theorem d_B_init_32 : decode c_B_init 32 = .ok (.new 24, 3) := by decide +kernel
theorem d_B_init_35 : decode c_B_init 35 = .ok (.dup, 1) := by decide +kernel
theorem d_B_init_36 : decode c_B_init 36 = .ok (.invokespecial 26, 3) := by decide +kernel
theorem d_B_init_39 : decode c_B_init 39 = .ok (.putfield 27, 3) := by decide +kernel
theorem d_B_init_42 : decode c_B_init 42 = .ok (.aload_n 0, 1) := by decide +kernel
theorem d_B_init_43 : decode c_B_init 43 = .ok (.new 31, 3) := by decide +kernel
theorem d_B_init_46 : decode c_B_init 46 = .ok (.dup, 1) := by decide +kernel
theorem d_B_init_47 : decode c_B_init 47 = .ok (.aload_n 0, 1) := by decide +kernel
theorem d_B_init_48 : decode c_B_init 48 = .ok (.getfield 27, 3) := by decide +kernel
theorem d_B_init_51 : decode c_B_init 51 = .ok (.aload_n 0, 1) := by decide +kernel
theorem d_B_init_52 : decode c_B_init 52 = .ok (.getfield 13, 3) := by decide +kernel
theorem d_B_init_55 : decode c_B_init 55 = .ok (.invokespecial 33, 3) := by decide +kernel
theorem d_B_init_58 : decode c_B_init 58 = .ok (.putfield 36, 3) := by decide +kernel
theorem d_B_init_61 : decode c_B_init 61 = .ok (.aload_n 0, 1) := by decide +kernel
theorem d_B_init_62 : decode c_B_init 62 = .ok (.iconst (-1), 1) := by decide +kernel
theorem d_B_init_63 : decode c_B_init 63 = .ok (.putfield 40, 3) := by decide +kernel
theorem d_B_init_66 : decode c_B_init 66 = .ok (.aload_n 0, 1) := by decide +kernel
theorem d_B_init_67 : decode c_B_init 67 = .ok (.bipush (-10), 2) := by decide +kernel
theorem d_B_init_69 : decode c_B_init 69 = .ok (.putfield 43, 3) := by decide +kernel
theorem d_B_init_72 : decode c_B_init 72 = .ok (.return_, 1) := by decide +kernel
theorem d_B_isRouter_0 : decode c_B_isRouter 0 = .ok (.iload_n 0, 1) := by decide +kernel
theorem d_B_isRouter_1 : decode c_B_isRouter 1 = .ok (.ifCond .lt 13, 3) := by decide +kernel
theorem d_B_isRouter_4 : decode c_B_isRouter 4 = .ok (.iload_n 0, 1) := by decide +kernel
theorem d_B_isRouter_5 : decode c_B_isRouter 5 = .ok (.bipush 64, 2) := by decide +kernel
theorem d_B_isRouter_7 : decode c_B_isRouter 7 = .ok (.if_icmp .ge 7, 3) := by decide +kernel
theorem d_B_isRouter_10 : decode c_B_isRouter 10 = .ok (.iconst 1, 1) := by decide +kernel
theorem d_B_isRouter_11 : decode c_B_isRouter 11 = .ok (.goto 4, 3) := by decide +kernel
theorem d_B_isRouter_14 : decode c_B_isRouter 14 = .ok (.iconst 0, 1) := by decide +kernel
theorem d_B_isRouter_15 : decode c_B_isRouter 15 = .ok (.ireturn, 1) := by decide +kernel
theorem d_B_make_0 : decode c_B_make 0 = .ok (.aload_n 0, 1) := by decide +kernel
theorem d_B_make_1 : decode c_B_make 1 = .ok (.getfield 138, 3) := by decide +kernel
theorem d_B_make_4 : decode c_B_make 4 = .ok (.aload_n 0, 1) := by decide +kernel
theorem d_B_make_5 : decode c_B_make 5 = .ok (.getfield 43, 3) := by decide +kernel
theorem d_B_make_8 : decode c_B_make 8 = .ok (.isub, 1) := by decide +kernel
theorem d_B_make_9 : decode c_B_make 9 = .ok (.bipush 10, 2) := by decide +kernel
theorem d_B_make_11 : decode c_B_make 11 = .ok (.if_icmp .lt 10, 3) := by decide +kernel
theorem d_B_make_14 : decode c_B_make 14 = .ok (.aload_n 0, 1) := by decide +kernel
theorem d_B_make_15 : decode c_B_make 15 = .ok (.invokevirtual 148, 3) := by decide +kernel
theorem d_B_make_18 : decode c_B_make 18 = .ok (.ifCond .ne 5, 3) := by decide +kernel
theorem d_B_make_21 : decode c_B_make 21 = .ok (.iconst (-1), 1) := by decide +kernel
theorem d_B_make_22 : decode c_B_make 22 = .ok (.ireturn, 1) := by decide +kernel
theorem d_B_make_23 : decode c_B_make 23 = .ok (.aload_n 0, 1) := by decide +kernel
theorem d_B_make_24 : decode c_B_make 24 = .ok (.dup, 1) := by decide +kernel
theorem d_B_make_25 : decode c_B_make 25 = .ok (.getfield 151, 3) := by decide +kernel
theorem d_B_make_28 : decode c_B_make 28 = .ok (.iconst 1, 1) := by decide +kernel
theorem d_B_make_29 : decode c_B_make 29 = .ok (.iadd, 1) := by decide +kernel
theorem d_B_make_30 : decode c_B_make 30 = .ok (.putfield 151, 3) := by decide +kernel
theorem d_B_make_33 : decode c_B_make 33 = .ok (.aload_n 0, 1) := by decide +kernel
theorem d_B_make_34 : decode c_B_make 34 = .ok (.aload_n 0, 1) := by decide +kernel
theorem d_B_make_35 : decode c_B_make 35 = .ok (.getfield 138, 3) := by decide +kernel
theorem d_B_make_38 : decode c_B_make 38 = .ok (.putfield 43, 3) := by decide +kernel
theorem d_B_make_41 : decode c_B_make 41 = .ok (.aload_n 0, 1) := by decide +kernel
theorem d_B_make_42 : decode c_B_make 42 = .ok (.getfield 20, 3) := by decide +kernel
theorem d_B_make_45 : decode c_B_make 45 = .ok (.aload_n 0, 1) := by decide +kernel
theorem d_B_make_46 : decode c_B_make 46 = .ok (.getfield 27, 3) := by decide +kernel
theorem d_B_make_49 : decode c_B_make 49 = .ok (.bipush 65, 2) := by decide +kernel
theorem d_B_make_51 : decode c_B_make 51 = .ok (.invokevirtual 154, 3) := by decide +kernel
theorem d_B_make_54 : decode c_B_make 54 = .ok (.aload_n 0, 1) := by decide +kernel
theorem d_B_make_55 : decode c_B_make 55 = .ok (.bipush 65, 2) := by decide +kernel
theorem d_B_make_57 : decode c_B_make 57 = .ok (.aload_n 0, 1) := by decide +kernel
theorem d_B_make_58 : decode c_B_make 58 = .ok (.getfield 13, 3) := by decide +kernel
theorem d_B_make_61 : decode c_B_make 61 = .ok (.aload_n 0, 1) := by decide +kernel
theorem d_B_make_62 : decode c_B_make 62 = .ok (.getfield 151, 3) := by decide +kernel
theorem d_B_make_65 : decode c_B_make 65 = .ok (.invokevirtual 157, 3) := by decide +kernel
theorem d_B_make_68 : decode c_B_make 68 = .ok (.aload_n 0, 1) := by decide +kernel
theorem d_B_make_69 : decode c_B_make 69 = .ok (.getfield 151, 3) := by decide +kernel
theorem d_B_make_72 : decode c_B_make 72 = .ok (.ireturn, 1) := by decide +kernel
theorem d_B_mustMake_0 : decode c_B_mustMake 0 = .ok (.aload_n 0, 1) := by decide +kernel
theorem d_B_mustMake_1 : decode c_B_mustMake 1 = .ok (.getfield 27, 3) := by decide +kernel
theorem d_B_mustMake_4 : decode c_B_mustMake 4 = .ok (.aload_n 0, 1) := by decide +kernel
theorem d_B_mustMake_5 : decode c_B_mustMake 5 = .ok (.getfield 13, 3) := by decide +kernel
theorem d_B_mustMake_8 : decode c_B_mustMake 8 = .ok (.invokevirtual 186, 3) := by decide +kernel
theorem d_B_mustMake_11 : decode c_B_mustMake 11 = .ok (.ifCond .eq 36, 3) := by decide +kernel
theorem d_B_mustMake_14 : decode c_B_mustMake 14 = .ok (.aload_n 0, 1) := by decide +kernel
theorem d_B_mustMake_15 : decode c_B_mustMake 15 = .ok (.aload_n 0, 1) := by decide +kernel
theorem d_B_mustMake_16 : decode c_B_mustMake 16 = .ok (.getfield 13, 3) := by decide +kernel
theorem d_B_mustMake_19 : decode c_B_mustMake 19 = .ok (.invokevirtual 189, 3) := by decide +kernel
theorem d_B_mustMake_22 : decode c_B_mustMake 22 = .ok (.sipush 2000, 3) := by decide +kernel
theorem d_B_mustMake_25 : decode c_B_mustMake 25 = .ok (.if_icmp .ge 22, 3) := by decide +kernel
theorem d_B_mustMake_28 : decode c_B_mustMake 28 = .ok (.aload_n 0, 1) := by decide +kernel
theorem d_B_mustMake_29 : decode c_B_mustMake 29 = .ok (.getfield 151, 3) := by decide +kernel
theorem d_B_mustMake_32 : decode c_B_mustMake 32 = .ok (.aload_n 0, 1) := by decide +kernel
theorem d_B_mustMake_33 : decode c_B_mustMake 33 = .ok (.getfield 27, 3) := by decide +kernel
theorem d_B_mustMake_36 : decode c_B_mustMake 36 = .ok (.getfield 164, 3) := by decide +kernel
theorem d_B_mustMake_39 : decode c_B_mustMake 39 = .ok (.aload_n 0, 1) := by decide +kernel
theorem d_B_mustMake_40 : decode c_B_mustMake 40 = .ok (.getfield 13, 3) := by decide +kernel
theorem d_B_mustMake_43 : decode c_B_mustMake 43 = .ok (.iaload, 1) := by decide +kernel
theorem d_B_mustMake_44 : decode c_B_mustMake 44 = .ok (.if_icmp .le 5, 3) := by decide +kernel
theorem d_B_mustMake_47 : decode c_B_mustMake 47 = .ok (.iconst 1, 1) := by decide +kernel
theorem d_B_mustMake_48 : decode c_B_mustMake 48 = .ok (.ireturn, 1) := by decide +kernel
theorem d_B_mustMake_49 : decode c_B_mustMake 49 = .ok (.aload_n 0, 1) := by decide +kernel
theorem d_B_mustMake_50 : decode c_B_mustMake 50 = .ok (.getfield 20, 3) := by decide +kernel
theorem d_B_mustMake_53 : decode c_B_mustMake 53 = .ok (.aload_n 0, 1) := by decide +kernel
theorem d_B_mustMake_54 : decode c_B_mustMake 54 = .ok (.getfield 27, 3) := by decide +kernel
theorem d_B_mustMake_57 : decode c_B_mustMake 57 = .ok (.bipush 65, 2) := by decide +kernel
theorem d_B_mustMake_59 : decode c_B_mustMake 59 = .ok (.invokevirtual 154, 3) := by decide +kernel
theorem d_B_mustMake_62 : decode c_B_mustMake 62 = .ok (.aload_n 0, 1) := by decide +kernel
theorem d_B_mustMake_63 : decode c_B_mustMake 63 = .ok (.getfield 27, 3) := by decide +kernel
theorem d_B_mustMake_66 : decode c_B_mustMake 66 = .ok (.aload_n 0, 1) := by decide +kernel
theorem d_B_mustMake_67 : decode c_B_mustMake 67 = .ok (.getfield 13, 3) := by decide +kernel
theorem d_B_mustMake_70 : decode c_B_mustMake 70 = .ok (.bipush 65, 2) := by decide +kernel
theorem d_B_mustMake_72 : decode c_B_mustMake 72 = .ok (.invokevirtual 227, 3) := by decide +kernel
theorem d_B_mustMake_75 : decode c_B_mustMake 75 = .ok (.ifCond .ne 7, 3) := by decide +kernel
theorem d_B_mustMake_78 : decode c_B_mustMake 78 = .ok (.iconst 1, 1) := by decide +kernel
theorem d_B_mustMake_79 : decode c_B_mustMake 79 = .ok (.goto 4, 3) := by decide +kernel
theorem d_B_mustMake_82 : decode c_B_mustMake 82 = .ok (.iconst 0, 1) := by decide +kernel
theorem d_B_mustMake_83 : decode c_B_mustMake 83 = .ok (.ireturn, 1) := by decide +kernel
theorem d_B_ageOf_0 : decode c_B_ageOf 0 = .ok (.aload_n 0, 1) := by decide +kernel
theorem d_B_ageOf_1 : decode c_B_ageOf 1 = .ok (.getfield 138, 3) := by decide +kernel
theorem d_B_ageOf_4 : decode c_B_ageOf 4 = .ok (.aload_n 0, 1) := by decide +kernel
theorem d_B_ageOf_5 : decode c_B_ageOf 5 = .ok (.getfield 27, 3) := by decide +kernel
theorem d_B_ageOf_8 : decode c_B_ageOf 8 = .ok (.getfield 221, 3) := by decide +kernel
theorem d_B_ageOf_11 : decode c_B_ageOf 11 = .ok (.iload_n 1, 1) := by decide +kernel
theorem d_B_ageOf_12 : decode c_B_ageOf 12 = .ok (.iaload, 1) := by decide +kernel
theorem d_B_ageOf_13 : decode c_B_ageOf 13 = .ok (.isub, 1) := by decide +kernel
theorem d_B_ageOf_14 : decode c_B_ageOf 14 = .ok (.ireturn, 1) := by decide +kernel
theorem d_B_takeIn_0 : decode c_B_takeIn 0 = .ok (.aload_n 0, 1) := by decide +kernel
theorem d_B_takeIn_1 : decode c_B_takeIn 1 = .ok (.getfield 27, 3) := by decide +kernel
theorem d_B_takeIn_4 : decode c_B_takeIn 4 = .ok (.iload_n 1, 1) := by decide +kernel
theorem d_B_takeIn_5 : decode c_B_takeIn 5 = .ok (.iload_n 2, 1) := by decide +kernel
theorem d_B_takeIn_6 : decode c_B_takeIn 6 = .ok (.invokevirtual 217, 3) := by decide +kernel
theorem d_B_takeIn_9 : decode c_B_takeIn 9 = .ok (.aload_n 0, 1) := by decide +kernel
theorem d_B_takeIn_10 : decode c_B_takeIn 10 = .ok (.getfield 27, 3) := by decide +kernel
theorem d_B_takeIn_13 : decode c_B_takeIn 13 = .ok (.getfield 164, 3) := by decide +kernel
theorem d_B_takeIn_16 : decode c_B_takeIn 16 = .ok (.iload_n 2, 1) := by decide +kernel
theorem d_B_takeIn_17 : decode c_B_takeIn 17 = .ok (.iload_n 3, 1) := by decide +kernel
theorem d_B_takeIn_18 : decode c_B_takeIn 18 = .ok (.iastore, 1) := by decide +kernel
theorem d_B_takeIn_19 : decode c_B_takeIn 19 = .ok (.aload_n 0, 1) := by decide +kernel
theorem d_B_takeIn_20 : decode c_B_takeIn 20 = .ok (.getfield 27, 3) := by decide +kernel
theorem d_B_takeIn_23 : decode c_B_takeIn 23 = .ok (.getfield 221, 3) := by decide +kernel
theorem d_B_takeIn_26 : decode c_B_takeIn 26 = .ok (.iload_n 2, 1) := by decide +kernel
theorem d_B_takeIn_27 : decode c_B_takeIn 27 = .ok (.aload_n 0, 1) := by decide +kernel
theorem d_B_takeIn_28 : decode c_B_takeIn 28 = .ok (.getfield 138, 3) := by decide +kernel
theorem d_B_takeIn_31 : decode c_B_takeIn 31 = .ok (.iastore, 1) := by decide +kernel
theorem d_B_takeIn_32 : decode c_B_takeIn 32 = .ok (.aload_n 0, 1) := by decide +kernel
theorem d_B_takeIn_33 : decode c_B_takeIn 33 = .ok (.getfield 36, 3) := by decide +kernel
theorem d_B_takeIn_36 : decode c_B_takeIn 36 = .ok (.invokevirtual 224, 3) := by decide +kernel
theorem d_B_takeIn_39 : decode c_B_takeIn 39 = .ok (.return_, 1) := by decide +kernel
theorem d_B_known_0 : decode c_B_known 0 = .ok (.iconst 0, 1) := by decide +kernel
theorem d_B_known_1 : decode c_B_known 1 = .ok (.istore_n 1, 1) := by decide +kernel
theorem d_B_known_2 : decode c_B_known 2 = .ok (.iconst 0, 1) := by decide +kernel
theorem d_B_known_3 : decode c_B_known 3 = .ok (.istore_n 2, 1) := by decide +kernel
theorem d_B_known_4 : decode c_B_known 4 = .ok (.iload_n 2, 1) := by decide +kernel
theorem d_B_known_5 : decode c_B_known 5 = .ok (.bipush 64, 2) := by decide +kernel
theorem d_B_known_7 : decode c_B_known 7 = .ok (.if_icmp .ge 23, 3) := by decide +kernel
theorem d_B_known_10 : decode c_B_known 10 = .ok (.aload_n 0, 1) := by decide +kernel
theorem d_B_known_11 : decode c_B_known 11 = .ok (.getfield 27, 3) := by decide +kernel
theorem d_B_known_14 : decode c_B_known 14 = .ok (.iload_n 2, 1) := by decide +kernel
theorem d_B_known_15 : decode c_B_known 15 = .ok (.invokevirtual 186, 3) := by decide +kernel
theorem d_B_known_18 : decode c_B_known 18 = .ok (.ifCond .eq 6, 3) := by decide +kernel
theorem d_B_known_21 : decode c_B_known 21 = .ok (.iinc 1 1, 3) := by decide +kernel
theorem d_B_known_24 : decode c_B_known 24 = .ok (.iinc 2 1, 3) := by decide +kernel
theorem d_B_known_27 : decode c_B_known 27 = .ok (.goto (-23), 3) := by decide +kernel
theorem d_B_known_30 : decode c_B_known 30 = .ok (.iload_n 1, 1) := by decide +kernel
theorem d_B_known_31 : decode c_B_known 31 = .ok (.ireturn, 1) := by decide +kernel
theorem d_B_time_0 : decode c_B_time 0 = .ok (.aload_n 0, 1) := by decide +kernel
theorem d_B_time_1 : decode c_B_time 1 = .ok (.getfield 138, 3) := by decide +kernel
theorem d_B_time_4 : decode c_B_time 4 = .ok (.ireturn, 1) := by decide +kernel
theorem d_B_port_0 : decode c_B_port 0 = .ok (.iload_n 1, 1) := by decide +kernel
theorem d_B_port_1 : decode c_B_port 1 = .ok (.invokestatic 46, 3) := by decide +kernel
theorem d_B_port_4 : decode c_B_port 4 = .ok (.ifCond .eq 14, 3) := by decide +kernel
theorem d_B_port_7 : decode c_B_port 7 = .ok (.iload_n 2, 1) := by decide +kernel
theorem d_B_port_8 : decode c_B_port 8 = .ok (.ifCond .eq 20, 3) := by decide +kernel
theorem d_B_port_11 : decode c_B_port 11 = .ok (.iload_n 2, 1) := by decide +kernel
theorem d_B_port_12 : decode c_B_port 12 = .ok (.invokestatic 49, 3) := by decide +kernel
theorem d_B_port_15 : decode c_B_port 15 = .ok (.ifCond .ne 13, 3) := by decide +kernel
theorem d_B_port_18 : decode c_B_port 18 = .ok (.new 52, 3) := by decide +kernel
theorem d_B_port_21 : decode c_B_port 21 = .ok (.dup, 1) := by decide +kernel
theorem d_B_port_22 : decode c_B_port 22 = .ok (.ldc 54, 2) := by decide +kernel
theorem d_B_port_24 : decode c_B_port 24 = .ok (.invokespecial 56, 3) := by decide +kernel
theorem d_B_port_27 : decode c_B_port 27 = .ok (.athrow, 1) := by decide +kernel
theorem d_B_port_28 : decode c_B_port 28 = .ok (.iload_n 2, 1) := by decide +kernel
theorem d_B_port_29 : decode c_B_port 29 = .ok (.ifCond .eq 24, 3) := by decide +kernel
theorem d_B_port_32 : decode c_B_port 32 = .ok (.aload_n 0, 1) := by decide +kernel
theorem d_B_port_33 : decode c_B_port 33 = .ok (.getfield 20, 3) := by decide +kernel
theorem d_B_port_36 : decode c_B_port 36 = .ok (.iload_n 1, 1) := by decide +kernel
theorem d_B_port_37 : decode c_B_port 37 = .ok (.invokevirtual 59, 3) := by decide +kernel
theorem d_B_port_40 : decode c_B_port 40 = .ok (.ifCond .ne 13, 3) := by decide +kernel
theorem d_B_port_43 : decode c_B_port 43 = .ok (.new 62, 3) := by decide +kernel
theorem d_B_port_46 : decode c_B_port 46 = .ok (.dup, 1) := by decide +kernel
theorem d_B_port_47 : decode c_B_port 47 = .ok (.ldc 64, 2) := by decide +kernel
theorem d_B_port_49 : decode c_B_port 49 = .ok (.invokespecial 66, 3) := by decide +kernel
theorem d_B_port_52 : decode c_B_port 52 = .ok (.athrow, 1) := by decide +kernel
theorem d_B_port_53 : decode c_B_port 53 = .ok (.aload_n 0, 1) := by decide +kernel
theorem d_B_port_54 : decode c_B_port 54 = .ok (.getfield 20, 3) := by decide +kernel
theorem d_B_port_57 : decode c_B_port 57 = .ok (.iload_n 1, 1) := by decide +kernel
theorem d_B_port_58 : decode c_B_port 58 = .ok (.iload_n 2, 1) := by decide +kernel
theorem d_B_port_59 : decode c_B_port 59 = .ok (.invokevirtual 67, 3) := by decide +kernel
theorem d_B_port_62 : decode c_B_port 62 = .ok (.ireturn, 1) := by decide +kernel
theorem d_B_isNet_0 : decode c_B_isNet 0 = .ok (.iload_n 0, 1) := by decide +kernel
theorem d_B_isNet_1 : decode c_B_isNet 1 = .ok (.ifCond .lt 13, 3) := by decide +kernel
theorem d_B_isNet_4 : decode c_B_isNet 4 = .ok (.iload_n 0, 1) := by decide +kernel
theorem d_B_isNet_5 : decode c_B_isNet 5 = .ok (.bipush 64, 2) := by decide +kernel
theorem d_B_isNet_7 : decode c_B_isNet 7 = .ok (.if_icmp .ge 7, 3) := by decide +kernel
theorem d_B_isNet_10 : decode c_B_isNet 10 = .ok (.iconst 1, 1) := by decide +kernel
theorem d_B_isNet_11 : decode c_B_isNet 11 = .ok (.goto 4, 3) := by decide +kernel
theorem d_B_isNet_14 : decode c_B_isNet 14 = .ok (.iconst 0, 1) := by decide +kernel
theorem d_B_isNet_15 : decode c_B_isNet 15 = .ok (.ireturn, 1) := by decide +kernel
theorem d_B_isCost_0 : decode c_B_isCost 0 = .ok (.iload_n 0, 1) := by decide +kernel
theorem d_B_isCost_1 : decode c_B_isCost 1 = .ok (.iconst 1, 1) := by decide +kernel
theorem d_B_isCost_2 : decode c_B_isCost 2 = .ok (.if_icmp .lt 14, 3) := by decide +kernel
theorem d_B_isCost_5 : decode c_B_isCost 5 = .ok (.iload_n 0, 1) := by decide +kernel
theorem d_B_isCost_6 : decode c_B_isCost 6 = .ok (.sipush 1000, 3) := by decide +kernel
theorem d_B_isCost_9 : decode c_B_isCost 9 = .ok (.if_icmp .gt 7, 3) := by decide +kernel
theorem d_B_isCost_12 : decode c_B_isCost 12 = .ok (.iconst 1, 1) := by decide +kernel
theorem d_B_isCost_13 : decode c_B_isCost 13 = .ok (.goto 4, 3) := by decide +kernel
theorem d_B_isCost_16 : decode c_B_isCost 16 = .ok (.iconst 0, 1) := by decide +kernel
theorem d_B_isCost_17 : decode c_B_isCost 17 = .ok (.ireturn, 1) := by decide +kernel
theorem d_B_stepOf_0 : decode c_B_stepOf 0 = .ok (.bipush 64, 2) := by decide +kernel
theorem d_B_stepOf_2 : decode c_B_stepOf 2 = .ok (.iload_n 0, 1) := by decide +kernel
theorem d_B_stepOf_3 : decode c_B_stepOf 3 = .ok (.imul, 1) := by decide +kernel
theorem d_B_stepOf_4 : decode c_B_stepOf 4 = .ok (.iload_n 1, 1) := by decide +kernel
theorem d_B_stepOf_5 : decode c_B_stepOf 5 = .ok (.iadd, 1) := by decide +kernel
theorem d_B_stepOf_6 : decode c_B_stepOf 6 = .ok (.ireturn, 1) := by decide +kernel
theorem d_B_friend_0 : decode c_B_friend 0 = .ok (.iload_n 1, 1) := by decide +kernel
theorem d_B_friend_1 : decode c_B_friend 1 = .ok (.invokestatic 9, 3) := by decide +kernel
theorem d_B_friend_4 : decode c_B_friend 4 = .ok (.ifCond .eq 18, 3) := by decide +kernel
theorem d_B_friend_7 : decode c_B_friend 7 = .ok (.iload_n 2, 1) := by decide +kernel
theorem d_B_friend_8 : decode c_B_friend 8 = .ok (.invokestatic 46, 3) := by decide +kernel
theorem d_B_friend_11 : decode c_B_friend 11 = .ok (.ifCond .eq 11, 3) := by decide +kernel
theorem d_B_friend_14 : decode c_B_friend 14 = .ok (.iload_n 1, 1) := by decide +kernel
theorem d_B_friend_15 : decode c_B_friend 15 = .ok (.aload_n 0, 1) := by decide +kernel
theorem d_B_friend_16 : decode c_B_friend 16 = .ok (.getfield 13, 3) := by decide +kernel
theorem d_B_friend_19 : decode c_B_friend 19 = .ok (.if_icmp .ne 13, 3) := by decide +kernel
theorem d_B_friend_22 : decode c_B_friend 22 = .ok (.new 52, 3) := by decide +kernel
theorem d_B_friend_25 : decode c_B_friend 25 = .ok (.dup, 1) := by decide +kernel
theorem d_B_friend_26 : decode c_B_friend 26 = .ok (.ldc 71, 2) := by decide +kernel
theorem d_B_friend_28 : decode c_B_friend 28 = .ok (.invokespecial 56, 3) := by decide +kernel
theorem d_B_friend_31 : decode c_B_friend 31 = .ok (.athrow, 1) := by decide +kernel
theorem d_B_friend_32 : decode c_B_friend 32 = .ok (.aload_n 0, 1) := by decide +kernel
theorem d_B_friend_33 : decode c_B_friend 33 = .ok (.getfield 20, 3) := by decide +kernel
theorem d_B_friend_36 : decode c_B_friend 36 = .ok (.iload_n 2, 1) := by decide +kernel
theorem d_B_friend_37 : decode c_B_friend 37 = .ok (.invokevirtual 73, 3) := by decide +kernel
theorem d_B_friend_40 : decode c_B_friend 40 = .ok (.ifCond .ne 13, 3) := by decide +kernel
theorem d_B_friend_43 : decode c_B_friend 43 = .ok (.new 62, 3) := by decide +kernel
theorem d_B_friend_46 : decode c_B_friend 46 = .ok (.dup, 1) := by decide +kernel
theorem d_B_friend_47 : decode c_B_friend 47 = .ok (.ldc 76, 2) := by decide +kernel
theorem d_B_friend_49 : decode c_B_friend 49 = .ok (.invokespecial 66, 3) := by decide +kernel
theorem d_B_friend_52 : decode c_B_friend 52 = .ok (.athrow, 1) := by decide +kernel
theorem d_B_friend_53 : decode c_B_friend 53 = .ok (.iload_n 2, 1) := by decide +kernel
theorem d_B_friend_54 : decode c_B_friend 54 = .ok (.iload_n 1, 1) := by decide +kernel
theorem d_B_friend_55 : decode c_B_friend 55 = .ok (.invokestatic 78, 3) := by decide +kernel
theorem d_B_friend_58 : decode c_B_friend 58 = .ok (.istore 4, 2) := by decide +kernel
theorem d_B_friend_60 : decode c_B_friend 60 = .ok (.aload_n 0, 1) := by decide +kernel
theorem d_B_friend_61 : decode c_B_friend 61 = .ok (.getfield 20, 3) := by decide +kernel
theorem d_B_friend_64 : decode c_B_friend 64 = .ok (.iload 4, 2) := by decide +kernel
theorem d_B_friend_66 : decode c_B_friend 66 = .ok (.invokevirtual 81, 3) := by decide +kernel
theorem d_B_friend_69 : decode c_B_friend 69 = .ok (.iload_n 3, 1) := by decide +kernel
theorem d_B_friend_70 : decode c_B_friend 70 = .ok (.if_icmp .ne 5, 3) := by decide +kernel
theorem d_B_friend_73 : decode c_B_friend 73 = .ok (.iconst 0, 1) := by decide +kernel
theorem d_B_friend_74 : decode c_B_friend 74 = .ok (.ireturn, 1) := by decide +kernel
theorem d_B_friend_75 : decode c_B_friend 75 = .ok (.iload_n 3, 1) := by decide +kernel
theorem d_B_friend_76 : decode c_B_friend 76 = .ok (.ifCond .ne 14, 3) := by decide +kernel
theorem d_B_friend_79 : decode c_B_friend 79 = .ok (.aload_n 0, 1) := by decide +kernel
theorem d_B_friend_80 : decode c_B_friend 80 = .ok (.getfield 20, 3) := by decide +kernel
theorem d_B_friend_83 : decode c_B_friend 83 = .ok (.iload 4, 2) := by decide +kernel
theorem d_B_friend_85 : decode c_B_friend 85 = .ok (.invokevirtual 84, 3) := by decide +kernel
theorem d_B_friend_88 : decode c_B_friend 88 = .ok (.iconst 1, 1) := by decide +kernel
theorem d_B_friend_89 : decode c_B_friend 89 = .ok (.ireturn, 1) := by decide +kernel
theorem d_B_friend_90 : decode c_B_friend 90 = .ok (.aload_n 0, 1) := by decide +kernel
theorem d_B_friend_91 : decode c_B_friend 91 = .ok (.getfield 20, 3) := by decide +kernel
theorem d_B_friend_94 : decode c_B_friend 94 = .ok (.invokevirtual 88, 3) := by decide +kernel
theorem d_B_friend_97 : decode c_B_friend 97 = .ok (.ifCond .ne 13, 3) := by decide +kernel
theorem d_B_friend_100 : decode c_B_friend 100 = .ok (.new 62, 3) := by decide +kernel
theorem d_B_friend_103 : decode c_B_friend 103 = .ok (.dup, 1) := by decide +kernel
theorem d_B_friend_104 : decode c_B_friend 104 = .ok (.ldc 92, 2) := by decide +kernel
theorem d_B_friend_106 : decode c_B_friend 106 = .ok (.invokespecial 66, 3) := by decide +kernel
theorem d_B_friend_109 : decode c_B_friend 109 = .ok (.athrow, 1) := by decide +kernel
theorem d_B_friend_110 : decode c_B_friend 110 = .ok (.aload_n 0, 1) := by decide +kernel
theorem d_B_friend_111 : decode c_B_friend 111 = .ok (.getfield 20, 3) := by decide +kernel
theorem d_B_friend_114 : decode c_B_friend 114 = .ok (.iload 4, 2) := by decide +kernel
theorem d_B_friend_116 : decode c_B_friend 116 = .ok (.invokevirtual 94, 3) := by decide +kernel
theorem d_B_friend_119 : decode c_B_friend 119 = .ok (.iconst 1, 1) := by decide +kernel
theorem d_B_friend_120 : decode c_B_friend 120 = .ok (.ireturn, 1) := by decide +kernel
theorem d_B_begin_0 : decode c_B_begin 0 = .ok (.iload_n 1, 1) := by decide +kernel
theorem d_B_begin_1 : decode c_B_begin 1 = .ok (.invokestatic 9, 3) := by decide +kernel
theorem d_B_begin_4 : decode c_B_begin 4 = .ok (.ifCond .eq 14, 3) := by decide +kernel
theorem d_B_begin_7 : decode c_B_begin 7 = .ok (.iload_n 2, 1) := by decide +kernel
theorem d_B_begin_8 : decode c_B_begin 8 = .ok (.iconst 1, 1) := by decide +kernel
theorem d_B_begin_9 : decode c_B_begin 9 = .ok (.if_icmp .lt 9, 3) := by decide +kernel
theorem d_B_begin_12 : decode c_B_begin 12 = .ok (.iload_n 2, 1) := by decide +kernel
theorem d_B_begin_13 : decode c_B_begin 13 = .ok (.ldc 97, 2) := by decide +kernel
theorem d_B_begin_15 : decode c_B_begin 15 = .ok (.if_icmp .le 13, 3) := by decide +kernel
theorem d_B_begin_18 : decode c_B_begin 18 = .ok (.new 52, 3) := by decide +kernel
theorem d_B_begin_21 : decode c_B_begin 21 = .ok (.dup, 1) := by decide +kernel
theorem d_B_begin_22 : decode c_B_begin 22 = .ok (.ldc 98, 2) := by decide +kernel
theorem d_B_begin_24 : decode c_B_begin 24 = .ok (.invokespecial 56, 3) := by decide +kernel
theorem d_B_begin_27 : decode c_B_begin 27 = .ok (.athrow, 1) := by decide +kernel
theorem d_B_begin_28 : decode c_B_begin 28 = .ok (.aload_n 0, 1) := by decide +kernel
theorem d_B_begin_29 : decode c_B_begin 29 = .ok (.iload_n 1, 1) := by decide +kernel
theorem d_B_begin_30 : decode c_B_begin 30 = .ok (.putfield 40, 3) := by decide +kernel
theorem d_B_begin_33 : decode c_B_begin 33 = .ok (.aload_n 0, 1) := by decide +kernel
theorem d_B_begin_34 : decode c_B_begin 34 = .ok (.iload_n 2, 1) := by decide +kernel
theorem d_B_begin_35 : decode c_B_begin 35 = .ok (.putfield 100, 3) := by decide +kernel
theorem d_B_begin_38 : decode c_B_begin 38 = .ok (.aload_n 0, 1) := by decide +kernel
theorem d_B_begin_39 : decode c_B_begin 39 = .ok (.getfield 27, 3) := by decide +kernel
theorem d_B_begin_42 : decode c_B_begin 42 = .ok (.bipush 64, 2) := by decide +kernel
theorem d_B_begin_44 : decode c_B_begin 44 = .ok (.invokevirtual 103, 3) := by decide +kernel
theorem d_B_begin_47 : decode c_B_begin 47 = .ok (.return_, 1) := by decide +kernel
theorem d_B_entry_0 : decode c_B_entry 0 = .ok (.iload_n 1, 1) := by decide +kernel
theorem d_B_entry_1 : decode c_B_entry 1 = .ok (.iconst (-1), 1) := by decide +kernel
theorem d_B_entry_2 : decode c_B_entry 2 = .ok (.if_icmp .eq 10, 3) := by decide +kernel
theorem d_B_entry_5 : decode c_B_entry 5 = .ok (.iload_n 1, 1) := by decide +kernel
theorem d_B_entry_6 : decode c_B_entry 6 = .ok (.invokestatic 9, 3) := by decide +kernel
theorem d_B_entry_9 : decode c_B_entry 9 = .ok (.ifCond .eq 17, 3) := by decide +kernel
theorem d_B_entry_12 : decode c_B_entry 12 = .ok (.iload_n 2, 1) := by decide +kernel
theorem d_B_entry_13 : decode c_B_entry 13 = .ok (.invokestatic 46, 3) := by decide +kernel
theorem d_B_entry_16 : decode c_B_entry 16 = .ok (.ifCond .eq 10, 3) := by decide +kernel
theorem d_B_entry_19 : decode c_B_entry 19 = .ok (.iload_n 3, 1) := by decide +kernel
theorem d_B_entry_20 : decode c_B_entry 20 = .ok (.invokestatic 49, 3) := by decide +kernel
theorem d_B_entry_23 : decode c_B_entry 23 = .ok (.ifCond .ne 13, 3) := by decide +kernel
theorem d_B_entry_26 : decode c_B_entry 26 = .ok (.new 52, 3) := by decide +kernel
theorem d_B_entry_29 : decode c_B_entry 29 = .ok (.dup, 1) := by decide +kernel
theorem d_B_entry_30 : decode c_B_entry 30 = .ok (.ldc 106, 2) := by decide +kernel
theorem d_B_entry_32 : decode c_B_entry 32 = .ok (.invokespecial 56, 3) := by decide +kernel
theorem d_B_entry_35 : decode c_B_entry 35 = .ok (.athrow, 1) := by decide +kernel
theorem d_B_entry_36 : decode c_B_entry 36 = .ok (.aload_n 0, 1) := by decide +kernel
theorem d_B_entry_37 : decode c_B_entry 37 = .ok (.getfield 40, 3) := by decide +kernel
theorem d_B_entry_40 : decode c_B_entry 40 = .ok (.iconst (-1), 1) := by decide +kernel
theorem d_B_entry_41 : decode c_B_entry 41 = .ok (.if_icmp .eq 21, 3) := by decide +kernel
theorem d_B_entry_44 : decode c_B_entry 44 = .ok (.iload_n 1, 1) := by decide +kernel
theorem d_B_entry_45 : decode c_B_entry 45 = .ok (.aload_n 0, 1) := by decide +kernel
theorem d_B_entry_46 : decode c_B_entry 46 = .ok (.getfield 40, 3) := by decide +kernel
theorem d_B_entry_49 : decode c_B_entry 49 = .ok (.if_icmp .ne 13, 3) := by decide +kernel
theorem d_B_entry_52 : decode c_B_entry 52 = .ok (.new 52, 3) := by decide +kernel
theorem d_B_entry_55 : decode c_B_entry 55 = .ok (.dup, 1) := by decide +kernel
theorem d_B_entry_56 : decode c_B_entry 56 = .ok (.ldc 108, 2) := by decide +kernel
theorem d_B_entry_58 : decode c_B_entry 58 = .ok (.invokespecial 56, 3) := by decide +kernel
theorem d_B_entry_61 : decode c_B_entry 61 = .ok (.athrow, 1) := by decide +kernel
theorem d_B_entry_62 : decode c_B_entry 62 = .ok (.aload_n 0, 1) := by decide +kernel
theorem d_B_entry_63 : decode c_B_entry 63 = .ok (.getfield 40, 3) := by decide +kernel
theorem d_B_entry_66 : decode c_B_entry 66 = .ok (.iconst (-1), 1) := by decide +kernel
theorem d_B_entry_67 : decode c_B_entry 67 = .ok (.if_icmp .eq 29, 3) := by decide +kernel
theorem d_B_entry_70 : decode c_B_entry 70 = .ok (.aload_n 0, 1) := by decide +kernel
theorem d_B_entry_71 : decode c_B_entry 71 = .ok (.getfield 27, 3) := by decide +kernel
theorem d_B_entry_74 : decode c_B_entry 74 = .ok (.bipush 64, 2) := by decide +kernel
theorem d_B_entry_76 : decode c_B_entry 76 = .ok (.invokevirtual 110, 3) := by decide +kernel
theorem d_B_entry_79 : decode c_B_entry 79 = .ok (.ifCond .eq 17, 3) := by decide +kernel
theorem d_B_entry_82 : decode c_B_entry 82 = .ok (.aload_n 0, 1) := by decide +kernel
theorem d_B_entry_83 : decode c_B_entry 83 = .ok (.getfield 27, 3) := by decide +kernel
theorem d_B_entry_86 : decode c_B_entry 86 = .ok (.bipush 64, 2) := by decide +kernel
theorem d_B_entry_88 : decode c_B_entry 88 = .ok (.iload_n 1, 1) := by decide +kernel
theorem d_B_entry_89 : decode c_B_entry 89 = .ok (.iload_n 2, 1) := by decide +kernel
theorem d_B_entry_90 : decode c_B_entry 90 = .ok (.invokevirtual 113, 3) := by decide +kernel
theorem d_B_entry_93 : decode c_B_entry 93 = .ok (.ifCond .eq 13, 3) := by decide +kernel
theorem d_B_entry_96 : decode c_B_entry 96 = .ok (.new 62, 3) := by decide +kernel
theorem d_B_entry_99 : decode c_B_entry 99 = .ok (.dup, 1) := by decide +kernel
theorem d_B_entry_100 : decode c_B_entry 100 = .ok (.ldc 117, 2) := by decide +kernel
theorem d_B_entry_102 : decode c_B_entry 102 = .ok (.invokespecial 66, 3) := by decide +kernel
theorem d_B_entry_105 : decode c_B_entry 105 = .ok (.athrow, 1) := by decide +kernel
theorem d_B_entry_106 : decode c_B_entry 106 = .ok (.aload_n 0, 1) := by decide +kernel
theorem d_B_entry_107 : decode c_B_entry 107 = .ok (.getfield 27, 3) := by decide +kernel
theorem d_B_entry_110 : decode c_B_entry 110 = .ok (.bipush 64, 2) := by decide +kernel
theorem d_B_entry_112 : decode c_B_entry 112 = .ok (.iload_n 1, 1) := by decide +kernel
theorem d_B_entry_113 : decode c_B_entry 113 = .ok (.iload_n 2, 1) := by decide +kernel
theorem d_B_entry_114 : decode c_B_entry 114 = .ok (.iload_n 3, 1) := by decide +kernel
theorem d_B_entry_115 : decode c_B_entry 115 = .ok (.invokevirtual 119, 3) := by decide +kernel
theorem d_B_entry_118 : decode c_B_entry 118 = .ok (.aload_n 0, 1) := by decide +kernel
theorem d_B_entry_119 : decode c_B_entry 119 = .ok (.getfield 27, 3) := by decide +kernel
theorem d_B_entry_122 : decode c_B_entry 122 = .ok (.getfield 123, 3) := by decide +kernel
theorem d_B_entry_125 : decode c_B_entry 125 = .ok (.bipush 64, 2) := by decide +kernel
theorem d_B_entry_127 : decode c_B_entry 127 = .ok (.iaload, 1) := by decide +kernel
theorem d_B_entry_128 : decode c_B_entry 128 = .ok (.ireturn, 1) := by decide +kernel
theorem d_B_come_0 : decode c_B_come 0 = .ok (.aload_n 0, 1) := by decide +kernel
theorem d_B_come_1 : decode c_B_come 1 = .ok (.getfield 40, 3) := by decide +kernel
theorem d_B_come_4 : decode c_B_come 4 = .ok (.iconst (-1), 1) := by decide +kernel
theorem d_B_come_5 : decode c_B_come 5 = .ok (.if_icmp .ne 13, 3) := by decide +kernel
