theorem d_M_distance_0 : decode c_M_distance 0 = .ok (.aload_n 0, 1) := by decide +kernel
theorem d_M_distance_1 : decode c_M_distance 1 = .ok (.iload_n 1, 1) := by decide +kernel
theorem d_M_distance_2 : decode c_M_distance 2 = .ok (.iconst 0, 1) := by decide +kernel
theorem d_M_distance_3 : decode c_M_distance 3 = .ok (.bipush 63, 2) := by decide +kernel
theorem d_M_distance_5 : decode c_M_distance 5 = .ok (.invokestatic 51, 3) := by decide +kernel
theorem d_M_distance_8 : decode c_M_distance 8 = .ok (.ifCond .eq 7, 3) := by decide +kernel
theorem d_M_distance_11 : decode c_M_distance 11 = .ok (.iconst 0, 1) := by decide +kernel
theorem d_M_distance_12 : decode c_M_distance 12 = .ok (.goto 4, 3) := by decide +kernel
theorem d_M_distance_15 : decode c_M_distance 15 = .ok (.iconst 1, 1) := by decide +kernel
theorem d_M_distance_16 : decode c_M_distance 16 = .ok (.putfield 48, 3) := by decide +kernel
theorem d_M_distance_19 : decode c_M_distance 19 = .ok (.aload_n 0, 1) := by decide +kernel
theorem d_M_distance_20 : decode c_M_distance 20 = .ok (.getfield 48, 3) := by decide +kernel
theorem d_M_distance_23 : decode c_M_distance 23 = .ok (.ifCond .le 5, 3) := by decide +kernel
theorem d_M_distance_26 : decode c_M_distance 26 = .ok (.iconst 0, 1) := by decide +kernel
theorem d_M_distance_27 : decode c_M_distance 27 = .ok (.ireturn, 1) := by decide +kernel
theorem d_M_distance_28 : decode c_M_distance 28 = .ok (.aload_n 0, 1) := by decide +kernel
theorem d_M_distance_29 : decode c_M_distance 29 = .ok (.invokevirtual 92, 3) := by decide +kernel
theorem d_M_distance_32 : decode c_M_distance 32 = .ok (.aload_n 0, 1) := by decide +kernel
theorem d_M_distance_33 : decode c_M_distance 33 = .ok (.aload_n 0, 1) := by decide +kernel
theorem d_M_distance_34 : decode c_M_distance 34 = .ok (.getfield 45, 3) := by decide +kernel
theorem d_M_distance_37 : decode c_M_distance 37 = .ok (.invokevirtual 95, 3) := by decide +kernel
theorem d_M_distance_40 : decode c_M_distance 40 = .ok (.aload_n 0, 1) := by decide +kernel
theorem d_M_distance_41 : decode c_M_distance 41 = .ok (.getfield 42, 3) := by decide +kernel
theorem d_M_distance_44 : decode c_M_distance 44 = .ok (.iload_n 1, 1) := by decide +kernel
theorem d_M_distance_45 : decode c_M_distance 45 = .ok (.iaload, 1) := by decide +kernel
theorem d_M_distance_46 : decode c_M_distance 46 = .ok (.ireturn, 1) := by decide +kernel
theorem d_M_check_0 : decode c_M_check 0 = .ok (.iconst 0, 1) := by decide +kernel
theorem d_M_check_1 : decode c_M_check 1 = .ok (.istore_n 1, 1) := by decide +kernel
theorem d_M_check_2 : decode c_M_check 2 = .ok (.iload_n 1, 1) := by decide +kernel
theorem d_M_check_3 : decode c_M_check 3 = .ok (.bipush 64, 2) := by decide +kernel
theorem d_M_check_5 : decode c_M_check 5 = .ok (.if_icmp .ge 75, 3) := by decide +kernel
theorem d_M_check_8 : decode c_M_check 8 = .ok (.bipush 24, 2) := by decide +kernel
theorem d_M_check_10 : decode c_M_check 10 = .ok (.iload_n 1, 1) := by decide +kernel
theorem d_M_check_11 : decode c_M_check 11 = .ok (.imul, 1) := by decide +kernel
theorem d_M_check_12 : decode c_M_check 12 = .ok (.istore_n 2, 1) := by decide +kernel
theorem d_M_check_13 : decode c_M_check 13 = .ok (.iload_n 2, 1) := by decide +kernel
theorem d_M_check_14 : decode c_M_check 14 = .ok (.bipush 24, 2) := by decide +kernel
theorem d_M_check_16 : decode c_M_check 16 = .ok (.iload_n 1, 1) := by decide +kernel
theorem d_M_check_17 : decode c_M_check 17 = .ok (.imul, 1) := by decide +kernel
theorem d_M_check_18 : decode c_M_check 18 = .ok (.aload_n 0, 1) := by decide +kernel
theorem d_M_check_19 : decode c_M_check 19 = .ok (.getfield 27, 3) := by decide +kernel
theorem d_M_check_22 : decode c_M_check 22 = .ok (.iload_n 1, 1) := by decide +kernel
theorem d_M_check_23 : decode c_M_check 23 = .ok (.iaload, 1) := by decide +kernel
theorem d_M_check_24 : decode c_M_check 24 = .ok (.iadd, 1) := by decide +kernel
theorem d_M_check_25 : decode c_M_check 25 = .ok (.if_icmp .ge 49, 3) := by decide +kernel
theorem d_M_check_28 : decode c_M_check 28 = .ok (.aload_n 0, 1) := by decide +kernel
theorem d_M_check_29 : decode c_M_check 29 = .ok (.getfield 39, 3) := by decide +kernel
theorem d_M_check_32 : decode c_M_check 32 = .ok (.iload_n 2, 1) := by decide +kernel
theorem d_M_check_33 : decode c_M_check 33 = .ok (.aload_n 0, 1) := by decide +kernel
theorem d_M_check_34 : decode c_M_check 34 = .ok (.getfield 30, 3) := by decide +kernel
theorem d_M_check_37 : decode c_M_check 37 = .ok (.iload_n 2, 1) := by decide +kernel
theorem d_M_check_38 : decode c_M_check 38 = .ok (.iaload, 1) := by decide +kernel
theorem d_M_check_39 : decode c_M_check 39 = .ok (.ifCond .lt 27, 3) := by decide +kernel
theorem d_M_check_42 : decode c_M_check 42 = .ok (.aload_n 0, 1) := by decide +kernel
theorem d_M_check_43 : decode c_M_check 43 = .ok (.aload_n 0, 1) := by decide +kernel
theorem d_M_check_44 : decode c_M_check 44 = .ok (.getfield 30, 3) := by decide +kernel
theorem d_M_check_47 : decode c_M_check 47 = .ok (.iload_n 2, 1) := by decide +kernel
theorem d_M_check_48 : decode c_M_check 48 = .ok (.iaload, 1) := by decide +kernel
theorem d_M_check_49 : decode c_M_check 49 = .ok (.iload_n 1, 1) := by decide +kernel
theorem d_M_check_50 : decode c_M_check 50 = .ok (.aload_n 0, 1) := by decide +kernel
theorem d_M_check_51 : decode c_M_check 51 = .ok (.getfield 33, 3) := by decide +kernel
theorem d_M_check_54 : decode c_M_check 54 = .ok (.iload_n 2, 1) := by decide +kernel
theorem d_M_check_55 : decode c_M_check 55 = .ok (.iaload, 1) := by decide +kernel
theorem d_M_check_56 : decode c_M_check 56 = .ok (.invokevirtual 70, 3) := by decide +kernel
theorem d_M_check_59 : decode c_M_check 59 = .ok (.ifCond .lt 7, 3) := by decide +kernel
theorem d_M_check_62 : decode c_M_check 62 = .ok (.iconst 1, 1) := by decide +kernel
theorem d_M_check_63 : decode c_M_check 63 = .ok (.goto 4, 3) := by decide +kernel
theorem d_M_check_66 : decode c_M_check 66 = .ok (.iconst 0, 1) := by decide +kernel
theorem d_M_check_67 : decode c_M_check 67 = .ok (.bastore, 1) := by decide +kernel
theorem d_M_check_68 : decode c_M_check 68 = .ok (.iinc 2 1, 3) := by decide +kernel
theorem d_M_check_71 : decode c_M_check 71 = .ok (.goto (-58), 3) := by decide +kernel
theorem d_M_check_74 : decode c_M_check 74 = .ok (.iinc 1 1, 3) := by decide +kernel
theorem d_M_check_77 : decode c_M_check 77 = .ok (.goto (-75), 3) := by decide +kernel
theorem d_M_check_80 : decode c_M_check 80 = .ok (.return_, 1) := by decide +kernel
theorem d_M_spread_0 : decode c_M_spread 0 = .ok (.iconst 0, 1) := by decide +kernel
theorem d_M_spread_1 : decode c_M_spread 1 = .ok (.istore_n 2, 1) := by decide +kernel
theorem d_M_spread_2 : decode c_M_spread 2 = .ok (.iload_n 2, 1) := by decide +kernel
theorem d_M_spread_3 : decode c_M_spread 3 = .ok (.bipush 64, 2) := by decide +kernel
theorem d_M_spread_5 : decode c_M_spread 5 = .ok (.if_icmp .ge 25, 3) := by decide +kernel
theorem d_M_spread_8 : decode c_M_spread 8 = .ok (.aload_n 0, 1) := by decide +kernel
theorem d_M_spread_9 : decode c_M_spread 9 = .ok (.getfield 42, 3) := by decide +kernel
theorem d_M_spread_12 : decode c_M_spread 12 = .ok (.iload_n 2, 1) := by decide +kernel
theorem d_M_spread_13 : decode c_M_spread 13 = .ok (.iload_n 2, 1) := by decide +kernel
theorem d_M_spread_14 : decode c_M_spread 14 = .ok (.iload_n 1, 1) := by decide +kernel
theorem d_M_spread_15 : decode c_M_spread 15 = .ok (.if_icmp .ne 7, 3) := by decide +kernel
theorem d_M_spread_18 : decode c_M_spread 18 = .ok (.iconst 0, 1) := by decide +kernel
theorem d_M_spread_19 : decode c_M_spread 19 = .ok (.goto 4, 3) := by decide +kernel
theorem d_M_spread_22 : decode c_M_spread 22 = .ok (.iconst (-1), 1) := by decide +kernel
theorem d_M_spread_23 : decode c_M_spread 23 = .ok (.iastore, 1) := by decide +kernel
theorem d_M_spread_24 : decode c_M_spread 24 = .ok (.iinc 2 1, 3) := by decide +kernel
theorem d_M_spread_27 : decode c_M_spread 27 = .ok (.goto (-25), 3) := by decide +kernel
theorem d_M_spread_30 : decode c_M_spread 30 = .ok (.iconst 1, 1) := by decide +kernel
theorem d_M_spread_31 : decode c_M_spread 31 = .ok (.istore_n 2, 1) := by decide +kernel
theorem d_M_spread_32 : decode c_M_spread 32 = .ok (.iload_n 2, 1) := by decide +kernel
theorem d_M_spread_33 : decode c_M_spread 33 = .ok (.ifCond .eq 135, 3) := by decide +kernel
theorem d_M_spread_36 : decode c_M_spread 36 = .ok (.iconst 0, 1) := by decide +kernel
theorem d_M_spread_37 : decode c_M_spread 37 = .ok (.istore_n 2, 1) := by decide +kernel
theorem d_M_spread_38 : decode c_M_spread 38 = .ok (.iconst 0, 1) := by decide +kernel
theorem d_M_spread_39 : decode c_M_spread 39 = .ok (.istore_n 3, 1) := by decide +kernel
theorem d_M_spread_40 : decode c_M_spread 40 = .ok (.iload_n 3, 1) := by decide +kernel
theorem d_M_spread_41 : decode c_M_spread 41 = .ok (.bipush 64, 2) := by decide +kernel
theorem d_M_spread_43 : decode c_M_spread 43 = .ok (.if_icmp .ge 122, 3) := by decide +kernel
theorem d_M_spread_46 : decode c_M_spread 46 = .ok (.bipush 24, 2) := by decide +kernel
theorem d_M_spread_48 : decode c_M_spread 48 = .ok (.iload_n 3, 1) := by decide +kernel
theorem d_M_spread_49 : decode c_M_spread 49 = .ok (.imul, 1) := by decide +kernel
theorem d_M_spread_50 : decode c_M_spread 50 = .ok (.istore 4, 2) := by decide +kernel
theorem d_M_spread_52 : decode c_M_spread 52 = .ok (.iload 4, 2) := by decide +kernel
theorem d_M_spread_54 : decode c_M_spread 54 = .ok (.bipush 24, 2) := by decide +kernel
theorem d_M_spread_56 : decode c_M_spread 56 = .ok (.iload_n 3, 1) := by decide +kernel
theorem d_M_spread_57 : decode c_M_spread 57 = .ok (.imul, 1) := by decide +kernel
theorem d_M_spread_58 : decode c_M_spread 58 = .ok (.aload_n 0, 1) := by decide +kernel
theorem d_M_spread_59 : decode c_M_spread 59 = .ok (.getfield 27, 3) := by decide +kernel
theorem d_M_spread_62 : decode c_M_spread 62 = .ok (.iload_n 3, 1) := by decide +kernel
theorem d_M_spread_63 : decode c_M_spread 63 = .ok (.iaload, 1) := by decide +kernel
theorem d_M_spread_64 : decode c_M_spread 64 = .ok (.iadd, 1) := by decide +kernel
theorem d_M_spread_65 : decode c_M_spread 65 = .ok (.if_icmp .ge 94, 3) := by decide +kernel
theorem d_M_spread_68 : decode c_M_spread 68 = .ok (.aload_n 0, 1) := by decide +kernel
theorem d_M_spread_69 : decode c_M_spread 69 = .ok (.getfield 42, 3) := by decide +kernel
theorem d_M_spread_72 : decode c_M_spread 72 = .ok (.iload_n 3, 1) := by decide +kernel
theorem d_M_spread_73 : decode c_M_spread 73 = .ok (.iaload, 1) := by decide +kernel
theorem d_M_spread_74 : decode c_M_spread 74 = .ok (.ifCond .lt 85, 3) := by decide +kernel
theorem d_M_spread_77 : decode c_M_spread 77 = .ok (.aload_n 0, 1) := by decide +kernel
theorem d_M_spread_78 : decode c_M_spread 78 = .ok (.getfield 30, 3) := by decide +kernel
theorem d_M_spread_81 : decode c_M_spread 81 = .ok (.iload 4, 2) := by decide +kernel
theorem d_M_spread_83 : decode c_M_spread 83 = .ok (.iaload, 1) := by decide +kernel
theorem d_M_spread_84 : decode c_M_spread 84 = .ok (.istore 5, 2) := by decide +kernel
theorem d_M_spread_86 : decode c_M_spread 86 = .ok (.aload_n 0, 1) := by decide +kernel
theorem d_M_spread_87 : decode c_M_spread 87 = .ok (.getfield 39, 3) := by decide +kernel
theorem d_M_spread_90 : decode c_M_spread 90 = .ok (.iload 4, 2) := by decide +kernel
theorem d_M_spread_92 : decode c_M_spread 92 = .ok (.baload, 1) := by decide +kernel
theorem d_M_spread_93 : decode c_M_spread 93 = .ok (.ifCond .eq 60, 3) := by decide +kernel
theorem d_M_spread_96 : decode c_M_spread 96 = .ok (.aload_n 0, 1) := by decide +kernel
theorem d_M_spread_97 : decode c_M_spread 97 = .ok (.getfield 42, 3) := by decide +kernel
theorem d_M_spread_100 : decode c_M_spread 100 = .ok (.iload 5, 2) := by decide +kernel
theorem d_M_spread_102 : decode c_M_spread 102 = .ok (.iaload, 1) := by decide +kernel
theorem d_M_spread_103 : decode c_M_spread 103 = .ok (.ifCond .lt 27, 3) := by decide +kernel
theorem d_M_spread_106 : decode c_M_spread 106 = .ok (.aload_n 0, 1) := by decide +kernel
theorem d_M_spread_107 : decode c_M_spread 107 = .ok (.getfield 42, 3) := by decide +kernel
theorem d_M_spread_110 : decode c_M_spread 110 = .ok (.iload_n 3, 1) := by decide +kernel
theorem d_M_spread_111 : decode c_M_spread 111 = .ok (.iaload, 1) := by decide +kernel
theorem d_M_spread_112 : decode c_M_spread 112 = .ok (.aload_n 0, 1) := by decide +kernel
theorem d_M_spread_113 : decode c_M_spread 113 = .ok (.getfield 36, 3) := by decide +kernel
theorem d_M_spread_116 : decode c_M_spread 116 = .ok (.iload 4, 2) := by decide +kernel
theorem d_M_spread_118 : decode c_M_spread 118 = .ok (.iaload, 1) := by decide +kernel
theorem d_M_spread_119 : decode c_M_spread 119 = .ok (.iadd, 1) := by decide +kernel
theorem d_M_spread_120 : decode c_M_spread 120 = .ok (.aload_n 0, 1) := by decide +kernel
theorem d_M_spread_121 : decode c_M_spread 121 = .ok (.getfield 42, 3) := by decide +kernel
theorem d_M_spread_124 : decode c_M_spread 124 = .ok (.iload 5, 2) := by decide +kernel
theorem d_M_spread_126 : decode c_M_spread 126 = .ok (.iaload, 1) := by decide +kernel
theorem d_M_spread_127 : decode c_M_spread 127 = .ok (.if_icmp .ge 26, 3) := by decide +kernel
theorem d_M_spread_130 : decode c_M_spread 130 = .ok (.aload_n 0, 1) := by decide +kernel
theorem d_M_spread_131 : decode c_M_spread 131 = .ok (.getfield 42, 3) := by decide +kernel
theorem d_M_spread_134 : decode c_M_spread 134 = .ok (.iload 5, 2) := by decide +kernel
theorem d_M_spread_136 : decode c_M_spread 136 = .ok (.aload_n 0, 1) := by decide +kernel
theorem d_M_spread_137 : decode c_M_spread 137 = .ok (.getfield 42, 3) := by decide +kernel
theorem d_M_spread_140 : decode c_M_spread 140 = .ok (.iload_n 3, 1) := by decide +kernel
theorem d_M_spread_141 : decode c_M_spread 141 = .ok (.iaload, 1) := by decide +kernel
theorem d_M_spread_142 : decode c_M_spread 142 = .ok (.aload_n 0, 1) := by decide +kernel
theorem d_M_spread_143 : decode c_M_spread 143 = .ok (.getfield 36, 3) := by decide +kernel
theorem d_M_spread_146 : decode c_M_spread 146 = .ok (.iload 4, 2) := by decide +kernel
theorem d_M_spread_148 : decode c_M_spread 148 = .ok (.iaload, 1) := by decide +kernel
theorem d_M_spread_149 : decode c_M_spread 149 = .ok (.iadd, 1) := by decide +kernel
theorem d_M_spread_150 : decode c_M_spread 150 = .ok (.iastore, 1) := by decide +kernel
theorem d_M_spread_151 : decode c_M_spread 151 = .ok (.iconst 1, 1) := by decide +kernel
theorem d_M_spread_152 : decode c_M_spread 152 = .ok (.istore_n 2, 1) := by decide +kernel
theorem d_M_spread_153 : decode c_M_spread 153 = .ok (.iinc 4 1, 3) := by decide +kernel
theorem d_M_spread_156 : decode c_M_spread 156 = .ok (.goto (-104), 3) := by decide +kernel
theorem d_M_spread_159 : decode c_M_spread 159 = .ok (.iinc 3 1, 3) := by decide +kernel
theorem d_M_spread_162 : decode c_M_spread 162 = .ok (.goto (-122), 3) := by decide +kernel
theorem d_M_spread_165 : decode c_M_spread 165 = .ok (.goto (-133), 3) := by decide +kernel
theorem d_M_spread_168 : decode c_M_spread 168 = .ok (.return_, 1) := by decide +kernel
theorem d_M_cost_0 : decode c_M_cost 0 = .ok (.aload_n 0, 1) := by decide +kernel
theorem d_M_cost_1 : decode c_M_cost 1 = .ok (.iload_n 1, 1) := by decide +kernel
theorem d_M_cost_2 : decode c_M_cost 2 = .ok (.iconst 0, 1) := by decide +kernel
theorem d_M_cost_3 : decode c_M_cost 3 = .ok (.bipush 63, 2) := by decide +kernel
theorem d_M_cost_5 : decode c_M_cost 5 = .ok (.invokestatic 51, 3) := by decide +kernel
theorem d_M_cost_8 : decode c_M_cost 8 = .ok (.ifCond .eq 7, 3) := by decide +kernel
theorem d_M_cost_11 : decode c_M_cost 11 = .ok (.iconst 0, 1) := by decide +kernel
theorem d_M_cost_12 : decode c_M_cost 12 = .ok (.goto 4, 3) := by decide +kernel
theorem d_M_cost_15 : decode c_M_cost 15 = .ok (.iconst 1, 1) := by decide +kernel
theorem d_M_cost_16 : decode c_M_cost 16 = .ok (.putfield 48, 3) := by decide +kernel
theorem d_M_cost_19 : decode c_M_cost 19 = .ok (.aload_n 0, 1) := by decide +kernel
theorem d_M_cost_20 : decode c_M_cost 20 = .ok (.getfield 48, 3) := by decide +kernel
theorem d_M_cost_23 : decode c_M_cost 23 = .ok (.ifCond .le 5, 3) := by decide +kernel
theorem d_M_cost_26 : decode c_M_cost 26 = .ok (.iconst 0, 1) := by decide +kernel
theorem d_M_cost_27 : decode c_M_cost 27 = .ok (.ireturn, 1) := by decide +kernel
theorem d_M_cost_28 : decode c_M_cost 28 = .ok (.aload_n 0, 1) := by decide +kernel
theorem d_M_cost_29 : decode c_M_cost 29 = .ok (.invokevirtual 92, 3) := by decide +kernel
theorem d_M_cost_32 : decode c_M_cost 32 = .ok (.aload_n 0, 1) := by decide +kernel
theorem d_M_cost_33 : decode c_M_cost 33 = .ok (.aload_n 0, 1) := by decide +kernel
theorem d_M_cost_34 : decode c_M_cost 34 = .ok (.getfield 45, 3) := by decide +kernel
theorem d_M_cost_37 : decode c_M_cost 37 = .ok (.invokevirtual 95, 3) := by decide +kernel
theorem d_M_cost_40 : decode c_M_cost 40 = .ok (.aload_n 0, 1) := by decide +kernel
theorem d_M_cost_41 : decode c_M_cost 41 = .ok (.iload_n 1, 1) := by decide +kernel
theorem d_M_cost_42 : decode c_M_cost 42 = .ok (.invokevirtual 99, 3) := by decide +kernel
theorem d_M_cost_45 : decode c_M_cost 45 = .ok (.ireturn, 1) := by decide +kernel
theorem d_M_reach_0 : decode c_M_reach 0 = .ok (.iconst (-1), 1) := by decide +kernel
theorem d_M_reach_1 : decode c_M_reach 1 = .ok (.istore_n 2, 1) := by decide +kernel
theorem d_M_reach_2 : decode c_M_reach 2 = .ok (.iconst 0, 1) := by decide +kernel
theorem d_M_reach_3 : decode c_M_reach 3 = .ok (.istore_n 3, 1) := by decide +kernel
theorem d_M_reach_4 : decode c_M_reach 4 = .ok (.iload_n 3, 1) := by decide +kernel
theorem d_M_reach_5 : decode c_M_reach 5 = .ok (.bipush 64, 2) := by decide +kernel
theorem d_M_reach_7 : decode c_M_reach 7 = .ok (.if_icmp .ge 78, 3) := by decide +kernel
theorem d_M_reach_10 : decode c_M_reach 10 = .ok (.aload_n 0, 1) := by decide +kernel
theorem d_M_reach_11 : decode c_M_reach 11 = .ok (.getfield 42, 3) := by decide +kernel
theorem d_M_reach_14 : decode c_M_reach 14 = .ok (.iload_n 3, 1) := by decide +kernel
theorem d_M_reach_15 : decode c_M_reach 15 = .ok (.iaload, 1) := by decide +kernel
theorem d_M_reach_16 : decode c_M_reach 16 = .ok (.ifCond .ge 7, 3) := by decide +kernel
theorem d_M_reach_19 : decode c_M_reach 19 = .ok (.iconst (-1), 1) := by decide +kernel
theorem d_M_reach_20 : decode c_M_reach 20 = .ok (.goto 10, 3) := by decide +kernel
theorem d_M_reach_23 : decode c_M_reach 23 = .ok (.aload_n 0, 1) := by decide +kernel
theorem d_M_reach_24 : decode c_M_reach 24 = .ok (.iload_n 3, 1) := by decide +kernel
theorem d_M_reach_25 : decode c_M_reach 25 = .ok (.iconst (-1), 1) := by decide +kernel
theorem d_M_reach_26 : decode c_M_reach 26 = .ok (.iload_n 1, 1) := by decide +kernel
theorem d_M_reach_27 : decode c_M_reach 27 = .ok (.invokevirtual 70, 3) := by decide +kernel
theorem d_M_reach_30 : decode c_M_reach 30 = .ok (.istore 4, 2) := by decide +kernel
theorem d_M_reach_32 : decode c_M_reach 32 = .ok (.iload 4, 2) := by decide +kernel
theorem d_M_reach_34 : decode c_M_reach 34 = .ok (.ifCond .ge 7, 3) := by decide +kernel
theorem d_M_reach_37 : decode c_M_reach 37 = .ok (.iconst (-1), 1) := by decide +kernel
theorem d_M_reach_38 : decode c_M_reach 38 = .ok (.goto 17, 3) := by decide +kernel
theorem d_M_reach_41 : decode c_M_reach 41 = .ok (.aload_n 0, 1) := by decide +kernel
theorem d_M_reach_42 : decode c_M_reach 42 = .ok (.getfield 42, 3) := by decide +kernel
theorem d_M_reach_45 : decode c_M_reach 45 = .ok (.iload_n 3, 1) := by decide +kernel
theorem d_M_reach_46 : decode c_M_reach 46 = .ok (.iaload, 1) := by decide +kernel
theorem d_M_reach_47 : decode c_M_reach 47 = .ok (.aload_n 0, 1) := by decide +kernel
theorem d_M_reach_48 : decode c_M_reach 48 = .ok (.getfield 36, 3) := by decide +kernel
theorem d_M_reach_51 : decode c_M_reach 51 = .ok (.iload 4, 2) := by decide +kernel
theorem d_M_reach_53 : decode c_M_reach 53 = .ok (.iaload, 1) := by decide +kernel
theorem d_M_reach_54 : decode c_M_reach 54 = .ok (.iadd, 1) := by decide +kernel
theorem d_M_reach_55 : decode c_M_reach 55 = .ok (.istore 5, 2) := by decide +kernel
theorem d_M_reach_57 : decode c_M_reach 57 = .ok (.iload 5, 2) := by decide +kernel
theorem d_M_reach_59 : decode c_M_reach 59 = .ok (.ifCond .lt 18, 3) := by decide +kernel
theorem d_M_reach_62 : decode c_M_reach 62 = .ok (.iload_n 2, 1) := by decide +kernel
theorem d_M_reach_63 : decode c_M_reach 63 = .ok (.ifCond .lt 9, 3) := by decide +kernel
theorem d_M_reach_66 : decode c_M_reach 66 = .ok (.iload 5, 2) := by decide +kernel
theorem d_M_reach_68 : decode c_M_reach 68 = .ok (.iload_n 2, 1) := by decide +kernel
theorem d_M_reach_69 : decode c_M_reach 69 = .ok (.if_icmp .ge 8, 3) := by decide +kernel
theorem d_M_reach_72 : decode c_M_reach 72 = .ok (.iload 5, 2) := by decide +kernel
theorem d_M_reach_74 : decode c_M_reach 74 = .ok (.goto 4, 3) := by decide +kernel
theorem d_M_reach_77 : decode c_M_reach 77 = .ok (.iload_n 2, 1) := by decide +kernel
theorem d_M_reach_78 : decode c_M_reach 78 = .ok (.istore_n 2, 1) := by decide +kernel
theorem d_M_reach_79 : decode c_M_reach 79 = .ok (.iinc 3 1, 3) := by decide +kernel
theorem d_M_reach_82 : decode c_M_reach 82 = .ok (.goto (-78), 3) := by decide +kernel
theorem d_M_reach_85 : decode c_M_reach 85 = .ok (.iload_n 2, 1) := by decide +kernel
theorem d_M_reach_86 : decode c_M_reach 86 = .ok (.ireturn, 1) := by decide +kernel
theorem d_M_firsts_0 : decode c_M_firsts 0 = .ok (.aload_n 0, 1) := by decide +kernel
theorem d_M_firsts_1 : decode c_M_firsts 1 = .ok (.iload_n 1, 1) := by decide +kernel
theorem d_M_firsts_2 : decode c_M_firsts 2 = .ok (.iconst 0, 1) := by decide +kernel
theorem d_M_firsts_3 : decode c_M_firsts 3 = .ok (.bipush 63, 2) := by decide +kernel
theorem d_M_firsts_5 : decode c_M_firsts 5 = .ok (.invokestatic 51, 3) := by decide +kernel
theorem d_M_firsts_8 : decode c_M_firsts 8 = .ok (.ifCond .eq 7, 3) := by decide +kernel
theorem d_M_firsts_11 : decode c_M_firsts 11 = .ok (.iconst 0, 1) := by decide +kernel
theorem d_M_firsts_12 : decode c_M_firsts 12 = .ok (.goto 4, 3) := by decide +kernel
theorem d_M_firsts_15 : decode c_M_firsts 15 = .ok (.iconst 1, 1) := by decide +kernel
theorem d_M_firsts_16 : decode c_M_firsts 16 = .ok (.putfield 48, 3) := by decide +kernel
theorem d_M_firsts_19 : decode c_M_firsts 19 = .ok (.aload_n 0, 1) := by decide +kernel
theorem d_M_firsts_20 : decode c_M_firsts 20 = .ok (.getfield 48, 3) := by decide +kernel
theorem d_M_firsts_23 : decode c_M_firsts 23 = .ok (.ifCond .le 7, 3) := by decide +kernel
theorem d_M_firsts_26 : decode c_M_firsts 26 = .ok (.iconst 0, 1) := by decide +kernel
theorem d_M_firsts_27 : decode c_M_firsts 27 = .ok (.goto 9, 3) := by decide +kernel
theorem d_M_firsts_30 : decode c_M_firsts 30 = .ok (.aload_n 0, 1) := by decide +kernel
theorem d_M_firsts_31 : decode c_M_firsts 31 = .ok (.iload_n 1, 1) := by decide +kernel
theorem d_M_firsts_32 : decode c_M_firsts 32 = .ok (.iconst (-1), 1) := by decide +kernel
theorem d_M_firsts_33 : decode c_M_firsts 33 = .ok (.invokevirtual 103, 3) := by decide +kernel
theorem d_M_firsts_36 : decode c_M_firsts 36 = .ok (.ireturn, 1) := by decide +kernel
theorem d_M_step_0 : decode c_M_step 0 = .ok (.aload_n 0, 1) := by decide +kernel
theorem d_M_step_1 : decode c_M_step 1 = .ok (.invokevirtual 92, 3) := by decide +kernel
theorem d_M_step_4 : decode c_M_step 4 = .ok (.aload_n 0, 1) := by decide +kernel
theorem d_M_step_5 : decode c_M_step 5 = .ok (.aload_n 0, 1) := by decide +kernel
theorem d_M_step_6 : decode c_M_step 6 = .ok (.getfield 45, 3) := by decide +kernel
theorem d_M_step_9 : decode c_M_step 9 = .ok (.invokevirtual 95, 3) := by decide +kernel
theorem d_M_step_12 : decode c_M_step 12 = .ok (.aload_n 0, 1) := by decide +kernel
theorem d_M_step_13 : decode c_M_step 13 = .ok (.iload_n 1, 1) := by decide +kernel
theorem d_M_step_14 : decode c_M_step 14 = .ok (.invokevirtual 99, 3) := by decide +kernel
theorem d_M_step_17 : decode c_M_step 17 = .ok (.istore_n 3, 1) := by decide +kernel
theorem d_M_step_18 : decode c_M_step 18 = .ok (.aload_n 0, 1) := by decide +kernel
theorem d_M_step_19 : decode c_M_step 19 = .ok (.aload_n 0, 1) := by decide +kernel
theorem d_M_step_20 : decode c_M_step 20 = .ok (.getfield 45, 3) := by decide +kernel
theorem d_M_step_23 : decode c_M_step 23 = .ok (.iconst (-1), 1) := by decide +kernel
theorem d_M_step_24 : decode c_M_step 24 = .ok (.iload_n 1, 1) := by decide +kernel
theorem d_M_step_25 : decode c_M_step 25 = .ok (.invokevirtual 70, 3) := by decide +kernel
theorem d_M_step_28 : decode c_M_step 28 = .ok (.istore 4, 2) := by decide +kernel
theorem d_M_step_30 : decode c_M_step 30 = .ok (.iconst 0, 1) := by decide +kernel
theorem d_M_step_31 : decode c_M_step 31 = .ok (.istore 5, 2) := by decide +kernel
theorem d_M_step_33 : decode c_M_step 33 = .ok (.iconst (-1), 1) := by decide +kernel
theorem d_M_step_34 : decode c_M_step 34 = .ok (.istore 6, 2) := by decide +kernel
theorem d_M_step_36 : decode c_M_step 36 = .ok (.iload_n 3, 1) := by decide +kernel
theorem d_M_step_37 : decode c_M_step 37 = .ok (.ifCond .lt 19, 3) := by decide +kernel
theorem d_M_step_40 : decode c_M_step 40 = .ok (.iload 4, 2) := by decide +kernel
theorem d_M_step_42 : decode c_M_step 42 = .ok (.ifCond .lt 18, 3) := by decide +kernel
theorem d_M_step_45 : decode c_M_step 45 = .ok (.aload_n 0, 1) := by decide +kernel
theorem d_M_step_46 : decode c_M_step 46 = .ok (.getfield 36, 3) := by decide +kernel
theorem d_M_step_49 : decode c_M_step 49 = .ok (.iload 4, 2) := by decide +kernel
theorem d_M_step_51 : decode c_M_step 51 = .ok (.iaload, 1) := by decide +kernel
theorem d_M_step_52 : decode c_M_step 52 = .ok (.iload_n 3, 1) := by decide +kernel
theorem d_M_step_53 : decode c_M_step 53 = .ok (.if_icmp .ne 7, 3) := by decide +kernel
theorem d_M_step_56 : decode c_M_step 56 = .ok (.iconst 1, 1) := by decide +kernel
theorem d_M_step_57 : decode c_M_step 57 = .ok (.goto 4, 3) := by decide +kernel
theorem d_M_step_60 : decode c_M_step 60 = .ok (.iconst 0, 1) := by decide +kernel
theorem d_M_step_61 : decode c_M_step 61 = .ok (.istore 7, 2) := by decide +kernel
theorem d_M_step_63 : decode c_M_step 63 = .ok (.bipush 24, 2) := by decide +kernel
theorem d_M_step_65 : decode c_M_step 65 = .ok (.aload_n 0, 1) := by decide +kernel
theorem d_M_step_66 : decode c_M_step 66 = .ok (.getfield 45, 3) := by decide +kernel
theorem d_M_step_69 : decode c_M_step 69 = .ok (.imul, 1) := by decide +kernel
theorem d_M_step_70 : decode c_M_step 70 = .ok (.istore 8, 2) := by decide +kernel
theorem d_M_step_72 : decode c_M_step 72 = .ok (.iload 8, 2) := by decide +kernel
theorem d_M_step_74 : decode c_M_step 74 = .ok (.bipush 24, 2) := by decide +kernel
theorem d_M_step_76 : decode c_M_step 76 = .ok (.aload_n 0, 1) := by decide +kernel
theorem d_M_step_77 : decode c_M_step 77 = .ok (.getfield 45, 3) := by decide +kernel
theorem d_M_step_80 : decode c_M_step 80 = .ok (.imul, 1) := by decide +kernel
theorem d_M_step_81 : decode c_M_step 81 = .ok (.aload_n 0, 1) := by decide +kernel
theorem d_M_step_82 : decode c_M_step 82 = .ok (.getfield 27, 3) := by decide +kernel
theorem d_M_step_85 : decode c_M_step 85 = .ok (.aload_n 0, 1) := by decide +kernel
theorem d_M_step_86 : decode c_M_step 86 = .ok (.getfield 45, 3) := by decide +kernel
theorem d_M_step_89 : decode c_M_step 89 = .ok (.iaload, 1) := by decide +kernel
theorem d_M_step_90 : decode c_M_step 90 = .ok (.iadd, 1) := by decide +kernel
theorem d_M_step_91 : decode c_M_step 91 = .ok (.if_icmp .ge 119, 3) := by decide +kernel
theorem d_M_step_94 : decode c_M_step 94 = .ok (.iload 7, 2) := by decide +kernel
theorem d_M_step_96 : decode c_M_step 96 = .ok (.ifCond .ne 114, 3) := by decide +kernel
theorem d_M_step_99 : decode c_M_step 99 = .ok (.aload_n 0, 1) := by decide +kernel
theorem d_M_step_100 : decode c_M_step 100 = .ok (.getfield 39, 3) := by decide +kernel
theorem d_M_step_103 : decode c_M_step 103 = .ok (.iload 8, 2) := by decide +kernel
theorem d_M_step_105 : decode c_M_step 105 = .ok (.baload, 1) := by decide +kernel
theorem d_M_step_106 : decode c_M_step 106 = .ok (.ifCond .eq 98, 3) := by decide +kernel
theorem d_M_step_109 : decode c_M_step 109 = .ok (.aload_n 0, 1) := by decide +kernel
theorem d_M_step_110 : decode c_M_step 110 = .ok (.aload_n 0, 1) := by decide +kernel
theorem d_M_step_111 : decode c_M_step 111 = .ok (.getfield 30, 3) := by decide +kernel
theorem d_M_step_114 : decode c_M_step 114 = .ok (.iload 8, 2) := by decide +kernel
theorem d_M_step_116 : decode c_M_step 116 = .ok (.iaload, 1) := by decide +kernel
theorem d_M_step_117 : decode c_M_step 117 = .ok (.invokevirtual 95, 3) := by decide +kernel
theorem d_M_step_120 : decode c_M_step 120 = .ok (.aload_n 0, 1) := by decide +kernel
theorem d_M_step_121 : decode c_M_step 121 = .ok (.iload_n 1, 1) := by decide +kernel
theorem d_M_step_122 : decode c_M_step 122 = .ok (.invokevirtual 99, 3) := by decide +kernel
theorem d_M_step_125 : decode c_M_step 125 = .ok (.istore 9, 2) := by decide +kernel
theorem d_M_step_127 : decode c_M_step 127 = .ok (.iload 9, 2) := by decide +kernel
theorem d_M_step_129 : decode c_M_step 129 = .ok (.ifCond .lt 21, 3) := by decide +kernel
theorem d_M_step_132 : decode c_M_step 132 = .ok (.aload_n 0, 1) := by decide +kernel
theorem d_M_step_133 : decode c_M_step 133 = .ok (.getfield 36, 3) := by decide +kernel
theorem d_M_step_136 : decode c_M_step 136 = .ok (.iload 8, 2) := by decide +kernel
theorem d_M_step_138 : decode c_M_step 138 = .ok (.iaload, 1) := by decide +kernel
theorem d_M_step_139 : decode c_M_step 139 = .ok (.iload 9, 2) := by decide +kernel
theorem d_M_step_141 : decode c_M_step 141 = .ok (.iadd, 1) := by decide +kernel
theorem d_M_step_142 : decode c_M_step 142 = .ok (.iload_n 3, 1) := by decide +kernel
theorem d_M_step_143 : decode c_M_step 143 = .ok (.if_icmp .ne 7, 3) := by decide +kernel
theorem d_M_step_146 : decode c_M_step 146 = .ok (.iconst 1, 1) := by decide +kernel
theorem d_M_step_147 : decode c_M_step 147 = .ok (.goto 4, 3) := by decide +kernel
theorem d_M_step_150 : decode c_M_step 150 = .ok (.iconst 0, 1) := by decide +kernel
theorem d_M_step_151 : decode c_M_step 151 = .ok (.istore 10, 2) := by decide +kernel
theorem d_M_step_153 : decode c_M_step 153 = .ok (.iload 10, 2) := by decide +kernel
theorem d_M_step_155 : decode c_M_step 155 = .ok (.ifCond .eq 30, 3) := by decide +kernel
theorem d_M_step_158 : decode c_M_step 158 = .ok (.iload 5, 2) := by decide +kernel
theorem d_M_step_160 : decode c_M_step 160 = .ok (.iload_n 2, 1) := by decide +kernel
theorem d_M_step_161 : decode c_M_step 161 = .ok (.if_icmp .ne 24, 3) := by decide +kernel
theorem d_M_step_164 : decode c_M_step 164 = .ok (.bipush 64, 2) := by decide +kernel
theorem d_M_step_166 : decode c_M_step 166 = .ok (.aload_n 0, 1) := by decide +kernel
theorem d_M_step_167 : decode c_M_step 167 = .ok (.getfield 33, 3) := by decide +kernel
theorem d_M_step_170 : decode c_M_step 170 = .ok (.iload 8, 2) := by decide +kernel
theorem d_M_step_172 : decode c_M_step 172 = .ok (.iaload, 1) := by decide +kernel
theorem d_M_step_173 : decode c_M_step 173 = .ok (.imul, 1) := by decide +kernel
theorem d_M_step_174 : decode c_M_step 174 = .ok (.aload_n 0, 1) := by decide +kernel
theorem d_M_step_175 : decode c_M_step 175 = .ok (.getfield 30, 3) := by decide +kernel
theorem d_M_step_178 : decode c_M_step 178 = .ok (.iload 8, 2) := by decide +kernel
theorem d_M_step_180 : decode c_M_step 180 = .ok (.iaload, 1) := by decide +kernel
theorem d_M_step_181 : decode c_M_step 181 = .ok (.iadd, 1) := by decide +kernel
theorem d_M_step_182 : decode c_M_step 182 = .ok (.goto 5, 3) := by decide +kernel
theorem d_M_step_185 : decode c_M_step 185 = .ok (.iload 6, 2) := by decide +kernel
theorem d_M_step_187 : decode c_M_step 187 = .ok (.istore 6, 2) := by decide +kernel
theorem d_M_step_189 : decode c_M_step 189 = .ok (.iload 5, 2) := by decide +kernel
theorem d_M_step_191 : decode c_M_step 191 = .ok (.iload 10, 2) := by decide +kernel
theorem d_M_step_193 : decode c_M_step 193 = .ok (.ifCond .eq 7, 3) := by decide +kernel
theorem d_M_step_196 : decode c_M_step 196 = .ok (.iconst 1, 1) := by decide +kernel
theorem d_M_step_197 : decode c_M_step 197 = .ok (.goto 4, 3) := by decide +kernel
theorem d_M_step_200 : decode c_M_step 200 = .ok (.iconst 0, 1) := by decide +kernel
theorem d_M_step_201 : decode c_M_step 201 = .ok (.iadd, 1) := by decide +kernel
theorem d_M_step_202 : decode c_M_step 202 = .ok (.istore 5, 2) := by decide +kernel
theorem d_M_step_204 : decode c_M_step 204 = .ok (.iinc 8 1, 3) := by decide +kernel
theorem d_M_step_207 : decode c_M_step 207 = .ok (.goto (-135), 3) := by decide +kernel
theorem d_M_step_210 : decode c_M_step 210 = .ok (.iload_n 2, 1) := by decide +kernel
theorem d_M_step_211 : decode c_M_step 211 = .ok (.ifCond .ge 8, 3) := by decide +kernel
theorem d_M_step_214 : decode c_M_step 214 = .ok (.iload 5, 2) := by decide +kernel
theorem d_M_step_216 : decode c_M_step 216 = .ok (.goto 5, 3) := by decide +kernel
theorem d_M_step_219 : decode c_M_step 219 = .ok (.iload 6, 2) := by decide +kernel
theorem d_M_step_221 : decode c_M_step 221 = .ok (.ireturn, 1) := by decide +kernel
theorem d_M_first_0 : decode c_M_first 0 = .ok (.aload_n 0, 1) := by decide +kernel
theorem d_M_first_1 : decode c_M_first 1 = .ok (.iload_n 1, 1) := by decide +kernel
theorem d_M_first_2 : decode c_M_first 2 = .ok (.iconst 0, 1) := by decide +kernel
theorem d_M_first_3 : decode c_M_first 3 = .ok (.bipush 63, 2) := by decide +kernel
theorem d_M_first_5 : decode c_M_first 5 = .ok (.invokestatic 51, 3) := by decide +kernel
theorem d_M_first_8 : decode c_M_first 8 = .ok (.ifCond .eq 7, 3) := by decide +kernel
theorem d_M_first_11 : decode c_M_first 11 = .ok (.iconst 0, 1) := by decide +kernel
theorem d_M_first_12 : decode c_M_first 12 = .ok (.goto 4, 3) := by decide +kernel
theorem d_M_first_15 : decode c_M_first 15 = .ok (.iconst 1, 1) := by decide +kernel
theorem d_M_first_16 : decode c_M_first 16 = .ok (.putfield 48, 3) := by decide +kernel
theorem d_M_first_19 : decode c_M_first 19 = .ok (.aload_n 0, 1) := by decide +kernel
theorem d_M_first_20 : decode c_M_first 20 = .ok (.getfield 48, 3) := by decide +kernel
theorem d_M_first_23 : decode c_M_first 23 = .ok (.ifCond .le 5, 3) := by decide +kernel
theorem d_M_first_26 : decode c_M_first 26 = .ok (.iconst 0, 1) := by decide +kernel
theorem d_M_first_27 : decode c_M_first 27 = .ok (.ireturn, 1) := by decide +kernel
theorem d_M_first_28 : decode c_M_first 28 = .ok (.iload_n 2, 1) := by decide +kernel
theorem d_M_first_29 : decode c_M_first 29 = .ok (.ifCond .ge 7, 3) := by decide +kernel
theorem d_M_first_32 : decode c_M_first 32 = .ok (.iconst (-1), 1) := by decide +kernel
theorem d_M_first_33 : decode c_M_first 33 = .ok (.goto 9, 3) := by decide +kernel
theorem d_M_first_36 : decode c_M_first 36 = .ok (.aload_n 0, 1) := by decide +kernel
theorem d_M_first_37 : decode c_M_first 37 = .ok (.iload_n 1, 1) := by decide +kernel
theorem d_M_first_38 : decode c_M_first 38 = .ok (.iload_n 2, 1) := by decide +kernel
theorem d_M_first_39 : decode c_M_first 39 = .ok (.invokevirtual 103, 3) := by decide +kernel
theorem d_M_first_42 : decode c_M_first 42 = .ok (.istore_n 3, 1) := by decide +kernel
theorem d_M_first_43 : decode c_M_first 43 = .ok (.aload_n 0, 1) := by decide +kernel
theorem d_M_first_44 : decode c_M_first 44 = .ok (.iload_n 3, 1) := by decide +kernel
theorem d_M_first_45 : decode c_M_first 45 = .ok (.ifCond .ge 7, 3) := by decide +kernel
theorem d_M_first_48 : decode c_M_first 48 = .ok (.iconst 2, 1) := by decide +kernel
theorem d_M_first_49 : decode c_M_first 49 = .ok (.goto 4, 3) := by decide +kernel
theorem d_M_first_52 : decode c_M_first 52 = .ok (.iconst 0, 1) := by decide +kernel
theorem d_M_first_53 : decode c_M_first 53 = .ok (.putfield 48, 3) := by decide +kernel
theorem d_M_first_56 : decode c_M_first 56 = .ok (.aload_n 0, 1) := by decide +kernel
theorem d_M_first_57 : decode c_M_first 57 = .ok (.getfield 48, 3) := by decide +kernel
theorem d_M_first_60 : decode c_M_first 60 = .ok (.ifCond .le 7, 3) := by decide +kernel
theorem d_M_first_63 : decode c_M_first 63 = .ok (.iconst 0, 1) := by decide +kernel
theorem d_M_first_64 : decode c_M_first 64 = .ok (.goto 4, 3) := by decide +kernel
theorem d_M_first_67 : decode c_M_first 67 = .ok (.iload_n 3, 1) := by decide +kernel
theorem d_M_first_68 : decode c_M_first 68 = .ok (.ireturn, 1) := by decide +kernel
theorem d_M_known_0 : decode c_M_known 0 = .ok (.aload_n 0, 1) := by decide +kernel
theorem d_M_known_1 : decode c_M_known 1 = .ok (.iconst 0, 1) := by decide +kernel
theorem d_M_known_2 : decode c_M_known 2 = .ok (.putfield 48, 3) := by decide +kernel
theorem d_M_known_5 : decode c_M_known 5 = .ok (.iconst 0, 1) := by decide +kernel
theorem d_M_known_6 : decode c_M_known 6 = .ok (.istore_n 1, 1) := by decide +kernel
theorem d_M_known_7 : decode c_M_known 7 = .ok (.iconst 0, 1) := by decide +kernel
theorem d_M_known_8 : decode c_M_known 8 = .ok (.istore_n 2, 1) := by decide +kernel
theorem d_M_known_9 : decode c_M_known 9 = .ok (.iload_n 2, 1) := by decide +kernel
theorem d_M_known_10 : decode c_M_known 10 = .ok (.bipush 64, 2) := by decide +kernel
theorem d_M_known_12 : decode c_M_known 12 = .ok (.if_icmp .ge 26, 3) := by decide +kernel
theorem d_M_known_15 : decode c_M_known 15 = .ok (.iload_n 1, 1) := by decide +kernel
theorem d_M_known_16 : decode c_M_known 16 = .ok (.aload_n 0, 1) := by decide +kernel
theorem d_M_known_17 : decode c_M_known 17 = .ok (.getfield 21, 3) := by decide +kernel
theorem d_M_known_20 : decode c_M_known 20 = .ok (.iload_n 2, 1) := by decide +kernel
theorem d_M_known_21 : decode c_M_known 21 = .ok (.iaload, 1) := by decide +kernel
theorem d_M_known_22 : decode c_M_known 22 = .ok (.ifCond .le 7, 3) := by decide +kernel
theorem d_M_known_25 : decode c_M_known 25 = .ok (.iconst 1, 1) := by decide +kernel
theorem d_M_known_26 : decode c_M_known 26 = .ok (.goto 4, 3) := by decide +kernel
theorem d_M_known_29 : decode c_M_known 29 = .ok (.iconst 0, 1) := by decide +kernel
theorem d_M_known_30 : decode c_M_known 30 = .ok (.iadd, 1) := by decide +kernel
theorem d_M_known_31 : decode c_M_known 31 = .ok (.istore_n 1, 1) := by decide +kernel
theorem d_M_known_32 : decode c_M_known 32 = .ok (.iinc 2 1, 3) := by decide +kernel
theorem d_M_known_35 : decode c_M_known 35 = .ok (.goto (-26), 3) := by decide +kernel
theorem d_M_known_38 : decode c_M_known 38 = .ok (.iload_n 1, 1) := by decide +kernel
theorem d_M_known_39 : decode c_M_known 39 = .ok (.ireturn, 1) := by decide +kernel
theorem d_M_time_0 : decode c_M_time 0 = .ok (.aload_n 0, 1) := by decide +kernel
theorem d_M_time_1 : decode c_M_time 1 = .ok (.iconst 0, 1) := by decide +kernel
theorem d_M_time_2 : decode c_M_time 2 = .ok (.putfield 48, 3) := by decide +kernel
theorem d_M_time_5 : decode c_M_time 5 = .ok (.aload_n 0, 1) := by decide +kernel
theorem d_M_time_6 : decode c_M_time 6 = .ok (.getfield 81, 3) := by decide +kernel
theorem d_M_time_9 : decode c_M_time 9 = .ok (.ireturn, 1) := by decide +kernel
theorem d_L_cell_0 : decode c_L_cell 0 = .ok (.iload_n 1, 1) := by decide +kernel
theorem d_L_cell_1 : decode c_L_cell 1 = .ok (.aload_n 0, 1) := by decide +kernel
theorem d_L_cell_2 : decode c_L_cell 2 = .ok (.arraylength, 1) := by decide +kernel
theorem d_L_cell_3 : decode c_L_cell 3 = .ok (.if_icmp .ge 9, 3) := by decide +kernel
theorem d_L_cell_6 : decode c_L_cell 6 = .ok (.aload_n 0, 1) := by decide +kernel
theorem d_L_cell_7 : decode c_L_cell 7 = .ok (.iload_n 1, 1) := by decide +kernel
theorem d_L_cell_8 : decode c_L_cell 8 = .ok (.iaload, 1) := by decide +kernel
theorem d_L_cell_9 : decode c_L_cell 9 = .ok (.goto 4, 3) := by decide +kernel
theorem d_L_cell_12 : decode c_L_cell 12 = .ok (.iconst 0, 1) := by decide +kernel
theorem d_L_cell_13 : decode c_L_cell 13 = .ok (.ireturn, 1) := by decide +kernel
theorem d_L_port_0 : decode c_L_port 0 = .ok (.aload_n 3, 1) := by decide +kernel
theorem d_L_port_1 : decode c_L_port 1 = .ok (.iconst 0, 1) := by decide +kernel
theorem d_L_port_2 : decode c_L_port 2 = .ok (.aload_n 0, 1) := by decide +kernel
theorem d_L_port_3 : decode c_L_port 3 = .ok (.iload_n 1, 1) := by decide +kernel
theorem d_L_port_4 : decode c_L_port 4 = .ok (.iload_n 2, 1) := by decide +kernel
theorem d_L_port_5 : decode c_L_port 5 = .ok (.invokevirtual 7, 3) := by decide +kernel
theorem d_L_port_8 : decode c_L_port 8 = .ok (.i2l, 1) := by decide +kernel
theorem d_L_port_9 : decode c_L_port 9 = .ok (.lastore, 1) := by decide +kernel
theorem d_L_port_10 : decode c_L_port 10 = .ok (.goto 11, 3) := by decide +kernel
theorem d_L_port_13 : decode c_L_port 13 = .ok (.astore 4, 2) := by decide +kernel
theorem d_L_port_15 : decode c_L_port 15 = .ok (.iconst 1, 1) := by decide +kernel
theorem d_L_port_16 : decode c_L_port 16 = .ok (.ireturn, 1) := by decide +kernel
theorem d_L_port_17 : decode c_L_port 17 = .ok (.astore 4, 2) := by decide +kernel
theorem d_L_port_19 : decode c_L_port 19 = .ok (.iconst 2, 1) := by decide +kernel
theorem d_L_port_20 : decode c_L_port 20 = .ok (.ireturn, 1) := by decide +kernel
theorem d_L_port_21 : decode c_L_port 21 = .ok (.iconst 0, 1) := by decide +kernel
theorem d_L_port_22 : decode c_L_port 22 = .ok (.ireturn, 1) := by decide +kernel
theorem d_L_friend_0 : decode c_L_friend 0 = .ok (.aload 4, 2) := by decide +kernel
theorem d_L_friend_2 : decode c_L_friend 2 = .ok (.iconst 0, 1) := by decide +kernel
theorem d_L_friend_3 : decode c_L_friend 3 = .ok (.aload_n 0, 1) := by decide +kernel
theorem d_L_friend_4 : decode c_L_friend 4 = .ok (.iload_n 1, 1) := by decide +kernel
theorem d_L_friend_5 : decode c_L_friend 5 = .ok (.iload_n 2, 1) := by decide +kernel
theorem d_L_friend_6 : decode c_L_friend 6 = .ok (.iload_n 3, 1) := by decide +kernel
theorem d_L_friend_7 : decode c_L_friend 7 = .ok (.invokevirtual 17, 3) := by decide +kernel
theorem d_L_friend_10 : decode c_L_friend 10 = .ok (.ifCond .eq 7, 3) := by decide +kernel
theorem d_L_friend_13 : decode c_L_friend 13 = .ok (.lconst 1, 1) := by decide +kernel
theorem d_L_friend_14 : decode c_L_friend 14 = .ok (.goto 4, 3) := by decide +kernel
theorem d_L_friend_17 : decode c_L_friend 17 = .ok (.lconst 0, 1) := by decide +kernel
theorem d_L_friend_18 : decode c_L_friend 18 = .ok (.lastore, 1) := by decide +kernel
theorem d_L_friend_19 : decode c_L_friend 19 = .ok (.goto 11, 3) := by decide +kernel
theorem d_L_friend_22 : decode c_L_friend 22 = .ok (.astore 5, 2) := by decide +kernel
theorem d_L_friend_24 : decode c_L_friend 24 = .ok (.iconst 1, 1) := by decide +kernel
theorem d_L_friend_25 : decode c_L_friend 25 = .ok (.ireturn, 1) := by decide +kernel
theorem d_L_friend_26 : decode c_L_friend 26 = .ok (.astore 5, 2) := by decide +kernel
theorem d_L_friend_28 : decode c_L_friend 28 = .ok (.iconst 2, 1) := by decide +kernel
theorem d_L_friend_29 : decode c_L_friend 29 = .ok (.ireturn, 1) := by decide +kernel
theorem d_L_friend_30 : decode c_L_friend 30 = .ok (.iconst 0, 1) := by decide +kernel
theorem d_L_friend_31 : decode c_L_friend 31 = .ok (.ireturn, 1) := by decide +kernel
theorem d_L_begin_0 : decode c_L_begin 0 = .ok (.aload_n 0, 1) := by decide +kernel
theorem d_L_begin_1 : decode c_L_begin 1 = .ok (.iload_n 1, 1) := by decide +kernel
theorem d_L_begin_2 : decode c_L_begin 2 = .ok (.iload_n 2, 1) := by decide +kernel
theorem d_L_begin_3 : decode c_L_begin 3 = .ok (.invokevirtual 21, 3) := by decide +kernel
theorem d_L_begin_6 : decode c_L_begin 6 = .ok (.goto 6, 3) := by decide +kernel
theorem d_L_begin_9 : decode c_L_begin 9 = .ok (.astore_n 3, 1) := by decide +kernel
theorem d_L_begin_10 : decode c_L_begin 10 = .ok (.iconst 1, 1) := by decide +kernel
theorem d_L_begin_11 : decode c_L_begin 11 = .ok (.ireturn, 1) := by decide +kernel
theorem d_L_begin_12 : decode c_L_begin 12 = .ok (.iconst 0, 1) := by decide +kernel
theorem d_L_begin_13 : decode c_L_begin 13 = .ok (.ireturn, 1) := by decide +kernel
theorem d_L_entry_0 : decode c_L_entry 0 = .ok (.aload 4, 2) := by decide +kernel
theorem d_L_entry_2 : decode c_L_entry 2 = .ok (.iconst 0, 1) := by decide +kernel
theorem d_L_entry_3 : decode c_L_entry 3 = .ok (.aload_n 0, 1) := by decide +kernel
theorem d_L_entry_4 : decode c_L_entry 4 = .ok (.iload_n 1, 1) := by decide +kernel
theorem d_L_entry_5 : decode c_L_entry 5 = .ok (.iload_n 2, 1) := by decide +kernel
theorem d_L_entry_6 : decode c_L_entry 6 = .ok (.iload_n 3, 1) := by decide +kernel
theorem d_L_entry_7 : decode c_L_entry 7 = .ok (.invokevirtual 25, 3) := by decide +kernel
theorem d_L_entry_10 : decode c_L_entry 10 = .ok (.i2l, 1) := by decide +kernel
theorem d_L_entry_11 : decode c_L_entry 11 = .ok (.lastore, 1) := by decide +kernel
theorem d_L_entry_12 : decode c_L_entry 12 = .ok (.goto 11, 3) := by decide +kernel
theorem d_L_entry_15 : decode c_L_entry 15 = .ok (.astore 5, 2) := by decide +kernel
theorem d_L_entry_17 : decode c_L_entry 17 = .ok (.iconst 1, 1) := by decide +kernel
theorem d_L_entry_18 : decode c_L_entry 18 = .ok (.ireturn, 1) := by decide +kernel
theorem d_L_entry_19 : decode c_L_entry 19 = .ok (.astore 5, 2) := by decide +kernel
theorem d_L_entry_21 : decode c_L_entry 21 = .ok (.iconst 2, 1) := by decide +kernel
theorem d_L_entry_22 : decode c_L_entry 22 = .ok (.ireturn, 1) := by decide +kernel
theorem d_L_entry_23 : decode c_L_entry 23 = .ok (.iconst 0, 1) := by decide +kernel
theorem d_L_entry_24 : decode c_L_entry 24 = .ok (.ireturn, 1) := by decide +kernel
theorem d_L_come_0 : decode c_L_come 0 = .ok (.aload_n 1, 1) := by decide +kernel
theorem d_L_come_1 : decode c_L_come 1 = .ok (.iconst 0, 1) := by decide +kernel
theorem d_L_come_2 : decode c_L_come 2 = .ok (.aload_n 0, 1) := by decide +kernel
theorem d_L_come_3 : decode c_L_come 3 = .ok (.invokevirtual 29, 3) := by decide +kernel
theorem d_L_come_6 : decode c_L_come 6 = .ok (.i2l, 1) := by decide +kernel
theorem d_L_come_7 : decode c_L_come 7 = .ok (.lastore, 1) := by decide +kernel
theorem d_L_come_8 : decode c_L_come 8 = .ok (.goto 6, 3) := by decide +kernel
theorem d_L_come_11 : decode c_L_come 11 = .ok (.astore_n 2, 1) := by decide +kernel
theorem d_L_come_12 : decode c_L_come 12 = .ok (.iconst 1, 1) := by decide +kernel
theorem d_L_come_13 : decode c_L_come 13 = .ok (.ireturn, 1) := by decide +kernel
theorem d_L_come_14 : decode c_L_come 14 = .ok (.iconst 0, 1) := by decide +kernel
theorem d_L_come_15 : decode c_L_come 15 = .ok (.ireturn, 1) := by decide +kernel
theorem d_L_pass_0 : decode c_L_pass 0 = .ok (.aload_n 2, 1) := by decide +kernel
theorem d_L_pass_1 : decode c_L_pass 1 = .ok (.iconst 0, 1) := by decide +kernel
theorem d_L_pass_2 : decode c_L_pass 2 = .ok (.aload_n 0, 1) := by decide +kernel
theorem d_L_pass_3 : decode c_L_pass 3 = .ok (.iload_n 1, 1) := by decide +kernel
theorem d_L_pass_4 : decode c_L_pass 4 = .ok (.invokevirtual 33, 3) := by decide +kernel
theorem d_L_pass_7 : decode c_L_pass 7 = .ok (.i2l, 1) := by decide +kernel
theorem d_L_pass_8 : decode c_L_pass 8 = .ok (.lastore, 1) := by decide +kernel
theorem d_L_pass_9 : decode c_L_pass 9 = .ok (.goto 9, 3) := by decide +kernel
theorem d_L_pass_12 : decode c_L_pass 12 = .ok (.astore_n 3, 1) := by decide +kernel
theorem d_L_pass_13 : decode c_L_pass 13 = .ok (.iconst 1, 1) := by decide +kernel
theorem d_L_pass_14 : decode c_L_pass 14 = .ok (.ireturn, 1) := by decide +kernel
theorem d_L_pass_15 : decode c_L_pass 15 = .ok (.astore_n 3, 1) := by decide +kernel
theorem d_L_pass_16 : decode c_L_pass 16 = .ok (.iconst 2, 1) := by decide +kernel
theorem d_L_pass_17 : decode c_L_pass 17 = .ok (.ireturn, 1) := by decide +kernel
theorem d_L_pass_18 : decode c_L_pass 18 = .ok (.iconst 0, 1) := by decide +kernel
theorem d_L_pass_19 : decode c_L_pass 19 = .ok (.ireturn, 1) := by decide +kernel
theorem d_L_number_0 : decode c_L_number 0 = .ok (.aload_n 2, 1) := by decide +kernel
theorem d_L_number_1 : decode c_L_number 1 = .ok (.iconst 0, 1) := by decide +kernel
theorem d_L_number_2 : decode c_L_number 2 = .ok (.aload_n 0, 1) := by decide +kernel
theorem d_L_number_3 : decode c_L_number 3 = .ok (.iload_n 1, 1) := by decide +kernel
theorem d_L_number_4 : decode c_L_number 4 = .ok (.invokevirtual 37, 3) := by decide +kernel
theorem d_L_number_7 : decode c_L_number 7 = .ok (.i2l, 1) := by decide +kernel
theorem d_L_number_8 : decode c_L_number 8 = .ok (.lastore, 1) := by decide +kernel
theorem d_L_number_9 : decode c_L_number 9 = .ok (.goto 6, 3) := by decide +kernel
theorem d_L_number_12 : decode c_L_number 12 = .ok (.astore_n 3, 1) := by decide +kernel
theorem d_L_number_13 : decode c_L_number 13 = .ok (.iconst 1, 1) := by decide +kernel
theorem d_L_number_14 : decode c_L_number 14 = .ok (.ireturn, 1) := by decide +kernel
theorem d_L_number_15 : decode c_L_number 15 = .ok (.iconst 0, 1) := by decide +kernel
theorem d_L_number_16 : decode c_L_number 16 = .ok (.ireturn, 1) := by decide +kernel
theorem d_L_told_0 : decode c_L_told 0 = .ok (.aload 4, 2) := by decide +kernel
theorem d_L_told_2 : decode c_L_told 2 = .ok (.iconst 0, 1) := by decide +kernel
theorem d_L_told_3 : decode c_L_told 3 = .ok (.aload_n 0, 1) := by decide +kernel
theorem d_L_told_4 : decode c_L_told 4 = .ok (.iload_n 1, 1) := by decide +kernel
theorem d_L_told_5 : decode c_L_told 5 = .ok (.iload_n 2, 1) := by decide +kernel
theorem d_L_told_6 : decode c_L_told 6 = .ok (.iload_n 3, 1) := by decide +kernel
theorem d_L_told_7 : decode c_L_told 7 = .ok (.invokevirtual 40, 3) := by decide +kernel
theorem d_L_told_10 : decode c_L_told 10 = .ok (.i2l, 1) := by decide +kernel
theorem d_L_told_11 : decode c_L_told 11 = .ok (.lastore, 1) := by decide +kernel
theorem d_L_told_12 : decode c_L_told 12 = .ok (.goto 11, 3) := by decide +kernel
theorem d_L_told_15 : decode c_L_told 15 = .ok (.astore 5, 2) := by decide +kernel
theorem d_L_told_17 : decode c_L_told 17 = .ok (.iconst 1, 1) := by decide +kernel
theorem d_L_told_18 : decode c_L_told 18 = .ok (.ireturn, 1) := by decide +kernel
theorem d_L_told_19 : decode c_L_told 19 = .ok (.astore 5, 2) := by decide +kernel
theorem d_L_told_21 : decode c_L_told 21 = .ok (.iconst 2, 1) := by decide +kernel
theorem d_L_told_22 : decode c_L_told 22 = .ok (.ireturn, 1) := by decide +kernel
theorem d_L_told_23 : decode c_L_told 23 = .ok (.iconst 0, 1) := by decide +kernel
theorem d_L_told_24 : decode c_L_told 24 = .ok (.ireturn, 1) := by decide +kernel
theorem d_L_entries_0 : decode c_L_entries 0 = .ok (.aload_n 2, 1) := by decide +kernel
theorem d_L_entries_1 : decode c_L_entries 1 = .ok (.iconst 0, 1) := by decide +kernel
theorem d_L_entries_2 : decode c_L_entries 2 = .ok (.aload_n 0, 1) := by decide +kernel
theorem d_L_entries_3 : decode c_L_entries 3 = .ok (.iload_n 1, 1) := by decide +kernel
theorem d_L_entries_4 : decode c_L_entries 4 = .ok (.invokevirtual 45, 3) := by decide +kernel
theorem d_L_entries_7 : decode c_L_entries 7 = .ok (.i2l, 1) := by decide +kernel
theorem d_L_entries_8 : decode c_L_entries 8 = .ok (.lastore, 1) := by decide +kernel
theorem d_L_entries_9 : decode c_L_entries 9 = .ok (.goto 6, 3) := by decide +kernel
theorem d_L_entries_12 : decode c_L_entries 12 = .ok (.astore_n 3, 1) := by decide +kernel
theorem d_L_entries_13 : decode c_L_entries 13 = .ok (.iconst 1, 1) := by decide +kernel
theorem d_L_entries_14 : decode c_L_entries 14 = .ok (.ireturn, 1) := by decide +kernel
theorem d_L_entries_15 : decode c_L_entries 15 = .ok (.iconst 0, 1) := by decide +kernel
theorem d_L_entries_16 : decode c_L_entries 16 = .ok (.ireturn, 1) := by decide +kernel
theorem d_L_age_0 : decode c_L_age 0 = .ok (.aload_n 2, 1) := by decide +kernel
theorem d_L_age_1 : decode c_L_age 1 = .ok (.iconst 0, 1) := by decide +kernel
theorem d_L_age_2 : decode c_L_age 2 = .ok (.aload_n 0, 1) := by decide +kernel
theorem d_L_age_3 : decode c_L_age 3 = .ok (.iload_n 1, 1) := by decide +kernel
theorem d_L_age_4 : decode c_L_age 4 = .ok (.invokevirtual 48, 3) := by decide +kernel
theorem d_L_age_7 : decode c_L_age 7 = .ok (.i2l, 1) := by decide +kernel
theorem d_L_age_8 : decode c_L_age 8 = .ok (.lastore, 1) := by decide +kernel
theorem d_L_age_9 : decode c_L_age 9 = .ok (.goto 6, 3) := by decide +kernel
theorem d_L_age_12 : decode c_L_age 12 = .ok (.astore_n 3, 1) := by decide +kernel
theorem d_L_age_13 : decode c_L_age 13 = .ok (.iconst 1, 1) := by decide +kernel
theorem d_L_age_14 : decode c_L_age 14 = .ok (.ireturn, 1) := by decide +kernel
theorem d_L_age_15 : decode c_L_age 15 = .ok (.iconst 0, 1) := by decide +kernel
theorem d_L_age_16 : decode c_L_age 16 = .ok (.ireturn, 1) := by decide +kernel
theorem d_L_distance_0 : decode c_L_distance 0 = .ok (.aload_n 2, 1) := by decide +kernel
theorem d_L_distance_1 : decode c_L_distance 1 = .ok (.iconst 0, 1) := by decide +kernel
theorem d_L_distance_2 : decode c_L_distance 2 = .ok (.aload_n 0, 1) := by decide +kernel
theorem d_L_distance_3 : decode c_L_distance 3 = .ok (.iload_n 1, 1) := by decide +kernel
theorem d_L_distance_4 : decode c_L_distance 4 = .ok (.invokevirtual 51, 3) := by decide +kernel
theorem d_L_distance_7 : decode c_L_distance 7 = .ok (.i2l, 1) := by decide +kernel
theorem d_L_distance_8 : decode c_L_distance 8 = .ok (.lastore, 1) := by decide +kernel
theorem d_L_distance_9 : decode c_L_distance 9 = .ok (.goto 6, 3) := by decide +kernel
theorem d_L_distance_12 : decode c_L_distance 12 = .ok (.astore_n 3, 1) := by decide +kernel
theorem d_L_distance_13 : decode c_L_distance 13 = .ok (.iconst 1, 1) := by decide +kernel
theorem d_L_distance_14 : decode c_L_distance 14 = .ok (.ireturn, 1) := by decide +kernel
theorem d_L_distance_15 : decode c_L_distance 15 = .ok (.iconst 0, 1) := by decide +kernel
theorem d_L_distance_16 : decode c_L_distance 16 = .ok (.ireturn, 1) := by decide +kernel
theorem d_L_cost_0 : decode c_L_cost 0 = .ok (.aload_n 2, 1) := by decide +kernel
theorem d_L_cost_1 : decode c_L_cost 1 = .ok (.iconst 0, 1) := by decide +kernel
theorem d_L_cost_2 : decode c_L_cost 2 = .ok (.aload_n 0, 1) := by decide +kernel
theorem d_L_cost_3 : decode c_L_cost 3 = .ok (.iload_n 1, 1) := by decide +kernel
theorem d_L_cost_4 : decode c_L_cost 4 = .ok (.invokevirtual 54, 3) := by decide +kernel
theorem d_L_cost_7 : decode c_L_cost 7 = .ok (.i2l, 1) := by decide +kernel
theorem d_L_cost_8 : decode c_L_cost 8 = .ok (.lastore, 1) := by decide +kernel
theorem d_L_cost_9 : decode c_L_cost 9 = .ok (.goto 6, 3) := by decide +kernel
theorem d_L_cost_12 : decode c_L_cost 12 = .ok (.astore_n 3, 1) := by decide +kernel
theorem d_L_cost_13 : decode c_L_cost 13 = .ok (.iconst 1, 1) := by decide +kernel
theorem d_L_cost_14 : decode c_L_cost 14 = .ok (.ireturn, 1) := by decide +kernel
theorem d_L_cost_15 : decode c_L_cost 15 = .ok (.iconst 0, 1) := by decide +kernel
theorem d_L_cost_16 : decode c_L_cost 16 = .ok (.ireturn, 1) := by decide +kernel
theorem d_L_firsts_0 : decode c_L_firsts 0 = .ok (.aload_n 2, 1) := by decide +kernel
theorem d_L_firsts_1 : decode c_L_firsts 1 = .ok (.iconst 0, 1) := by decide +kernel
theorem d_L_firsts_2 : decode c_L_firsts 2 = .ok (.aload_n 0, 1) := by decide +kernel
theorem d_L_firsts_3 : decode c_L_firsts 3 = .ok (.iload_n 1, 1) := by decide +kernel
theorem d_L_firsts_4 : decode c_L_firsts 4 = .ok (.invokevirtual 57, 3) := by decide +kernel
theorem d_L_firsts_7 : decode c_L_firsts 7 = .ok (.i2l, 1) := by decide +kernel
theorem d_L_firsts_8 : decode c_L_firsts 8 = .ok (.lastore, 1) := by decide +kernel
theorem d_L_firsts_9 : decode c_L_firsts 9 = .ok (.goto 6, 3) := by decide +kernel
theorem d_L_firsts_12 : decode c_L_firsts 12 = .ok (.astore_n 3, 1) := by decide +kernel
theorem d_L_firsts_13 : decode c_L_firsts 13 = .ok (.iconst 1, 1) := by decide +kernel
theorem d_L_firsts_14 : decode c_L_firsts 14 = .ok (.ireturn, 1) := by decide +kernel
theorem d_L_firsts_15 : decode c_L_firsts 15 = .ok (.iconst 0, 1) := by decide +kernel
theorem d_L_firsts_16 : decode c_L_firsts 16 = .ok (.ireturn, 1) := by decide +kernel
theorem d_L_first_0 : decode c_L_first 0 = .ok (.aload_n 3, 1) := by decide +kernel
theorem d_L_first_1 : decode c_L_first 1 = .ok (.iconst 0, 1) := by decide +kernel
theorem d_L_first_2 : decode c_L_first 2 = .ok (.aload_n 0, 1) := by decide +kernel
theorem d_L_first_3 : decode c_L_first 3 = .ok (.iload_n 1, 1) := by decide +kernel
theorem d_L_first_4 : decode c_L_first 4 = .ok (.iload_n 2, 1) := by decide +kernel
theorem d_L_first_5 : decode c_L_first 5 = .ok (.invokevirtual 60, 3) := by decide +kernel
theorem d_L_first_8 : decode c_L_first 8 = .ok (.i2l, 1) := by decide +kernel
theorem d_L_first_9 : decode c_L_first 9 = .ok (.lastore, 1) := by decide +kernel
theorem d_L_first_10 : decode c_L_first 10 = .ok (.goto 11, 3) := by decide +kernel
theorem d_L_first_13 : decode c_L_first 13 = .ok (.astore 4, 2) := by decide +kernel
theorem d_L_first_15 : decode c_L_first 15 = .ok (.iconst 1, 1) := by decide +kernel
theorem d_L_first_16 : decode c_L_first 16 = .ok (.ireturn, 1) := by decide +kernel
theorem d_L_first_17 : decode c_L_first 17 = .ok (.astore 4, 2) := by decide +kernel
theorem d_L_first_19 : decode c_L_first 19 = .ok (.iconst 2, 1) := by decide +kernel
theorem d_L_first_20 : decode c_L_first 20 = .ok (.ireturn, 1) := by decide +kernel
theorem d_L_first_21 : decode c_L_first 21 = .ok (.iconst 0, 1) := by decide +kernel
theorem d_L_first_22 : decode c_L_first 22 = .ok (.ireturn, 1) := by decide +kernel
theorem d_L_law_0 : decode c_L_law 0 = .ok (.new 8, 3) := by decide +kernel
theorem d_L_law_3 : decode c_L_law 3 = .ok (.dup, 1) := by decide +kernel
theorem d_L_law_4 : decode c_L_law 4 = .ok (.aload_n 0, 1) := by decide +kernel
theorem d_L_law_5 : decode c_L_law 5 = .ok (.iconst 0, 1) := by decide +kernel
theorem d_L_law_6 : decode c_L_law 6 = .ok (.invokestatic 63, 3) := by decide +kernel
theorem d_L_law_9 : decode c_L_law 9 = .ok (.invokespecial 69, 3) := by decide +kernel
theorem d_L_law_12 : decode c_L_law 12 = .ok (.astore_n 1, 1) := by decide +kernel
theorem d_L_law_13 : decode c_L_law 13 = .ok (.new 72, 3) := by decide +kernel
theorem d_L_law_16 : decode c_L_law 16 = .ok (.dup, 1) := by decide +kernel
theorem d_L_law_17 : decode c_L_law 17 = .ok (.aload_n 0, 1) := by decide +kernel
theorem d_L_law_18 : decode c_L_law 18 = .ok (.iconst 0, 1) := by decide +kernel
theorem d_L_law_19 : decode c_L_law 19 = .ok (.invokestatic 63, 3) := by decide +kernel
theorem d_L_law_22 : decode c_L_law 22 = .ok (.invokespecial 74, 3) := by decide +kernel
theorem d_L_law_25 : decode c_L_law 25 = .ok (.astore_n 2, 1) := by decide +kernel
theorem d_L_law_26 : decode c_L_law 26 = .ok (.iconst 1, 1) := by decide +kernel
theorem d_L_law_27 : decode c_L_law 27 = .ok (.newarray .long, 2) := by decide +kernel
theorem d_L_law_29 : decode c_L_law 29 = .ok (.astore_n 3, 1) := by decide +kernel
theorem d_L_law_30 : decode c_L_law 30 = .ok (.iconst 1, 1) := by decide +kernel
theorem d_L_law_31 : decode c_L_law 31 = .ok (.istore 4, 2) := by decide +kernel
theorem d_L_law_33 : decode c_L_law 33 = .ok (.iload 4, 2) := by decide +kernel
theorem d_L_law_35 : decode c_L_law 35 = .ok (.aload_n 0, 1) := by decide +kernel
theorem d_L_law_36 : decode c_L_law 36 = .ok (.arraylength, 1) := by decide +kernel
theorem d_L_law_37 : decode c_L_law 37 = .ok (.iconst 4, 1) := by decide +kernel
theorem d_L_law_38 : decode c_L_law 38 = .ok (.isub, 1) := by decide +kernel
theorem d_L_law_39 : decode c_L_law 39 = .ok (.if_icmp .gt 1021, 3) := by decide +kernel
theorem d_L_law_42 : decode c_L_law 42 = .ok (.aload_n 0, 1) := by decide +kernel
theorem d_L_law_43 : decode c_L_law 43 = .ok (.iload 4, 2) := by decide +kernel
theorem d_L_law_45 : decode c_L_law 45 = .ok (.iaload, 1) := by decide +kernel
theorem d_L_law_46 : decode c_L_law 46 = .ok (.bipush 31, 2) := by decide +kernel
theorem d_L_law_48 : decode c_L_law 48 = .ok (.iand, 1) := by decide +kernel
theorem d_L_law_49 : decode c_L_law 49 = .ok (.tableswitch 1005 0 16 #[83, 151, 254, 302, 382, 426, 482, 495, 551, 631, 687, 743, 799, 855, 911, 979, 992], 83) := by decide +kernel
theorem d_L_law_132 : decode c_L_law 132 = .ok (.aload_n 1, 1) := by decide +kernel
theorem d_L_law_133 : decode c_L_law 133 = .ok (.aload_n 0, 1) := by decide +kernel
theorem d_L_law_134 : decode c_L_law 134 = .ok (.iload 4, 2) := by decide +kernel
theorem d_L_law_136 : decode c_L_law 136 = .ok (.iconst 1, 1) := by decide +kernel
theorem d_L_law_137 : decode c_L_law 137 = .ok (.iadd, 1) := by decide +kernel
theorem d_L_law_138 : decode c_L_law 138 = .ok (.iaload, 1) := by decide +kernel
theorem d_L_law_139 : decode c_L_law 139 = .ok (.aload_n 0, 1) := by decide +kernel
theorem d_L_law_140 : decode c_L_law 140 = .ok (.iload 4, 2) := by decide +kernel
theorem d_L_law_142 : decode c_L_law 142 = .ok (.iconst 2, 1) := by decide +kernel
theorem d_L_law_143 : decode c_L_law 143 = .ok (.iadd, 1) := by decide +kernel
theorem d_L_law_144 : decode c_L_law 144 = .ok (.iaload, 1) := by decide +kernel
theorem d_L_law_145 : decode c_L_law 145 = .ok (.aload_n 3, 1) := by decide +kernel
theorem d_L_law_146 : decode c_L_law 146 = .ok (.invokestatic 75, 3) := by decide +kernel
theorem d_L_law_149 : decode c_L_law 149 = .ok (.istore 5, 2) := by decide +kernel
theorem d_L_law_151 : decode c_L_law 151 = .ok (.aload_n 2, 1) := by decide +kernel
theorem d_L_law_152 : decode c_L_law 152 = .ok (.aload_n 0, 1) := by decide +kernel
theorem d_L_law_153 : decode c_L_law 153 = .ok (.iload 4, 2) := by decide +kernel
theorem d_L_law_155 : decode c_L_law 155 = .ok (.iconst 1, 1) := by decide +kernel
theorem d_L_law_156 : decode c_L_law 156 = .ok (.iadd, 1) := by decide +kernel
theorem d_L_law_157 : decode c_L_law 157 = .ok (.iaload, 1) := by decide +kernel
theorem d_L_law_158 : decode c_L_law 158 = .ok (.aload_n 0, 1) := by decide +kernel
theorem d_L_law_159 : decode c_L_law 159 = .ok (.iload 4, 2) := by decide +kernel
theorem d_L_law_161 : decode c_L_law 161 = .ok (.iconst 2, 1) := by decide +kernel
theorem d_L_law_162 : decode c_L_law 162 = .ok (.iadd, 1) := by decide +kernel
theorem d_L_law_163 : decode c_L_law 163 = .ok (.iaload, 1) := by decide +kernel
theorem d_L_law_164 : decode c_L_law 164 = .ok (.invokevirtual 78, 3) := by decide +kernel
theorem d_L_law_167 : decode c_L_law 167 = .ok (.istore 6, 2) := by decide +kernel
theorem d_L_law_169 : decode c_L_law 169 = .ok (.aload_n 2, 1) := by decide +kernel
theorem d_L_law_170 : decode c_L_law 170 = .ok (.invokevirtual 79, 3) := by decide +kernel
theorem d_L_law_173 : decode c_L_law 173 = .ok (.iload 5, 2) := by decide +kernel
theorem d_L_law_175 : decode c_L_law 175 = .ok (.if_icmp .eq 5, 3) := by decide +kernel
theorem d_L_law_178 : decode c_L_law 178 = .ok (.iconst 0, 1) := by decide +kernel
theorem d_L_law_179 : decode c_L_law 179 = .ok (.ireturn, 1) := by decide +kernel
theorem d_L_law_180 : decode c_L_law 180 = .ok (.iload 5, 2) := by decide +kernel
theorem d_L_law_182 : decode c_L_law 182 = .ok (.ifCond .ne 15, 3) := by decide +kernel
theorem d_L_law_185 : decode c_L_law 185 = .ok (.aload_n 3, 1) := by decide +kernel
theorem d_L_law_186 : decode c_L_law 186 = .ok (.iconst 0, 1) := by decide +kernel
theorem d_L_law_187 : decode c_L_law 187 = .ok (.laload, 1) := by decide +kernel
theorem d_L_law_188 : decode c_L_law 188 = .ok (.iload 6, 2) := by decide +kernel
theorem d_L_law_190 : decode c_L_law 190 = .ok (.i2l, 1) := by decide +kernel
theorem d_L_law_191 : decode c_L_law 191 = .ok (.lcmp, 1) := by decide +kernel
theorem d_L_law_192 : decode c_L_law 192 = .ok (.ifCond .eq 5, 3) := by decide +kernel
theorem d_L_law_195 : decode c_L_law 195 = .ok (.iconst 0, 1) := by decide +kernel
theorem d_L_law_196 : decode c_L_law 196 = .ok (.ireturn, 1) := by decide +kernel
theorem d_L_law_197 : decode c_L_law 197 = .ok (.goto 857, 3) := by decide +kernel
theorem d_L_law_200 : decode c_L_law 200 = .ok (.aload_n 1, 1) := by decide +kernel
theorem d_L_law_201 : decode c_L_law 201 = .ok (.aload_n 0, 1) := by decide +kernel
theorem d_L_law_202 : decode c_L_law 202 = .ok (.iload 4, 2) := by decide +kernel
theorem d_L_law_204 : decode c_L_law 204 = .ok (.iconst 1, 1) := by decide +kernel
theorem d_L_law_205 : decode c_L_law 205 = .ok (.iadd, 1) := by decide +kernel
theorem d_L_law_206 : decode c_L_law 206 = .ok (.iaload, 1) := by decide +kernel
theorem d_L_law_207 : decode c_L_law 207 = .ok (.aload_n 0, 1) := by decide +kernel
theorem d_L_law_208 : decode c_L_law 208 = .ok (.iload 4, 2) := by decide +kernel
theorem d_L_law_210 : decode c_L_law 210 = .ok (.iconst 2, 1) := by decide +kernel
theorem d_L_law_211 : decode c_L_law 211 = .ok (.iadd, 1) := by decide +kernel
theorem d_L_law_212 : decode c_L_law 212 = .ok (.iaload, 1) := by decide +kernel
theorem d_L_law_213 : decode c_L_law 213 = .ok (.aload_n 0, 1) := by decide +kernel
theorem d_L_law_214 : decode c_L_law 214 = .ok (.iload 4, 2) := by decide +kernel
theorem d_L_law_216 : decode c_L_law 216 = .ok (.iconst 3, 1) := by decide +kernel
theorem d_L_law_217 : decode c_L_law 217 = .ok (.iadd, 1) := by decide +kernel
theorem d_L_law_218 : decode c_L_law 218 = .ok (.iaload, 1) := by decide +kernel
theorem d_L_law_219 : decode c_L_law 219 = .ok (.ifCond .eq 7, 3) := by decide +kernel
theorem d_L_law_222 : decode c_L_law 222 = .ok (.iconst 1, 1) := by decide +kernel
theorem d_L_law_223 : decode c_L_law 223 = .ok (.goto 4, 3) := by decide +kernel
theorem d_L_law_226 : decode c_L_law 226 = .ok (.iconst 0, 1) := by decide +kernel
theorem d_L_law_227 : decode c_L_law 227 = .ok (.aload_n 3, 1) := by decide +kernel
theorem d_L_law_228 : decode c_L_law 228 = .ok (.invokestatic 82, 3) := by decide +kernel
theorem d_L_law_231 : decode c_L_law 231 = .ok (.istore 5, 2) := by decide +kernel
theorem d_L_law_233 : decode c_L_law 233 = .ok (.aload_n 2, 1) := by decide +kernel
theorem d_L_law_234 : decode c_L_law 234 = .ok (.aload_n 0, 1) := by decide +kernel
theorem d_L_law_235 : decode c_L_law 235 = .ok (.iload 4, 2) := by decide +kernel
theorem d_L_law_237 : decode c_L_law 237 = .ok (.iconst 1, 1) := by decide +kernel
theorem d_L_law_238 : decode c_L_law 238 = .ok (.iadd, 1) := by decide +kernel
theorem d_L_law_239 : decode c_L_law 239 = .ok (.iaload, 1) := by decide +kernel
theorem d_L_law_240 : decode c_L_law 240 = .ok (.aload_n 0, 1) := by decide +kernel
theorem d_L_law_241 : decode c_L_law 241 = .ok (.iload 4, 2) := by decide +kernel
theorem d_L_law_243 : decode c_L_law 243 = .ok (.iconst 2, 1) := by decide +kernel
theorem d_L_law_244 : decode c_L_law 244 = .ok (.iadd, 1) := by decide +kernel
theorem d_L_law_245 : decode c_L_law 245 = .ok (.iaload, 1) := by decide +kernel
theorem d_L_law_246 : decode c_L_law 246 = .ok (.aload_n 0, 1) := by decide +kernel
theorem d_L_law_247 : decode c_L_law 247 = .ok (.iload 4, 2) := by decide +kernel
theorem d_L_law_249 : decode c_L_law 249 = .ok (.iconst 3, 1) := by decide +kernel
theorem d_L_law_250 : decode c_L_law 250 = .ok (.iadd, 1) := by decide +kernel
theorem d_L_law_251 : decode c_L_law 251 = .ok (.iaload, 1) := by decide +kernel
theorem d_L_law_252 : decode c_L_law 252 = .ok (.ifCond .eq 7, 3) := by decide +kernel
theorem d_L_law_255 : decode c_L_law 255 = .ok (.iconst 1, 1) := by decide +kernel
theorem d_L_law_256 : decode c_L_law 256 = .ok (.goto 4, 3) := by decide +kernel
theorem d_L_law_259 : decode c_L_law 259 = .ok (.iconst 0, 1) := by decide +kernel
theorem d_L_law_260 : decode c_L_law 260 = .ok (.invokevirtual 85, 3) := by decide +kernel
theorem d_L_law_263 : decode c_L_law 263 = .ok (.istore 6, 2) := by decide +kernel
theorem d_L_law_265 : decode c_L_law 265 = .ok (.aload_n 2, 1) := by decide +kernel
theorem d_L_law_266 : decode c_L_law 266 = .ok (.invokevirtual 79, 3) := by decide +kernel
theorem d_L_law_269 : decode c_L_law 269 = .ok (.iload 5, 2) := by decide +kernel
theorem d_L_law_271 : decode c_L_law 271 = .ok (.if_icmp .eq 5, 3) := by decide +kernel
theorem d_L_law_274 : decode c_L_law 274 = .ok (.iconst 0, 1) := by decide +kernel
theorem d_L_law_275 : decode c_L_law 275 = .ok (.ireturn, 1) := by decide +kernel
theorem d_L_law_276 : decode c_L_law 276 = .ok (.iload 5, 2) := by decide +kernel
theorem d_L_law_278 : decode c_L_law 278 = .ok (.ifCond .ne 22, 3) := by decide +kernel
theorem d_L_law_281 : decode c_L_law 281 = .ok (.aload_n 3, 1) := by decide +kernel
theorem d_L_law_282 : decode c_L_law 282 = .ok (.iconst 0, 1) := by decide +kernel
theorem d_L_law_283 : decode c_L_law 283 = .ok (.laload, 1) := by decide +kernel
theorem d_L_law_284 : decode c_L_law 284 = .ok (.iload 6, 2) := by decide +kernel
theorem d_L_law_286 : decode c_L_law 286 = .ok (.ifCond .eq 7, 3) := by decide +kernel
theorem d_L_law_289 : decode c_L_law 289 = .ok (.lconst 1, 1) := by decide +kernel
theorem d_L_law_290 : decode c_L_law 290 = .ok (.goto 4, 3) := by decide +kernel
theorem d_L_law_293 : decode c_L_law 293 = .ok (.lconst 0, 1) := by decide +kernel
theorem d_L_law_294 : decode c_L_law 294 = .ok (.lcmp, 1) := by decide +kernel
theorem d_L_law_295 : decode c_L_law 295 = .ok (.ifCond .eq 5, 3) := by decide +kernel
theorem d_L_law_298 : decode c_L_law 298 = .ok (.iconst 0, 1) := by decide +kernel
theorem d_L_law_299 : decode c_L_law 299 = .ok (.ireturn, 1) := by decide +kernel
theorem d_L_law_300 : decode c_L_law 300 = .ok (.goto 754, 3) := by decide +kernel
theorem d_L_law_303 : decode c_L_law 303 = .ok (.aload_n 1, 1) := by decide +kernel
theorem d_L_law_304 : decode c_L_law 304 = .ok (.aload_n 0, 1) := by decide +kernel
theorem d_L_law_305 : decode c_L_law 305 = .ok (.iload 4, 2) := by decide +kernel
theorem d_L_law_307 : decode c_L_law 307 = .ok (.iconst 1, 1) := by decide +kernel
theorem d_L_law_308 : decode c_L_law 308 = .ok (.iadd, 1) := by decide +kernel
theorem d_L_law_309 : decode c_L_law 309 = .ok (.iaload, 1) := by decide +kernel
theorem d_L_law_310 : decode c_L_law 310 = .ok (.aload_n 0, 1) := by decide +kernel
theorem d_L_law_311 : decode c_L_law 311 = .ok (.iload 4, 2) := by decide +kernel
theorem d_L_law_313 : decode c_L_law 313 = .ok (.iconst 2, 1) := by decide +kernel
theorem d_L_law_314 : decode c_L_law 314 = .ok (.iadd, 1) := by decide +kernel
theorem d_L_law_315 : decode c_L_law 315 = .ok (.iaload, 1) := by decide +kernel
theorem d_L_law_316 : decode c_L_law 316 = .ok (.invokestatic 86, 3) := by decide +kernel
theorem d_L_law_319 : decode c_L_law 319 = .ok (.istore 5, 2) := by decide +kernel
theorem d_L_law_321 : decode c_L_law 321 = .ok (.aload_n 2, 1) := by decide +kernel
theorem d_L_law_322 : decode c_L_law 322 = .ok (.aload_n 0, 1) := by decide +kernel
theorem d_L_law_323 : decode c_L_law 323 = .ok (.iload 4, 2) := by decide +kernel
theorem d_L_law_325 : decode c_L_law 325 = .ok (.iconst 1, 1) := by decide +kernel
theorem d_L_law_326 : decode c_L_law 326 = .ok (.iadd, 1) := by decide +kernel
theorem d_L_law_327 : decode c_L_law 327 = .ok (.iaload, 1) := by decide +kernel
theorem d_L_law_328 : decode c_L_law 328 = .ok (.aload_n 0, 1) := by decide +kernel
theorem d_L_law_329 : decode c_L_law 329 = .ok (.iload 4, 2) := by decide +kernel
theorem d_L_law_331 : decode c_L_law 331 = .ok (.iconst 2, 1) := by decide +kernel
theorem d_L_law_332 : decode c_L_law 332 = .ok (.iadd, 1) := by decide +kernel
theorem d_L_law_333 : decode c_L_law 333 = .ok (.iaload, 1) := by decide +kernel
theorem d_L_law_334 : decode c_L_law 334 = .ok (.invokevirtual 89, 3) := by decide +kernel
theorem d_L_law_337 : decode c_L_law 337 = .ok (.aload_n 2, 1) := by decide +kernel
theorem d_L_law_338 : decode c_L_law 338 = .ok (.invokevirtual 79, 3) := by decide +kernel
theorem d_L_law_341 : decode c_L_law 341 = .ok (.iload 5, 2) := by decide +kernel
theorem d_L_law_343 : decode c_L_law 343 = .ok (.if_icmp .eq 5, 3) := by decide +kernel
theorem d_L_law_346 : decode c_L_law 346 = .ok (.iconst 0, 1) := by decide +kernel
theorem d_L_law_347 : decode c_L_law 347 = .ok (.ireturn, 1) := by decide +kernel
theorem d_L_law_348 : decode c_L_law 348 = .ok (.goto 706, 3) := by decide +kernel
theorem d_L_law_351 : decode c_L_law 351 = .ok (.aload_n 1, 1) := by decide +kernel
theorem d_L_law_352 : decode c_L_law 352 = .ok (.aload_n 0, 1) := by decide +kernel
theorem d_L_law_353 : decode c_L_law 353 = .ok (.iload 4, 2) := by decide +kernel
theorem d_L_law_355 : decode c_L_law 355 = .ok (.iconst 1, 1) := by decide +kernel
theorem d_L_law_356 : decode c_L_law 356 = .ok (.iadd, 1) := by decide +kernel
theorem d_L_law_357 : decode c_L_law 357 = .ok (.iaload, 1) := by decide +kernel
theorem d_L_law_358 : decode c_L_law 358 = .ok (.aload_n 0, 1) := by decide +kernel
theorem d_L_law_359 : decode c_L_law 359 = .ok (.iload 4, 2) := by decide +kernel
theorem d_L_law_361 : decode c_L_law 361 = .ok (.iconst 2, 1) := by decide +kernel
theorem d_L_law_362 : decode c_L_law 362 = .ok (.iadd, 1) := by decide +kernel
theorem d_L_law_363 : decode c_L_law 363 = .ok (.iaload, 1) := by decide +kernel
theorem d_L_law_364 : decode c_L_law 364 = .ok (.aload_n 0, 1) := by decide +kernel
theorem d_L_law_365 : decode c_L_law 365 = .ok (.iload 4, 2) := by decide +kernel
theorem d_L_law_367 : decode c_L_law 367 = .ok (.iconst 3, 1) := by decide +kernel
theorem d_L_law_368 : decode c_L_law 368 = .ok (.iadd, 1) := by decide +kernel
theorem d_L_law_369 : decode c_L_law 369 = .ok (.iaload, 1) := by decide +kernel
theorem d_L_law_370 : decode c_L_law 370 = .ok (.aload_n 3, 1) := by decide +kernel
theorem d_L_law_371 : decode c_L_law 371 = .ok (.invokestatic 90, 3) := by decide +kernel
theorem d_L_law_374 : decode c_L_law 374 = .ok (.istore 5, 2) := by decide +kernel
theorem d_L_law_376 : decode c_L_law 376 = .ok (.aload_n 2, 1) := by decide +kernel
theorem d_L_law_377 : decode c_L_law 377 = .ok (.aload_n 0, 1) := by decide +kernel
theorem d_L_law_378 : decode c_L_law 378 = .ok (.iload 4, 2) := by decide +kernel
theorem d_L_law_380 : decode c_L_law 380 = .ok (.iconst 1, 1) := by decide +kernel
theorem d_L_law_381 : decode c_L_law 381 = .ok (.iadd, 1) := by decide +kernel
theorem d_L_law_382 : decode c_L_law 382 = .ok (.iaload, 1) := by decide +kernel
theorem d_L_law_383 : decode c_L_law 383 = .ok (.aload_n 0, 1) := by decide +kernel
theorem d_L_law_384 : decode c_L_law 384 = .ok (.iload 4, 2) := by decide +kernel
theorem d_L_law_386 : decode c_L_law 386 = .ok (.iconst 2, 1) := by decide +kernel
theorem d_L_law_387 : decode c_L_law 387 = .ok (.iadd, 1) := by decide +kernel
theorem d_L_law_388 : decode c_L_law 388 = .ok (.iaload, 1) := by decide +kernel
theorem d_L_law_389 : decode c_L_law 389 = .ok (.aload_n 0, 1) := by decide +kernel
theorem d_L_law_390 : decode c_L_law 390 = .ok (.iload 4, 2) := by decide +kernel
theorem d_L_law_392 : decode c_L_law 392 = .ok (.iconst 3, 1) := by decide +kernel
theorem d_L_law_393 : decode c_L_law 393 = .ok (.iadd, 1) := by decide +kernel
theorem d_L_law_394 : decode c_L_law 394 = .ok (.iaload, 1) := by decide +kernel
theorem d_L_law_395 : decode c_L_law 395 = .ok (.invokevirtual 93, 3) := by decide +kernel
theorem d_L_law_398 : decode c_L_law 398 = .ok (.istore 6, 2) := by decide +kernel
theorem d_L_law_400 : decode c_L_law 400 = .ok (.aload_n 2, 1) := by decide +kernel
theorem d_L_law_401 : decode c_L_law 401 = .ok (.invokevirtual 79, 3) := by decide +kernel
theorem d_L_law_404 : decode c_L_law 404 = .ok (.iload 5, 2) := by decide +kernel
theorem d_L_law_406 : decode c_L_law 406 = .ok (.if_icmp .eq 5, 3) := by decide +kernel
theorem d_L_law_409 : decode c_L_law 409 = .ok (.iconst 0, 1) := by decide +kernel
theorem d_L_law_410 : decode c_L_law 410 = .ok (.ireturn, 1) := by decide +kernel
theorem d_L_law_411 : decode c_L_law 411 = .ok (.iload 5, 2) := by decide +kernel
theorem d_L_law_413 : decode c_L_law 413 = .ok (.ifCond .ne 15, 3) := by decide +kernel
theorem d_L_law_416 : decode c_L_law 416 = .ok (.aload_n 3, 1) := by decide +kernel
theorem d_L_law_417 : decode c_L_law 417 = .ok (.iconst 0, 1) := by decide +kernel
theorem d_L_law_418 : decode c_L_law 418 = .ok (.laload, 1) := by decide +kernel
theorem d_L_law_419 : decode c_L_law 419 = .ok (.iload 6, 2) := by decide +kernel
theorem d_L_law_421 : decode c_L_law 421 = .ok (.i2l, 1) := by decide +kernel
theorem d_L_law_422 : decode c_L_law 422 = .ok (.lcmp, 1) := by decide +kernel
theorem d_L_law_423 : decode c_L_law 423 = .ok (.ifCond .eq 5, 3) := by decide +kernel
theorem d_L_law_426 : decode c_L_law 426 = .ok (.iconst 0, 1) := by decide +kernel
theorem d_L_law_427 : decode c_L_law 427 = .ok (.ireturn, 1) := by decide +kernel
theorem d_L_law_428 : decode c_L_law 428 = .ok (.goto 626, 3) := by decide +kernel
theorem d_L_law_431 : decode c_L_law 431 = .ok (.aload_n 1, 1) := by decide +kernel
theorem d_L_law_432 : decode c_L_law 432 = .ok (.aload_n 3, 1) := by decide +kernel
theorem d_L_law_433 : decode c_L_law 433 = .ok (.invokestatic 94, 3) := by decide +kernel
theorem d_L_law_436 : decode c_L_law 436 = .ok (.istore 5, 2) := by decide +kernel
theorem d_L_law_438 : decode c_L_law 438 = .ok (.aload_n 2, 1) := by decide +kernel
theorem d_L_law_439 : decode c_L_law 439 = .ok (.invokevirtual 97, 3) := by decide +kernel
theorem d_L_law_442 : decode c_L_law 442 = .ok (.istore 6, 2) := by decide +kernel
theorem d_L_law_444 : decode c_L_law 444 = .ok (.aload_n 2, 1) := by decide +kernel
theorem d_L_law_445 : decode c_L_law 445 = .ok (.invokevirtual 79, 3) := by decide +kernel
theorem d_L_law_448 : decode c_L_law 448 = .ok (.iload 5, 2) := by decide +kernel
theorem d_L_law_450 : decode c_L_law 450 = .ok (.if_icmp .eq 5, 3) := by decide +kernel
theorem d_L_law_453 : decode c_L_law 453 = .ok (.iconst 0, 1) := by decide +kernel
theorem d_L_law_454 : decode c_L_law 454 = .ok (.ireturn, 1) := by decide +kernel
theorem d_L_law_455 : decode c_L_law 455 = .ok (.iload 5, 2) := by decide +kernel
theorem d_L_law_457 : decode c_L_law 457 = .ok (.ifCond .ne 15, 3) := by decide +kernel
theorem d_L_law_460 : decode c_L_law 460 = .ok (.aload_n 3, 1) := by decide +kernel
theorem d_L_law_461 : decode c_L_law 461 = .ok (.iconst 0, 1) := by decide +kernel
theorem d_L_law_462 : decode c_L_law 462 = .ok (.laload, 1) := by decide +kernel
theorem d_L_law_463 : decode c_L_law 463 = .ok (.iload 6, 2) := by decide +kernel
theorem d_L_law_465 : decode c_L_law 465 = .ok (.i2l, 1) := by decide +kernel
theorem d_L_law_466 : decode c_L_law 466 = .ok (.lcmp, 1) := by decide +kernel
theorem d_L_law_467 : decode c_L_law 467 = .ok (.ifCond .eq 5, 3) := by decide +kernel
theorem d_L_law_470 : decode c_L_law 470 = .ok (.iconst 0, 1) := by decide +kernel
theorem d_L_law_471 : decode c_L_law 471 = .ok (.ireturn, 1) := by decide +kernel
theorem d_L_law_472 : decode c_L_law 472 = .ok (.goto 582, 3) := by decide +kernel
theorem d_L_law_475 : decode c_L_law 475 = .ok (.aload_n 1, 1) := by decide +kernel
theorem d_L_law_476 : decode c_L_law 476 = .ok (.aload_n 0, 1) := by decide +kernel
theorem d_L_law_477 : decode c_L_law 477 = .ok (.iload 4, 2) := by decide +kernel
theorem d_L_law_479 : decode c_L_law 479 = .ok (.iconst 1, 1) := by decide +kernel
theorem d_L_law_480 : decode c_L_law 480 = .ok (.iadd, 1) := by decide +kernel
theorem d_L_law_481 : decode c_L_law 481 = .ok (.iaload, 1) := by decide +kernel
theorem d_L_law_482 : decode c_L_law 482 = .ok (.aload_n 3, 1) := by decide +kernel
theorem d_L_law_483 : decode c_L_law 483 = .ok (.invokestatic 98, 3) := by decide +kernel
theorem d_L_law_486 : decode c_L_law 486 = .ok (.istore 5, 2) := by decide +kernel
theorem d_L_law_488 : decode c_L_law 488 = .ok (.aload_n 2, 1) := by decide +kernel
theorem d_L_law_489 : decode c_L_law 489 = .ok (.aload_n 0, 1) := by decide +kernel
theorem d_L_law_490 : decode c_L_law 490 = .ok (.iload 4, 2) := by decide +kernel
theorem d_L_law_492 : decode c_L_law 492 = .ok (.iconst 1, 1) := by decide +kernel
theorem d_L_law_493 : decode c_L_law 493 = .ok (.iadd, 1) := by decide +kernel
theorem d_L_law_494 : decode c_L_law 494 = .ok (.iaload, 1) := by decide +kernel
theorem d_L_law_495 : decode c_L_law 495 = .ok (.invokevirtual 101, 3) := by decide +kernel
theorem d_L_law_498 : decode c_L_law 498 = .ok (.istore 6, 2) := by decide +kernel
theorem d_L_law_500 : decode c_L_law 500 = .ok (.aload_n 2, 1) := by decide +kernel
theorem d_L_law_501 : decode c_L_law 501 = .ok (.invokevirtual 79, 3) := by decide +kernel
theorem d_L_law_504 : decode c_L_law 504 = .ok (.iload 5, 2) := by decide +kernel
theorem d_L_law_506 : decode c_L_law 506 = .ok (.if_icmp .eq 5, 3) := by decide +kernel
theorem d_L_law_509 : decode c_L_law 509 = .ok (.iconst 0, 1) := by decide +kernel
theorem d_L_law_510 : decode c_L_law 510 = .ok (.ireturn, 1) := by decide +kernel
theorem d_L_law_511 : decode c_L_law 511 = .ok (.iload 5, 2) := by decide +kernel
theorem d_L_law_513 : decode c_L_law 513 = .ok (.ifCond .ne 15, 3) := by decide +kernel
theorem d_L_law_516 : decode c_L_law 516 = .ok (.aload_n 3, 1) := by decide +kernel
theorem d_L_law_517 : decode c_L_law 517 = .ok (.iconst 0, 1) := by decide +kernel
theorem d_L_law_518 : decode c_L_law 518 = .ok (.laload, 1) := by decide +kernel
theorem d_L_law_519 : decode c_L_law 519 = .ok (.iload 6, 2) := by decide +kernel
theorem d_L_law_521 : decode c_L_law 521 = .ok (.i2l, 1) := by decide +kernel
theorem d_L_law_522 : decode c_L_law 522 = .ok (.lcmp, 1) := by decide +kernel
theorem d_L_law_523 : decode c_L_law 523 = .ok (.ifCond .eq 5, 3) := by decide +kernel
theorem d_L_law_526 : decode c_L_law 526 = .ok (.iconst 0, 1) := by decide +kernel
theorem d_L_law_527 : decode c_L_law 527 = .ok (.ireturn, 1) := by decide +kernel
theorem d_L_law_528 : decode c_L_law 528 = .ok (.goto 526, 3) := by decide +kernel
theorem d_L_law_531 : decode c_L_law 531 = .ok (.aload_n 1, 1) := by decide +kernel
theorem d_L_law_532 : decode c_L_law 532 = .ok (.invokevirtual 102, 3) := by decide +kernel
theorem d_L_law_535 : decode c_L_law 535 = .ok (.aload_n 2, 1) := by decide +kernel
theorem d_L_law_536 : decode c_L_law 536 = .ok (.invokevirtual 105, 3) := by decide +kernel
theorem d_L_law_539 : decode c_L_law 539 = .ok (.if_icmp .eq 515, 3) := by decide +kernel
theorem d_L_law_542 : decode c_L_law 542 = .ok (.iconst 0, 1) := by decide +kernel
theorem d_L_law_543 : decode c_L_law 543 = .ok (.ireturn, 1) := by decide +kernel
theorem d_L_law_544 : decode c_L_law 544 = .ok (.aload_n 1, 1) := by decide +kernel
theorem d_L_law_545 : decode c_L_law 545 = .ok (.aload_n 0, 1) := by decide +kernel
theorem d_L_law_546 : decode c_L_law 546 = .ok (.iload 4, 2) := by decide +kernel
theorem d_L_law_548 : decode c_L_law 548 = .ok (.iconst 1, 1) := by decide +kernel
theorem d_L_law_549 : decode c_L_law 549 = .ok (.iadd, 1) := by decide +kernel
theorem d_L_law_550 : decode c_L_law 550 = .ok (.iaload, 1) := by decide +kernel
theorem d_L_law_551 : decode c_L_law 551 = .ok (.aload_n 3, 1) := by decide +kernel
theorem d_L_law_552 : decode c_L_law 552 = .ok (.invokestatic 106, 3) := by decide +kernel
theorem d_L_law_555 : decode c_L_law 555 = .ok (.istore 5, 2) := by decide +kernel
theorem d_L_law_557 : decode c_L_law 557 = .ok (.aload_n 2, 1) := by decide +kernel
theorem d_L_law_558 : decode c_L_law 558 = .ok (.aload_n 0, 1) := by decide +kernel
theorem d_L_law_559 : decode c_L_law 559 = .ok (.iload 4, 2) := by decide +kernel
theorem d_L_law_561 : decode c_L_law 561 = .ok (.iconst 1, 1) := by decide +kernel
theorem d_L_law_562 : decode c_L_law 562 = .ok (.iadd, 1) := by decide +kernel
theorem d_L_law_563 : decode c_L_law 563 = .ok (.iaload, 1) := by decide +kernel
theorem d_L_law_564 : decode c_L_law 564 = .ok (.invokevirtual 108, 3) := by decide +kernel
theorem d_L_law_567 : decode c_L_law 567 = .ok (.istore 6, 2) := by decide +kernel
theorem d_L_law_569 : decode c_L_law 569 = .ok (.aload_n 2, 1) := by decide +kernel
theorem d_L_law_570 : decode c_L_law 570 = .ok (.invokevirtual 79, 3) := by decide +kernel
theorem d_L_law_573 : decode c_L_law 573 = .ok (.iload 5, 2) := by decide +kernel
theorem d_L_law_575 : decode c_L_law 575 = .ok (.if_icmp .eq 5, 3) := by decide +kernel
theorem d_L_law_578 : decode c_L_law 578 = .ok (.iconst 0, 1) := by decide +kernel
theorem d_L_law_579 : decode c_L_law 579 = .ok (.ireturn, 1) := by decide +kernel
theorem d_L_law_580 : decode c_L_law 580 = .ok (.iload 5, 2) := by decide +kernel
theorem d_L_law_582 : decode c_L_law 582 = .ok (.ifCond .ne 15, 3) := by decide +kernel
theorem d_L_law_585 : decode c_L_law 585 = .ok (.aload_n 3, 1) := by decide +kernel
theorem d_L_law_586 : decode c_L_law 586 = .ok (.iconst 0, 1) := by decide +kernel
theorem d_L_law_587 : decode c_L_law 587 = .ok (.laload, 1) := by decide +kernel
theorem d_L_law_588 : decode c_L_law 588 = .ok (.iload 6, 2) := by decide +kernel
theorem d_L_law_590 : decode c_L_law 590 = .ok (.i2l, 1) := by decide +kernel
theorem d_L_law_591 : decode c_L_law 591 = .ok (.lcmp, 1) := by decide +kernel
theorem d_L_law_592 : decode c_L_law 592 = .ok (.ifCond .eq 5, 3) := by decide +kernel
theorem d_L_law_595 : decode c_L_law 595 = .ok (.iconst 0, 1) := by decide +kernel
theorem d_L_law_596 : decode c_L_law 596 = .ok (.ireturn, 1) := by decide +kernel
theorem d_L_law_597 : decode c_L_law 597 = .ok (.goto 457, 3) := by decide +kernel
theorem d_L_law_600 : decode c_L_law 600 = .ok (.aload_n 1, 1) := by decide +kernel
theorem d_L_law_601 : decode c_L_law 601 = .ok (.aload_n 0, 1) := by decide +kernel
theorem d_L_law_602 : decode c_L_law 602 = .ok (.iload 4, 2) := by decide +kernel
theorem d_L_law_604 : decode c_L_law 604 = .ok (.iconst 1, 1) := by decide +kernel
theorem d_L_law_605 : decode c_L_law 605 = .ok (.iadd, 1) := by decide +kernel
theorem d_L_law_606 : decode c_L_law 606 = .ok (.iaload, 1) := by decide +kernel
theorem d_L_law_607 : decode c_L_law 607 = .ok (.aload_n 0, 1) := by decide +kernel
theorem d_L_law_608 : decode c_L_law 608 = .ok (.iload 4, 2) := by decide +kernel
theorem d_L_law_610 : decode c_L_law 610 = .ok (.iconst 2, 1) := by decide +kernel
theorem d_L_law_611 : decode c_L_law 611 = .ok (.iadd, 1) := by decide +kernel
theorem d_L_law_612 : decode c_L_law 612 = .ok (.iaload, 1) := by decide +kernel
theorem d_L_law_613 : decode c_L_law 613 = .ok (.aload_n 0, 1) := by decide +kernel
theorem d_L_law_614 : decode c_L_law 614 = .ok (.iload 4, 2) := by decide +kernel
theorem d_L_law_616 : decode c_L_law 616 = .ok (.iconst 3, 1) := by decide +kernel
theorem d_L_law_617 : decode c_L_law 617 = .ok (.iadd, 1) := by decide +kernel
theorem d_L_law_618 : decode c_L_law 618 = .ok (.iaload, 1) := by decide +kernel
theorem d_L_law_619 : decode c_L_law 619 = .ok (.aload_n 3, 1) := by decide +kernel
theorem d_L_law_620 : decode c_L_law 620 = .ok (.invokestatic 109, 3) := by decide +kernel
theorem d_L_law_623 : decode c_L_law 623 = .ok (.istore 5, 2) := by decide +kernel
theorem d_L_law_625 : decode c_L_law 625 = .ok (.aload_n 2, 1) := by decide +kernel
theorem d_L_law_626 : decode c_L_law 626 = .ok (.aload_n 0, 1) := by decide +kernel
theorem d_L_law_627 : decode c_L_law 627 = .ok (.iload 4, 2) := by decide +kernel
theorem d_L_law_629 : decode c_L_law 629 = .ok (.iconst 1, 1) := by decide +kernel
theorem d_L_law_630 : decode c_L_law 630 = .ok (.iadd, 1) := by decide +kernel
theorem d_L_law_631 : decode c_L_law 631 = .ok (.iaload, 1) := by decide +kernel
theorem d_L_law_632 : decode c_L_law 632 = .ok (.aload_n 0, 1) := by decide +kernel
theorem d_L_law_633 : decode c_L_law 633 = .ok (.iload 4, 2) := by decide +kernel
theorem d_L_law_635 : decode c_L_law 635 = .ok (.iconst 2, 1) := by decide +kernel
theorem d_L_law_636 : decode c_L_law 636 = .ok (.iadd, 1) := by decide +kernel
theorem d_L_law_637 : decode c_L_law 637 = .ok (.iaload, 1) := by decide +kernel
theorem d_L_law_638 : decode c_L_law 638 = .ok (.aload_n 0, 1) := by decide +kernel
theorem d_L_law_639 : decode c_L_law 639 = .ok (.iload 4, 2) := by decide +kernel
theorem d_L_law_641 : decode c_L_law 641 = .ok (.iconst 3, 1) := by decide +kernel
theorem d_L_law_642 : decode c_L_law 642 = .ok (.iadd, 1) := by decide +kernel
theorem d_L_law_643 : decode c_L_law 643 = .ok (.iaload, 1) := by decide +kernel
theorem d_L_law_644 : decode c_L_law 644 = .ok (.invokevirtual 111, 3) := by decide +kernel
theorem d_L_law_647 : decode c_L_law 647 = .ok (.istore 6, 2) := by decide +kernel
theorem d_L_law_649 : decode c_L_law 649 = .ok (.aload_n 2, 1) := by decide +kernel
theorem d_L_law_650 : decode c_L_law 650 = .ok (.invokevirtual 79, 3) := by decide +kernel
theorem d_L_law_653 : decode c_L_law 653 = .ok (.iload 5, 2) := by decide +kernel
theorem d_L_law_655 : decode c_L_law 655 = .ok (.if_icmp .eq 5, 3) := by decide +kernel
theorem d_L_law_658 : decode c_L_law 658 = .ok (.iconst 0, 1) := by decide +kernel
theorem d_L_law_659 : decode c_L_law 659 = .ok (.ireturn, 1) := by decide +kernel
theorem d_L_law_660 : decode c_L_law 660 = .ok (.iload 5, 2) := by decide +kernel
theorem d_L_law_662 : decode c_L_law 662 = .ok (.ifCond .ne 15, 3) := by decide +kernel
theorem d_L_law_665 : decode c_L_law 665 = .ok (.aload_n 3, 1) := by decide +kernel
theorem d_L_law_666 : decode c_L_law 666 = .ok (.iconst 0, 1) := by decide +kernel
theorem d_L_law_667 : decode c_L_law 667 = .ok (.laload, 1) := by decide +kernel
theorem d_L_law_668 : decode c_L_law 668 = .ok (.iload 6, 2) := by decide +kernel
theorem d_L_law_670 : decode c_L_law 670 = .ok (.i2l, 1) := by decide +kernel
theorem d_L_law_671 : decode c_L_law 671 = .ok (.lcmp, 1) := by decide +kernel
theorem d_L_law_672 : decode c_L_law 672 = .ok (.ifCond .eq 5, 3) := by decide +kernel
theorem d_L_law_675 : decode c_L_law 675 = .ok (.iconst 0, 1) := by decide +kernel
theorem d_L_law_676 : decode c_L_law 676 = .ok (.ireturn, 1) := by decide +kernel
theorem d_L_law_677 : decode c_L_law 677 = .ok (.goto 377, 3) := by decide +kernel
theorem d_L_law_680 : decode c_L_law 680 = .ok (.aload_n 1, 1) := by decide +kernel
theorem d_L_law_681 : decode c_L_law 681 = .ok (.aload_n 0, 1) := by decide +kernel
theorem d_L_law_682 : decode c_L_law 682 = .ok (.iload 4, 2) := by decide +kernel
theorem d_L_law_684 : decode c_L_law 684 = .ok (.iconst 1, 1) := by decide +kernel
theorem d_L_law_685 : decode c_L_law 685 = .ok (.iadd, 1) := by decide +kernel
theorem d_L_law_686 : decode c_L_law 686 = .ok (.iaload, 1) := by decide +kernel
theorem d_L_law_687 : decode c_L_law 687 = .ok (.aload_n 3, 1) := by decide +kernel
theorem d_L_law_688 : decode c_L_law 688 = .ok (.invokestatic 112, 3) := by decide +kernel
theorem d_L_law_691 : decode c_L_law 691 = .ok (.istore 5, 2) := by decide +kernel
theorem d_L_law_693 : decode c_L_law 693 = .ok (.aload_n 2, 1) := by decide +kernel
theorem d_L_law_694 : decode c_L_law 694 = .ok (.aload_n 0, 1) := by decide +kernel
theorem d_L_law_695 : decode c_L_law 695 = .ok (.iload 4, 2) := by decide +kernel
theorem d_L_law_697 : decode c_L_law 697 = .ok (.iconst 1, 1) := by decide +kernel
theorem d_L_law_698 : decode c_L_law 698 = .ok (.iadd, 1) := by decide +kernel
theorem d_L_law_699 : decode c_L_law 699 = .ok (.iaload, 1) := by decide +kernel
theorem d_L_law_700 : decode c_L_law 700 = .ok (.invokevirtual 114, 3) := by decide +kernel
theorem d_L_law_703 : decode c_L_law 703 = .ok (.istore 6, 2) := by decide +kernel
theorem d_L_law_705 : decode c_L_law 705 = .ok (.aload_n 2, 1) := by decide +kernel
theorem d_L_law_706 : decode c_L_law 706 = .ok (.invokevirtual 79, 3) := by decide +kernel
theorem d_L_law_709 : decode c_L_law 709 = .ok (.iload 5, 2) := by decide +kernel
theorem d_L_law_711 : decode c_L_law 711 = .ok (.if_icmp .eq 5, 3) := by decide +kernel
theorem d_L_law_714 : decode c_L_law 714 = .ok (.iconst 0, 1) := by decide +kernel
theorem d_L_law_715 : decode c_L_law 715 = .ok (.ireturn, 1) := by decide +kernel
theorem d_L_law_716 : decode c_L_law 716 = .ok (.iload 5, 2) := by decide +kernel
theorem d_L_law_718 : decode c_L_law 718 = .ok (.ifCond .ne 15, 3) := by decide +kernel
theorem d_L_law_721 : decode c_L_law 721 = .ok (.aload_n 3, 1) := by decide +kernel
theorem d_L_law_722 : decode c_L_law 722 = .ok (.iconst 0, 1) := by decide +kernel
theorem d_L_law_723 : decode c_L_law 723 = .ok (.laload, 1) := by decide +kernel
theorem d_L_law_724 : decode c_L_law 724 = .ok (.iload 6, 2) := by decide +kernel
theorem d_L_law_726 : decode c_L_law 726 = .ok (.i2l, 1) := by decide +kernel
theorem d_L_law_727 : decode c_L_law 727 = .ok (.lcmp, 1) := by decide +kernel
theorem d_L_law_728 : decode c_L_law 728 = .ok (.ifCond .eq 5, 3) := by decide +kernel
theorem d_L_law_731 : decode c_L_law 731 = .ok (.iconst 0, 1) := by decide +kernel
theorem d_L_law_732 : decode c_L_law 732 = .ok (.ireturn, 1) := by decide +kernel
theorem d_L_law_733 : decode c_L_law 733 = .ok (.goto 321, 3) := by decide +kernel
theorem d_L_law_736 : decode c_L_law 736 = .ok (.aload_n 1, 1) := by decide +kernel
theorem d_L_law_737 : decode c_L_law 737 = .ok (.aload_n 0, 1) := by decide +kernel
theorem d_L_law_738 : decode c_L_law 738 = .ok (.iload 4, 2) := by decide +kernel
theorem d_L_law_740 : decode c_L_law 740 = .ok (.iconst 1, 1) := by decide +kernel
theorem d_L_law_741 : decode c_L_law 741 = .ok (.iadd, 1) := by decide +kernel
theorem d_L_law_742 : decode c_L_law 742 = .ok (.iaload, 1) := by decide +kernel
theorem d_L_law_743 : decode c_L_law 743 = .ok (.aload_n 3, 1) := by decide +kernel
theorem d_L_law_744 : decode c_L_law 744 = .ok (.invokestatic 115, 3) := by decide +kernel
theorem d_L_law_747 : decode c_L_law 747 = .ok (.istore 5, 2) := by decide +kernel
theorem d_L_law_749 : decode c_L_law 749 = .ok (.aload_n 2, 1) := by decide +kernel
theorem d_L_law_750 : decode c_L_law 750 = .ok (.aload_n 0, 1) := by decide +kernel
theorem d_L_law_751 : decode c_L_law 751 = .ok (.iload 4, 2) := by decide +kernel
theorem d_L_law_753 : decode c_L_law 753 = .ok (.iconst 1, 1) := by decide +kernel
theorem d_L_law_754 : decode c_L_law 754 = .ok (.iadd, 1) := by decide +kernel
theorem d_L_law_755 : decode c_L_law 755 = .ok (.iaload, 1) := by decide +kernel
theorem d_L_law_756 : decode c_L_law 756 = .ok (.invokevirtual 117, 3) := by decide +kernel
theorem d_L_law_759 : decode c_L_law 759 = .ok (.istore 6, 2) := by decide +kernel
theorem d_L_law_761 : decode c_L_law 761 = .ok (.aload_n 2, 1) := by decide +kernel
theorem d_L_law_762 : decode c_L_law 762 = .ok (.invokevirtual 79, 3) := by decide +kernel
theorem d_L_law_765 : decode c_L_law 765 = .ok (.iload 5, 2) := by decide +kernel
theorem d_L_law_767 : decode c_L_law 767 = .ok (.if_icmp .eq 5, 3) := by decide +kernel
theorem d_L_law_770 : decode c_L_law 770 = .ok (.iconst 0, 1) := by decide +kernel
theorem d_L_law_771 : decode c_L_law 771 = .ok (.ireturn, 1) := by decide +kernel
theorem d_L_law_772 : decode c_L_law 772 = .ok (.iload 5, 2) := by decide +kernel
theorem d_L_law_774 : decode c_L_law 774 = .ok (.ifCond .ne 15, 3) := by decide +kernel
theorem d_L_law_777 : decode c_L_law 777 = .ok (.aload_n 3, 1) := by decide +kernel
theorem d_L_law_778 : decode c_L_law 778 = .ok (.iconst 0, 1) := by decide +kernel
theorem d_L_law_779 : decode c_L_law 779 = .ok (.laload, 1) := by decide +kernel
theorem d_L_law_780 : decode c_L_law 780 = .ok (.iload 6, 2) := by decide +kernel
theorem d_L_law_782 : decode c_L_law 782 = .ok (.i2l, 1) := by decide +kernel
theorem d_L_law_783 : decode c_L_law 783 = .ok (.lcmp, 1) := by decide +kernel
theorem d_L_law_784 : decode c_L_law 784 = .ok (.ifCond .eq 5, 3) := by decide +kernel
theorem d_L_law_787 : decode c_L_law 787 = .ok (.iconst 0, 1) := by decide +kernel
theorem d_L_law_788 : decode c_L_law 788 = .ok (.ireturn, 1) := by decide +kernel
theorem d_L_law_789 : decode c_L_law 789 = .ok (.goto 265, 3) := by decide +kernel
theorem d_L_law_792 : decode c_L_law 792 = .ok (.aload_n 1, 1) := by decide +kernel
theorem d_L_law_793 : decode c_L_law 793 = .ok (.aload_n 0, 1) := by decide +kernel
theorem d_L_law_794 : decode c_L_law 794 = .ok (.iload 4, 2) := by decide +kernel
theorem d_L_law_796 : decode c_L_law 796 = .ok (.iconst 1, 1) := by decide +kernel
theorem d_L_law_797 : decode c_L_law 797 = .ok (.iadd, 1) := by decide +kernel
theorem d_L_law_798 : decode c_L_law 798 = .ok (.iaload, 1) := by decide +kernel
theorem d_L_law_799 : decode c_L_law 799 = .ok (.aload_n 3, 1) := by decide +kernel
theorem d_L_law_800 : decode c_L_law 800 = .ok (.invokestatic 118, 3) := by decide +kernel
theorem d_L_law_803 : decode c_L_law 803 = .ok (.istore 5, 2) := by decide +kernel
theorem d_L_law_805 : decode c_L_law 805 = .ok (.aload_n 2, 1) := by decide +kernel
theorem d_L_law_806 : decode c_L_law 806 = .ok (.aload_n 0, 1) := by decide +kernel
theorem d_L_law_807 : decode c_L_law 807 = .ok (.iload 4, 2) := by decide +kernel
theorem d_L_law_809 : decode c_L_law 809 = .ok (.iconst 1, 1) := by decide +kernel
theorem d_L_law_810 : decode c_L_law 810 = .ok (.iadd, 1) := by decide +kernel
theorem d_L_law_811 : decode c_L_law 811 = .ok (.iaload, 1) := by decide +kernel
theorem d_L_law_812 : decode c_L_law 812 = .ok (.invokevirtual 120, 3) := by decide +kernel
theorem d_L_law_815 : decode c_L_law 815 = .ok (.istore 6, 2) := by decide +kernel
theorem d_L_law_817 : decode c_L_law 817 = .ok (.aload_n 2, 1) := by decide +kernel
theorem d_L_law_818 : decode c_L_law 818 = .ok (.invokevirtual 79, 3) := by decide +kernel
theorem d_L_law_821 : decode c_L_law 821 = .ok (.iload 5, 2) := by decide +kernel
theorem d_L_law_823 : decode c_L_law 823 = .ok (.if_icmp .eq 5, 3) := by decide +kernel
theorem d_L_law_826 : decode c_L_law 826 = .ok (.iconst 0, 1) := by decide +kernel
theorem d_L_law_827 : decode c_L_law 827 = .ok (.ireturn, 1) := by decide +kernel
theorem d_L_law_828 : decode c_L_law 828 = .ok (.iload 5, 2) := by decide +kernel
theorem d_L_law_830 : decode c_L_law 830 = .ok (.ifCond .ne 15, 3) := by decide +kernel
theorem d_L_law_833 : decode c_L_law 833 = .ok (.aload_n 3, 1) := by decide +kernel
theorem d_L_law_834 : decode c_L_law 834 = .ok (.iconst 0, 1) := by decide +kernel
theorem d_L_law_835 : decode c_L_law 835 = .ok (.laload, 1) := by decide +kernel
theorem d_L_law_836 : decode c_L_law 836 = .ok (.iload 6, 2) := by decide +kernel
theorem d_L_law_838 : decode c_L_law 838 = .ok (.i2l, 1) := by decide +kernel
theorem d_L_law_839 : decode c_L_law 839 = .ok (.lcmp, 1) := by decide +kernel
theorem d_L_law_840 : decode c_L_law 840 = .ok (.ifCond .eq 5, 3) := by decide +kernel
theorem d_L_law_843 : decode c_L_law 843 = .ok (.iconst 0, 1) := by decide +kernel
theorem d_L_law_844 : decode c_L_law 844 = .ok (.ireturn, 1) := by decide +kernel
theorem d_L_law_845 : decode c_L_law 845 = .ok (.goto 209, 3) := by decide +kernel
theorem d_L_law_848 : decode c_L_law 848 = .ok (.aload_n 1, 1) := by decide +kernel
theorem d_L_law_849 : decode c_L_law 849 = .ok (.aload_n 0, 1) := by decide +kernel
theorem d_L_law_850 : decode c_L_law 850 = .ok (.iload 4, 2) := by decide +kernel
theorem d_L_law_852 : decode c_L_law 852 = .ok (.iconst 1, 1) := by decide +kernel
theorem d_L_law_853 : decode c_L_law 853 = .ok (.iadd, 1) := by decide +kernel
theorem d_L_law_854 : decode c_L_law 854 = .ok (.iaload, 1) := by decide +kernel
theorem d_L_law_855 : decode c_L_law 855 = .ok (.aload_n 3, 1) := by decide +kernel
theorem d_L_law_856 : decode c_L_law 856 = .ok (.invokestatic 121, 3) := by decide +kernel
theorem d_L_law_859 : decode c_L_law 859 = .ok (.istore 5, 2) := by decide +kernel
theorem d_L_law_861 : decode c_L_law 861 = .ok (.aload_n 2, 1) := by decide +kernel
theorem d_L_law_862 : decode c_L_law 862 = .ok (.aload_n 0, 1) := by decide +kernel
theorem d_L_law_863 : decode c_L_law 863 = .ok (.iload 4, 2) := by decide +kernel
theorem d_L_law_865 : decode c_L_law 865 = .ok (.iconst 1, 1) := by decide +kernel
theorem d_L_law_866 : decode c_L_law 866 = .ok (.iadd, 1) := by decide +kernel
theorem d_L_law_867 : decode c_L_law 867 = .ok (.iaload, 1) := by decide +kernel
theorem d_L_law_868 : decode c_L_law 868 = .ok (.invokevirtual 123, 3) := by decide +kernel
theorem d_L_law_871 : decode c_L_law 871 = .ok (.istore 6, 2) := by decide +kernel
theorem d_L_law_873 : decode c_L_law 873 = .ok (.aload_n 2, 1) := by decide +kernel
theorem d_L_law_874 : decode c_L_law 874 = .ok (.invokevirtual 79, 3) := by decide +kernel
theorem d_L_law_877 : decode c_L_law 877 = .ok (.iload 5, 2) := by decide +kernel
theorem d_L_law_879 : decode c_L_law 879 = .ok (.if_icmp .eq 5, 3) := by decide +kernel
theorem d_L_law_882 : decode c_L_law 882 = .ok (.iconst 0, 1) := by decide +kernel
theorem d_L_law_883 : decode c_L_law 883 = .ok (.ireturn, 1) := by decide +kernel
theorem d_L_law_884 : decode c_L_law 884 = .ok (.iload 5, 2) := by decide +kernel
theorem d_L_law_886 : decode c_L_law 886 = .ok (.ifCond .ne 15, 3) := by decide +kernel
theorem d_L_law_889 : decode c_L_law 889 = .ok (.aload_n 3, 1) := by decide +kernel
theorem d_L_law_890 : decode c_L_law 890 = .ok (.iconst 0, 1) := by decide +kernel
theorem d_L_law_891 : decode c_L_law 891 = .ok (.laload, 1) := by decide +kernel
theorem d_L_law_892 : decode c_L_law 892 = .ok (.iload 6, 2) := by decide +kernel
theorem d_L_law_894 : decode c_L_law 894 = .ok (.i2l, 1) := by decide +kernel
theorem d_L_law_895 : decode c_L_law 895 = .ok (.lcmp, 1) := by decide +kernel
theorem d_L_law_896 : decode c_L_law 896 = .ok (.ifCond .eq 5, 3) := by decide +kernel
theorem d_L_law_899 : decode c_L_law 899 = .ok (.iconst 0, 1) := by decide +kernel
theorem d_L_law_900 : decode c_L_law 900 = .ok (.ireturn, 1) := by decide +kernel
theorem d_L_law_901 : decode c_L_law 901 = .ok (.goto 153, 3) := by decide +kernel
theorem d_L_law_904 : decode c_L_law 904 = .ok (.aload_n 1, 1) := by decide +kernel
theorem d_L_law_905 : decode c_L_law 905 = .ok (.aload_n 0, 1) := by decide +kernel
theorem d_L_law_906 : decode c_L_law 906 = .ok (.iload 4, 2) := by decide +kernel
theorem d_L_law_908 : decode c_L_law 908 = .ok (.iconst 1, 1) := by decide +kernel
theorem d_L_law_909 : decode c_L_law 909 = .ok (.iadd, 1) := by decide +kernel
theorem d_L_law_910 : decode c_L_law 910 = .ok (.iaload, 1) := by decide +kernel
theorem d_L_law_911 : decode c_L_law 911 = .ok (.aload_n 3, 1) := by decide +kernel
theorem d_L_law_912 : decode c_L_law 912 = .ok (.invokestatic 124, 3) := by decide +kernel
theorem d_L_law_915 : decode c_L_law 915 = .ok (.istore 5, 2) := by decide +kernel
theorem d_L_law_917 : decode c_L_law 917 = .ok (.aload_n 2, 1) := by decide +kernel
theorem d_L_law_918 : decode c_L_law 918 = .ok (.aload_n 0, 1) := by decide +kernel
theorem d_L_law_919 : decode c_L_law 919 = .ok (.iload 4, 2) := by decide +kernel
theorem d_L_law_921 : decode c_L_law 921 = .ok (.iconst 1, 1) := by decide +kernel
theorem d_L_law_922 : decode c_L_law 922 = .ok (.iadd, 1) := by decide +kernel
theorem d_L_law_923 : decode c_L_law 923 = .ok (.iaload, 1) := by decide +kernel
theorem d_L_law_924 : decode c_L_law 924 = .ok (.invokevirtual 126, 3) := by decide +kernel
theorem d_L_law_927 : decode c_L_law 927 = .ok (.istore 6, 2) := by decide +kernel
theorem d_L_law_929 : decode c_L_law 929 = .ok (.aload_n 2, 1) := by decide +kernel
theorem d_L_law_930 : decode c_L_law 930 = .ok (.invokevirtual 79, 3) := by decide +kernel
theorem d_L_law_933 : decode c_L_law 933 = .ok (.iload 5, 2) := by decide +kernel
theorem d_L_law_935 : decode c_L_law 935 = .ok (.if_icmp .eq 5, 3) := by decide +kernel
theorem d_L_law_938 : decode c_L_law 938 = .ok (.iconst 0, 1) := by decide +kernel
theorem d_L_law_939 : decode c_L_law 939 = .ok (.ireturn, 1) := by decide +kernel
theorem d_L_law_940 : decode c_L_law 940 = .ok (.iload 5, 2) := by decide +kernel
theorem d_L_law_942 : decode c_L_law 942 = .ok (.ifCond .ne 15, 3) := by decide +kernel
theorem d_L_law_945 : decode c_L_law 945 = .ok (.aload_n 3, 1) := by decide +kernel
theorem d_L_law_946 : decode c_L_law 946 = .ok (.iconst 0, 1) := by decide +kernel
theorem d_L_law_947 : decode c_L_law 947 = .ok (.laload, 1) := by decide +kernel
theorem d_L_law_948 : decode c_L_law 948 = .ok (.iload 6, 2) := by decide +kernel
theorem d_L_law_950 : decode c_L_law 950 = .ok (.i2l, 1) := by decide +kernel
theorem d_L_law_951 : decode c_L_law 951 = .ok (.lcmp, 1) := by decide +kernel
theorem d_L_law_952 : decode c_L_law 952 = .ok (.ifCond .eq 5, 3) := by decide +kernel
theorem d_L_law_955 : decode c_L_law 955 = .ok (.iconst 0, 1) := by decide +kernel
theorem d_L_law_956 : decode c_L_law 956 = .ok (.ireturn, 1) := by decide +kernel
theorem d_L_law_957 : decode c_L_law 957 = .ok (.goto 97, 3) := by decide +kernel
theorem d_L_law_960 : decode c_L_law 960 = .ok (.aload_n 1, 1) := by decide +kernel
theorem d_L_law_961 : decode c_L_law 961 = .ok (.aload_n 0, 1) := by decide +kernel
theorem d_L_law_962 : decode c_L_law 962 = .ok (.iload 4, 2) := by decide +kernel
theorem d_L_law_964 : decode c_L_law 964 = .ok (.iconst 1, 1) := by decide +kernel
theorem d_L_law_965 : decode c_L_law 965 = .ok (.iadd, 1) := by decide +kernel
theorem d_L_law_966 : decode c_L_law 966 = .ok (.iaload, 1) := by decide +kernel
theorem d_L_law_967 : decode c_L_law 967 = .ok (.aload_n 0, 1) := by decide +kernel
theorem d_L_law_968 : decode c_L_law 968 = .ok (.iload 4, 2) := by decide +kernel
theorem d_L_law_970 : decode c_L_law 970 = .ok (.iconst 2, 1) := by decide +kernel
theorem d_L_law_971 : decode c_L_law 971 = .ok (.iadd, 1) := by decide +kernel
theorem d_L_law_972 : decode c_L_law 972 = .ok (.iaload, 1) := by decide +kernel
theorem d_L_law_973 : decode c_L_law 973 = .ok (.aload_n 3, 1) := by decide +kernel
theorem d_L_law_974 : decode c_L_law 974 = .ok (.invokestatic 127, 3) := by decide +kernel
theorem d_L_law_977 : decode c_L_law 977 = .ok (.istore 5, 2) := by decide +kernel
theorem d_L_law_979 : decode c_L_law 979 = .ok (.aload_n 2, 1) := by decide +kernel
theorem d_L_law_980 : decode c_L_law 980 = .ok (.aload_n 0, 1) := by decide +kernel
theorem d_L_law_981 : decode c_L_law 981 = .ok (.iload 4, 2) := by decide +kernel
theorem d_L_law_983 : decode c_L_law 983 = .ok (.iconst 1, 1) := by decide +kernel
theorem d_L_law_984 : decode c_L_law 984 = .ok (.iadd, 1) := by decide +kernel
theorem d_L_law_985 : decode c_L_law 985 = .ok (.iaload, 1) := by decide +kernel
theorem d_L_law_986 : decode c_L_law 986 = .ok (.aload_n 0, 1) := by decide +kernel
theorem d_L_law_987 : decode c_L_law 987 = .ok (.iload 4, 2) := by decide +kernel
theorem d_L_law_989 : decode c_L_law 989 = .ok (.iconst 2, 1) := by decide +kernel
theorem d_L_law_990 : decode c_L_law 990 = .ok (.iadd, 1) := by decide +kernel
theorem d_L_law_991 : decode c_L_law 991 = .ok (.iaload, 1) := by decide +kernel
theorem d_L_law_992 : decode c_L_law 992 = .ok (.invokevirtual 129, 3) := by decide +kernel
theorem d_L_law_995 : decode c_L_law 995 = .ok (.istore 6, 2) := by decide +kernel
theorem d_L_law_997 : decode c_L_law 997 = .ok (.aload_n 2, 1) := by decide +kernel
theorem d_L_law_998 : decode c_L_law 998 = .ok (.invokevirtual 79, 3) := by decide +kernel
theorem d_L_law_1001 : decode c_L_law 1001 = .ok (.iload 5, 2) := by decide +kernel
theorem d_L_law_1003 : decode c_L_law 1003 = .ok (.if_icmp .eq 5, 3) := by decide +kernel
theorem d_L_law_1006 : decode c_L_law 1006 = .ok (.iconst 0, 1) := by decide +kernel
theorem d_L_law_1007 : decode c_L_law 1007 = .ok (.ireturn, 1) := by decide +kernel
theorem d_L_law_1008 : decode c_L_law 1008 = .ok (.iload 5, 2) := by decide +kernel
theorem d_L_law_1010 : decode c_L_law 1010 = .ok (.ifCond .ne 15, 3) := by decide +kernel
theorem d_L_law_1013 : decode c_L_law 1013 = .ok (.aload_n 3, 1) := by decide +kernel
theorem d_L_law_1014 : decode c_L_law 1014 = .ok (.iconst 0, 1) := by decide +kernel
theorem d_L_law_1015 : decode c_L_law 1015 = .ok (.laload, 1) := by decide +kernel
theorem d_L_law_1016 : decode c_L_law 1016 = .ok (.iload 6, 2) := by decide +kernel
theorem d_L_law_1018 : decode c_L_law 1018 = .ok (.i2l, 1) := by decide +kernel
theorem d_L_law_1019 : decode c_L_law 1019 = .ok (.lcmp, 1) := by decide +kernel
theorem d_L_law_1020 : decode c_L_law 1020 = .ok (.ifCond .eq 5, 3) := by decide +kernel
theorem d_L_law_1023 : decode c_L_law 1023 = .ok (.iconst 0, 1) := by decide +kernel
theorem d_L_law_1024 : decode c_L_law 1024 = .ok (.ireturn, 1) := by decide +kernel
theorem d_L_law_1025 : decode c_L_law 1025 = .ok (.goto 29, 3) := by decide +kernel
theorem d_L_law_1028 : decode c_L_law 1028 = .ok (.aload_n 1, 1) := by decide +kernel
theorem d_L_law_1029 : decode c_L_law 1029 = .ok (.invokevirtual 130, 3) := by decide +kernel
theorem d_L_law_1032 : decode c_L_law 1032 = .ok (.aload_n 2, 1) := by decide +kernel
theorem d_L_law_1033 : decode c_L_law 1033 = .ok (.invokevirtual 133, 3) := by decide +kernel
theorem d_L_law_1036 : decode c_L_law 1036 = .ok (.if_icmp .eq 18, 3) := by decide +kernel
theorem d_L_law_1039 : decode c_L_law 1039 = .ok (.iconst 0, 1) := by decide +kernel
theorem d_L_law_1040 : decode c_L_law 1040 = .ok (.ireturn, 1) := by decide +kernel
theorem d_L_law_1041 : decode c_L_law 1041 = .ok (.aload_n 1, 1) := by decide +kernel
theorem d_L_law_1042 : decode c_L_law 1042 = .ok (.invokevirtual 134, 3) := by decide +kernel
theorem d_L_law_1045 : decode c_L_law 1045 = .ok (.aload_n 2, 1) := by decide +kernel
theorem d_L_law_1046 : decode c_L_law 1046 = .ok (.invokevirtual 137, 3) := by decide +kernel
theorem d_L_law_1049 : decode c_L_law 1049 = .ok (.if_icmp .eq 5, 3) := by decide +kernel
theorem d_L_law_1052 : decode c_L_law 1052 = .ok (.iconst 0, 1) := by decide +kernel
theorem d_L_law_1053 : decode c_L_law 1053 = .ok (.ireturn, 1) := by decide +kernel
theorem d_L_law_1054 : decode c_L_law 1054 = .ok (.iinc 4 4, 3) := by decide +kernel
theorem d_L_law_1057 : decode c_L_law 1057 = .ok (.goto (-1024), 3) := by decide +kernel
theorem d_L_law_1060 : decode c_L_law 1060 = .ok (.iconst 1, 1) := by decide +kernel
theorem d_L_law_1061 : decode c_L_law 1061 = .ok (.ireturn, 1) := by decide +kernel
