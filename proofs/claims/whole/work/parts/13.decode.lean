theorem dX5_choose_127 : decode cX5_choose 127 = .ok (.iload_n 2, 1) := by decide +kernel
theorem dX5_choose_128 : decode cX5_choose 128 = .ok (.aload_n 0, 1) := by decide +kernel
theorem dX5_choose_129 : decode cX5_choose 129 = .ok (.getfield 15, 3) := by decide +kernel
theorem dX5_choose_132 : decode cX5_choose 132 = .ok (.iload 4, 2) := by decide +kernel
theorem dX5_choose_134 : decode cX5_choose 134 = .ok (.iaload, 1) := by decide +kernel
theorem dX5_choose_135 : decode cX5_choose 135 = .ok (.isub, 1) := by decide +kernel
theorem dX5_choose_136 : decode cX5_choose 136 = .ok (.iconst 0, 1) := by decide +kernel
theorem dX5_choose_137 : decode cX5_choose 137 = .ok (.invokestatic 80, 3) := by decide +kernel
theorem dX5_choose_140 : decode cX5_choose 140 = .ok (.goto 4, 3) := by decide +kernel
theorem dX5_choose_143 : decode cX5_choose 143 = .ok (.iload_n 2, 1) := by decide +kernel
theorem dX5_choose_144 : decode cX5_choose 144 = .ok (.istore_n 2, 1) := by decide +kernel
theorem dX5_choose_145 : decode cX5_choose 145 = .ok (.iinc 4 1, 3) := by decide +kernel
theorem dX5_choose_148 : decode cX5_choose 148 = .ok (.goto (-110), 3) := by decide +kernel
theorem dX5_choose_151 : decode cX5_choose 151 = .ok (.iconst 1, 1) := by decide +kernel
theorem dX5_choose_152 : decode cX5_choose 152 = .ok (.ireturn, 1) := by decide +kernel
theorem dX5_countWays_0 : decode cX5_countWays 0 = .ok (.aload_n 1, 1) := by decide +kernel
theorem dX5_countWays_1 : decode cX5_countWays 1 = .ok (.getfield 24, 3) := by decide +kernel
theorem dX5_countWays_4 : decode cX5_countWays 4 = .ok (.iload_n 2, 1) := by decide +kernel
theorem dX5_countWays_5 : decode cX5_countWays 5 = .ok (.iaload, 1) := by decide +kernel
theorem dX5_countWays_6 : decode cX5_countWays 6 = .ok (.istore_n 3, 1) := by decide +kernel
theorem dX5_countWays_7 : decode cX5_countWays 7 = .ok (.aload_n 1, 1) := by decide +kernel
theorem dX5_countWays_8 : decode cX5_countWays 8 = .ok (.getfield 33, 3) := by decide +kernel
theorem dX5_countWays_11 : decode cX5_countWays 11 = .ok (.iload_n 2, 1) := by decide +kernel
theorem dX5_countWays_12 : decode cX5_countWays 12 = .ok (.iaload, 1) := by decide +kernel
theorem dX5_countWays_13 : decode cX5_countWays 13 = .ok (.istore 4, 2) := by decide +kernel
theorem dX5_countWays_15 : decode cX5_countWays 15 = .ok (.iload 4, 2) := by decide +kernel
theorem dX5_countWays_17 : decode cX5_countWays 17 = .ok (.ifCond .le 15, 3) := by decide +kernel
theorem dX5_countWays_20 : decode cX5_countWays 20 = .ok (.aload_n 1, 1) := by decide +kernel
theorem dX5_countWays_21 : decode cX5_countWays 21 = .ok (.getfield 44, 3) := by decide +kernel
theorem dX5_countWays_24 : decode cX5_countWays 24 = .ok (.iload_n 3, 1) := by decide +kernel
theorem dX5_countWays_25 : decode cX5_countWays 25 = .ok (.iaload, 1) := by decide +kernel
theorem dX5_countWays_26 : decode cX5_countWays 26 = .ok (.iconst 2, 1) := by decide +kernel
theorem dX5_countWays_27 : decode cX5_countWays 27 = .ok (.if_icmp .ne 5, 3) := by decide +kernel
theorem dX5_countWays_30 : decode cX5_countWays 30 = .ok (.iconst 1, 1) := by decide +kernel
theorem dX5_countWays_31 : decode cX5_countWays 31 = .ok (.ireturn, 1) := by decide +kernel
theorem dX5_countWays_32 : decode cX5_countWays 32 = .ok (.aload_n 0, 1) := by decide +kernel
theorem dX5_countWays_33 : decode cX5_countWays 33 = .ok (.aload_n 1, 1) := by decide +kernel
theorem dX5_countWays_34 : decode cX5_countWays 34 = .ok (.iload_n 3, 1) := by decide +kernel
theorem dX5_countWays_35 : decode cX5_countWays 35 = .ok (.iload 4, 2) := by decide +kernel
theorem dX5_countWays_37 : decode cX5_countWays 37 = .ok (.aload_n 1, 1) := by decide +kernel
theorem dX5_countWays_38 : decode cX5_countWays 38 = .ok (.getfield 29, 3) := by decide +kernel
theorem dX5_countWays_41 : decode cX5_countWays 41 = .ok (.invokevirtual 40, 3) := by decide +kernel
theorem dX5_countWays_44 : decode cX5_countWays 44 = .ok (.istore 5, 2) := by decide +kernel
theorem dX5_countWays_46 : decode cX5_countWays 46 = .ok (.iload 5, 2) := by decide +kernel
theorem dX5_countWays_48 : decode cX5_countWays 48 = .ok (.ifCond .ge 5, 3) := by decide +kernel
theorem dX5_countWays_51 : decode cX5_countWays 51 = .ok (.iconst 0, 1) := by decide +kernel
theorem dX5_countWays_52 : decode cX5_countWays 52 = .ok (.ireturn, 1) := by decide +kernel
theorem dX5_countWays_53 : decode cX5_countWays 53 = .ok (.iconst 0, 1) := by decide +kernel
theorem dX5_countWays_54 : decode cX5_countWays 54 = .ok (.istore 6, 2) := by decide +kernel
theorem dX5_countWays_56 : decode cX5_countWays 56 = .ok (.iload 6, 2) := by decide +kernel
theorem dX5_countWays_58 : decode cX5_countWays 58 = .ok (.iload 5, 2) := by decide +kernel
theorem dX5_countWays_60 : decode cX5_countWays 60 = .ok (.if_icmp .gt 26, 3) := by decide +kernel
theorem dX5_countWays_63 : decode cX5_countWays 63 = .ok (.aload_n 0, 1) := by decide +kernel
theorem dX5_countWays_64 : decode cX5_countWays 64 = .ok (.getfield 21, 3) := by decide +kernel
theorem dX5_countWays_67 : decode cX5_countWays 67 = .ok (.iload 6, 2) := by decide +kernel
theorem dX5_countWays_69 : decode cX5_countWays 69 = .ok (.iload 6, 2) := by decide +kernel
theorem dX5_countWays_71 : decode cX5_countWays 71 = .ok (.ifCond .ne 7, 3) := by decide +kernel
theorem dX5_countWays_74 : decode cX5_countWays 74 = .ok (.iconst 1, 1) := by decide +kernel
theorem dX5_countWays_75 : decode cX5_countWays 75 = .ok (.goto 4, 3) := by decide +kernel
theorem dX5_countWays_78 : decode cX5_countWays 78 = .ok (.iconst 0, 1) := by decide +kernel
theorem dX5_countWays_79 : decode cX5_countWays 79 = .ok (.iastore, 1) := by decide +kernel
theorem dX5_countWays_80 : decode cX5_countWays 80 = .ok (.iinc 6 1, 3) := by decide +kernel
theorem dX5_countWays_83 : decode cX5_countWays 83 = .ok (.goto (-27), 3) := by decide +kernel
theorem dX5_countWays_86 : decode cX5_countWays 86 = .ok (.iconst 0, 1) := by decide +kernel
theorem dX5_countWays_87 : decode cX5_countWays 87 = .ok (.istore 6, 2) := by decide +kernel
theorem dX5_countWays_89 : decode cX5_countWays 89 = .ok (.iload 6, 2) := by decide +kernel
theorem dX5_countWays_91 : decode cX5_countWays 91 = .ok (.aload_n 0, 1) := by decide +kernel
theorem dX5_countWays_92 : decode cX5_countWays 92 = .ok (.getfield 51, 3) := by decide +kernel
theorem dX5_countWays_95 : decode cX5_countWays 95 = .ok (.if_icmp .ge 65, 3) := by decide +kernel
theorem dX5_countWays_98 : decode cX5_countWays 98 = .ok (.iload 5, 2) := by decide +kernel
theorem dX5_countWays_100 : decode cX5_countWays 100 = .ok (.istore 7, 2) := by decide +kernel
theorem dX5_countWays_102 : decode cX5_countWays 102 = .ok (.iload 7, 2) := by decide +kernel
theorem dX5_countWays_104 : decode cX5_countWays 104 = .ok (.aload_n 0, 1) := by decide +kernel
theorem dX5_countWays_105 : decode cX5_countWays 105 = .ok (.getfield 15, 3) := by decide +kernel
theorem dX5_countWays_108 : decode cX5_countWays 108 = .ok (.iload 6, 2) := by decide +kernel
theorem dX5_countWays_110 : decode cX5_countWays 110 = .ok (.iaload, 1) := by decide +kernel
theorem dX5_countWays_111 : decode cX5_countWays 111 = .ok (.if_icmp .lt 43, 3) := by decide +kernel
theorem dX5_countWays_114 : decode cX5_countWays 114 = .ok (.aload_n 0, 1) := by decide +kernel
theorem dX5_countWays_115 : decode cX5_countWays 115 = .ok (.getfield 21, 3) := by decide +kernel
theorem dX5_countWays_118 : decode cX5_countWays 118 = .ok (.iload 7, 2) := by decide +kernel
theorem dX5_countWays_120 : decode cX5_countWays 120 = .ok (.iconst 2, 1) := by decide +kernel
theorem dX5_countWays_121 : decode cX5_countWays 121 = .ok (.aload_n 0, 1) := by decide +kernel
theorem dX5_countWays_122 : decode cX5_countWays 122 = .ok (.getfield 21, 3) := by decide +kernel
theorem dX5_countWays_125 : decode cX5_countWays 125 = .ok (.iload 7, 2) := by decide +kernel
theorem dX5_countWays_127 : decode cX5_countWays 127 = .ok (.iaload, 1) := by decide +kernel
theorem dX5_countWays_128 : decode cX5_countWays 128 = .ok (.aload_n 0, 1) := by decide +kernel
theorem dX5_countWays_129 : decode cX5_countWays 129 = .ok (.getfield 21, 3) := by decide +kernel
theorem dX5_countWays_132 : decode cX5_countWays 132 = .ok (.iload 7, 2) := by decide +kernel
theorem dX5_countWays_134 : decode cX5_countWays 134 = .ok (.aload_n 0, 1) := by decide +kernel
theorem dX5_countWays_135 : decode cX5_countWays 135 = .ok (.getfield 15, 3) := by decide +kernel
theorem dX5_countWays_138 : decode cX5_countWays 138 = .ok (.iload 6, 2) := by decide +kernel
theorem dX5_countWays_140 : decode cX5_countWays 140 = .ok (.iaload, 1) := by decide +kernel
theorem dX5_countWays_141 : decode cX5_countWays 141 = .ok (.isub, 1) := by decide +kernel
theorem dX5_countWays_142 : decode cX5_countWays 142 = .ok (.iaload, 1) := by decide +kernel
theorem dX5_countWays_143 : decode cX5_countWays 143 = .ok (.iadd, 1) := by decide +kernel
theorem dX5_countWays_144 : decode cX5_countWays 144 = .ok (.invokestatic 61, 3) := by decide +kernel
theorem dX5_countWays_147 : decode cX5_countWays 147 = .ok (.iastore, 1) := by decide +kernel
theorem dX5_countWays_148 : decode cX5_countWays 148 = .ok (.iinc 7 (-1), 3) := by decide +kernel
theorem dX5_countWays_151 : decode cX5_countWays 151 = .ok (.goto (-49), 3) := by decide +kernel
theorem dX5_countWays_154 : decode cX5_countWays 154 = .ok (.iinc 6 1, 3) := by decide +kernel
theorem dX5_countWays_157 : decode cX5_countWays 157 = .ok (.goto (-68), 3) := by decide +kernel
theorem dX5_countWays_160 : decode cX5_countWays 160 = .ok (.aload_n 0, 1) := by decide +kernel
theorem dX5_countWays_161 : decode cX5_countWays 161 = .ok (.getfield 21, 3) := by decide +kernel
theorem dX5_countWays_164 : decode cX5_countWays 164 = .ok (.iload 5, 2) := by decide +kernel
theorem dX5_countWays_166 : decode cX5_countWays 166 = .ok (.iaload, 1) := by decide +kernel
theorem dX5_countWays_167 : decode cX5_countWays 167 = .ok (.ireturn, 1) := by decide +kernel
theorem dX5_needsSigns_0 : decode cX5_needsSigns 0 = .ok (.aload_n 1, 1) := by decide +kernel
theorem dX5_needsSigns_1 : decode cX5_needsSigns 1 = .ok (.getfield 24, 3) := by decide +kernel
theorem dX5_needsSigns_4 : decode cX5_needsSigns 4 = .ok (.iload_n 2, 1) := by decide +kernel
theorem dX5_needsSigns_5 : decode cX5_needsSigns 5 = .ok (.iaload, 1) := by decide +kernel
theorem dX5_needsSigns_6 : decode cX5_needsSigns 6 = .ok (.istore_n 3, 1) := by decide +kernel
theorem dX5_needsSigns_7 : decode cX5_needsSigns 7 = .ok (.aload_n 1, 1) := by decide +kernel
theorem dX5_needsSigns_8 : decode cX5_needsSigns 8 = .ok (.iload_n 2, 1) := by decide +kernel
theorem dX5_needsSigns_9 : decode cX5_needsSigns 9 = .ok (.invokevirtual 83, 3) := by decide +kernel
theorem dX5_needsSigns_12 : decode cX5_needsSigns 12 = .ok (.ifCond .eq 19, 3) := by decide +kernel
theorem dX5_needsSigns_15 : decode cX5_needsSigns 15 = .ok (.aload_n 1, 1) := by decide +kernel
theorem dX5_needsSigns_16 : decode cX5_needsSigns 16 = .ok (.getfield 44, 3) := by decide +kernel
theorem dX5_needsSigns_19 : decode cX5_needsSigns 19 = .ok (.iload_n 3, 1) := by decide +kernel
theorem dX5_needsSigns_20 : decode cX5_needsSigns 20 = .ok (.iaload, 1) := by decide +kernel
theorem dX5_needsSigns_21 : decode cX5_needsSigns 21 = .ok (.iconst 2, 1) := by decide +kernel
theorem dX5_needsSigns_22 : decode cX5_needsSigns 22 = .ok (.if_icmp .eq 7, 3) := by decide +kernel
theorem dX5_needsSigns_25 : decode cX5_needsSigns 25 = .ok (.iconst 1, 1) := by decide +kernel
theorem dX5_needsSigns_26 : decode cX5_needsSigns 26 = .ok (.goto 4, 3) := by decide +kernel
theorem dX5_needsSigns_29 : decode cX5_needsSigns 29 = .ok (.iconst 0, 1) := by decide +kernel
theorem dX5_needsSigns_30 : decode cX5_needsSigns 30 = .ok (.ireturn, 1) := by decide +kernel
theorem dX5_needsSigns_31 : decode cX5_needsSigns 31 = .ok (.aload_n 0, 1) := by decide +kernel
theorem dX5_needsSigns_32 : decode cX5_needsSigns 32 = .ok (.aload_n 1, 1) := by decide +kernel
theorem dX5_needsSigns_33 : decode cX5_needsSigns 33 = .ok (.iload_n 2, 1) := by decide +kernel
theorem dX5_needsSigns_34 : decode cX5_needsSigns 34 = .ok (.aload_n 1, 1) := by decide +kernel
theorem dX5_needsSigns_35 : decode cX5_needsSigns 35 = .ok (.getfield 33, 3) := by decide +kernel
theorem dX5_needsSigns_38 : decode cX5_needsSigns 38 = .ok (.iload_n 2, 1) := by decide +kernel
theorem dX5_needsSigns_39 : decode cX5_needsSigns 39 = .ok (.iaload, 1) := by decide +kernel
theorem dX5_needsSigns_40 : decode cX5_needsSigns 40 = .ok (.invokevirtual 86, 3) := by decide +kernel
theorem dX5_needsSigns_43 : decode cX5_needsSigns 43 = .ok (.ifCond .ne 5, 3) := by decide +kernel
theorem dX5_needsSigns_46 : decode cX5_needsSigns 46 = .ok (.iconst 1, 1) := by decide +kernel
theorem dX5_needsSigns_47 : decode cX5_needsSigns 47 = .ok (.ireturn, 1) := by decide +kernel
theorem dX5_needsSigns_48 : decode cX5_needsSigns 48 = .ok (.iconst 0, 1) := by decide +kernel
theorem dX5_needsSigns_49 : decode cX5_needsSigns 49 = .ok (.istore 4, 2) := by decide +kernel
theorem dX5_needsSigns_51 : decode cX5_needsSigns 51 = .ok (.iload 4, 2) := by decide +kernel
theorem dX5_needsSigns_53 : decode cX5_needsSigns 53 = .ok (.aload_n 0, 1) := by decide +kernel
theorem dX5_needsSigns_54 : decode cX5_needsSigns 54 = .ok (.getfield 51, 3) := by decide +kernel
theorem dX5_needsSigns_57 : decode cX5_needsSigns 57 = .ok (.if_icmp .ge 30, 3) := by decide +kernel
theorem dX5_needsSigns_60 : decode cX5_needsSigns 60 = .ok (.aload_n 0, 1) := by decide +kernel
theorem dX5_needsSigns_61 : decode cX5_needsSigns 61 = .ok (.getfield 11, 3) := by decide +kernel
theorem dX5_needsSigns_64 : decode cX5_needsSigns 64 = .ok (.iload 4, 2) := by decide +kernel
theorem dX5_needsSigns_66 : decode cX5_needsSigns 66 = .ok (.iaload, 1) := by decide +kernel
theorem dX5_needsSigns_67 : decode cX5_needsSigns 67 = .ok (.aload_n 1, 1) := by decide +kernel
theorem dX5_needsSigns_68 : decode cX5_needsSigns 68 = .ok (.getfield 44, 3) := by decide +kernel
theorem dX5_needsSigns_71 : decode cX5_needsSigns 71 = .ok (.iload_n 3, 1) := by decide +kernel
theorem dX5_needsSigns_72 : decode cX5_needsSigns 72 = .ok (.iload 4, 2) := by decide +kernel
theorem dX5_needsSigns_74 : decode cX5_needsSigns 74 = .ok (.iadd, 1) := by decide +kernel
theorem dX5_needsSigns_75 : decode cX5_needsSigns 75 = .ok (.iaload, 1) := by decide +kernel
theorem dX5_needsSigns_76 : decode cX5_needsSigns 76 = .ok (.if_icmp .eq 5, 3) := by decide +kernel
theorem dX5_needsSigns_79 : decode cX5_needsSigns 79 = .ok (.iconst 1, 1) := by decide +kernel
theorem dX5_needsSigns_80 : decode cX5_needsSigns 80 = .ok (.ireturn, 1) := by decide +kernel
theorem dX5_needsSigns_81 : decode cX5_needsSigns 81 = .ok (.iinc 4 1, 3) := by decide +kernel
theorem dX5_needsSigns_84 : decode cX5_needsSigns 84 = .ok (.goto (-33), 3) := by decide +kernel
theorem dX5_needsSigns_87 : decode cX5_needsSigns 87 = .ok (.iconst 0, 1) := by decide +kernel
theorem dX5_needsSigns_88 : decode cX5_needsSigns 88 = .ok (.ireturn, 1) := by decide +kernel
theorem dX6_init_0 : decode cX6_init 0 = .ok (.aload_n 0, 1) := by decide +kernel
theorem dX6_init_1 : decode cX6_init 1 = .ok (.invokespecial 1, 3) := by decide +kernel
theorem dX6_init_4 : decode cX6_init 4 = .ok (.aload_n 0, 1) := by decide +kernel
theorem dX6_init_5 : decode cX6_init 5 = .ok (.new 7, 3) := by decide +kernel
theorem dX6_init_8 : decode cX6_init 8 = .ok (.dup, 1) := by decide +kernel
theorem dX6_init_9 : decode cX6_init 9 = .ok (.invokespecial 9, 3) := by decide +kernel
theorem dX6_init_12 : decode cX6_init 12 = .ok (.putfield 10, 3) := by decide +kernel
theorem dX6_init_15 : decode cX6_init 15 = .ok (.aload_n 0, 1) := by decide +kernel
theorem dX6_init_16 : decode cX6_init 16 = .ok (.new 7, 3) := by decide +kernel
theorem dX6_init_19 : decode cX6_init 19 = .ok (.dup, 1) := by decide +kernel
theorem dX6_init_20 : decode cX6_init 20 = .ok (.invokespecial 9, 3) := by decide +kernel
theorem dX6_init_23 : decode cX6_init 23 = .ok (.putfield 16, 3) := by decide +kernel
theorem dX6_init_26 : decode cX6_init 26 = .ok (.aload_n 0, 1) := by decide +kernel
theorem dX6_init_27 : decode cX6_init 27 = .ok (.new 19, 3) := by decide +kernel
theorem dX6_init_30 : decode cX6_init 30 = .ok (.dup, 1) := by decide +kernel
theorem dX6_init_31 : decode cX6_init 31 = .ok (.invokespecial 21, 3) := by decide +kernel
theorem dX6_init_34 : decode cX6_init 34 = .ok (.putfield 22, 3) := by decide +kernel
theorem dX6_init_37 : decode cX6_init 37 = .ok (.aload_n 0, 1) := by decide +kernel
theorem dX6_init_38 : decode cX6_init 38 = .ok (.new 19, 3) := by decide +kernel
theorem dX6_init_41 : decode cX6_init 41 = .ok (.dup, 1) := by decide +kernel
theorem dX6_init_42 : decode cX6_init 42 = .ok (.invokespecial 21, 3) := by decide +kernel
theorem dX6_init_45 : decode cX6_init 45 = .ok (.putfield 26, 3) := by decide +kernel
theorem dX6_init_48 : decode cX6_init 48 = .ok (.aload_n 0, 1) := by decide +kernel
theorem dX6_init_49 : decode cX6_init 49 = .ok (.new 29, 3) := by decide +kernel
theorem dX6_init_52 : decode cX6_init 52 = .ok (.dup, 1) := by decide +kernel
theorem dX6_init_53 : decode cX6_init 53 = .ok (.invokespecial 31, 3) := by decide +kernel
theorem dX6_init_56 : decode cX6_init 56 = .ok (.putfield 32, 3) := by decide +kernel
theorem dX6_init_59 : decode cX6_init 59 = .ok (.aload_n 0, 1) := by decide +kernel
theorem dX6_init_60 : decode cX6_init 60 = .ok (.new 36, 3) := by decide +kernel
theorem dX6_init_63 : decode cX6_init 63 = .ok (.dup, 1) := by decide +kernel
theorem dX6_init_64 : decode cX6_init 64 = .ok (.aload_n 0, 1) := by decide +kernel
theorem dX6_init_65 : decode cX6_init 65 = .ok (.getfield 32, 3) := by decide +kernel
theorem dX6_init_68 : decode cX6_init 68 = .ok (.invokespecial 38, 3) := by decide +kernel
theorem dX6_init_71 : decode cX6_init 71 = .ok (.putfield 41, 3) := by decide +kernel
theorem dX6_init_74 : decode cX6_init 74 = .ok (.aload_n 0, 1) := by decide +kernel
theorem dX6_init_75 : decode cX6_init 75 = .ok (.new 45, 3) := by decide +kernel
theorem dX6_init_78 : decode cX6_init 78 = .ok (.dup, 1) := by decide +kernel
theorem dX6_init_79 : decode cX6_init 79 = .ok (.aload_n 0, 1) := by decide +kernel
theorem dX6_init_80 : decode cX6_init 80 = .ok (.getfield 32, 3) := by decide +kernel
theorem dX6_init_83 : decode cX6_init 83 = .ok (.invokespecial 47, 3) := by decide +kernel
theorem dX6_init_86 : decode cX6_init 86 = .ok (.putfield 48, 3) := by decide +kernel
theorem dX6_init_89 : decode cX6_init 89 = .ok (.return_, 1) := by decide +kernel
theorem dX6_clear_0 : decode cX6_clear 0 = .ok (.aload_n 0, 1) := by decide +kernel
theorem dX6_clear_1 : decode cX6_clear 1 = .ok (.getfield 10, 3) := by decide +kernel
theorem dX6_clear_4 : decode cX6_clear 4 = .ok (.iconst 0, 1) := by decide +kernel
theorem dX6_clear_5 : decode cX6_clear 5 = .ok (.putfield 52, 3) := by decide +kernel
theorem dX6_clear_8 : decode cX6_clear 8 = .ok (.aload_n 0, 1) := by decide +kernel
theorem dX6_clear_9 : decode cX6_clear 9 = .ok (.getfield 22, 3) := by decide +kernel
theorem dX6_clear_12 : decode cX6_clear 12 = .ok (.sipush 512, 3) := by decide +kernel
theorem dX6_clear_15 : decode cX6_clear 15 = .ok (.invokevirtual 56, 3) := by decide +kernel
theorem dX6_clear_18 : decode cX6_clear 18 = .ok (.return_, 1) := by decide +kernel
theorem dX6_cell_0 : decode cX6_cell 0 = .ok (.iload_n 1, 1) := by decide +kernel
theorem dX6_cell_1 : decode cX6_cell 1 = .ok (.ifCond .lt 9, 3) := by decide +kernel
theorem dX6_cell_4 : decode cX6_cell 4 = .ok (.iload_n 1, 1) := by decide +kernel
theorem dX6_cell_5 : decode cX6_cell 5 = .ok (.bipush 64, 2) := by decide +kernel
theorem dX6_cell_7 : decode cX6_cell 7 = .ok (.if_icmp .le 6, 3) := by decide +kernel
theorem dX6_cell_10 : decode cX6_cell 10 = .ok (.bipush (-2), 2) := by decide +kernel
theorem dX6_cell_12 : decode cX6_cell 12 = .ok (.ireturn, 1) := by decide +kernel
theorem dX6_cell_13 : decode cX6_cell 13 = .ok (.aload_n 0, 1) := by decide +kernel
theorem dX6_cell_14 : decode cX6_cell 14 = .ok (.getfield 10, 3) := by decide +kernel
theorem dX6_cell_17 : decode cX6_cell 17 = .ok (.getfield 52, 3) := by decide +kernel
theorem dX6_cell_20 : decode cX6_cell 20 = .ok (.sipush 4000, 3) := by decide +kernel
theorem dX6_cell_23 : decode cX6_cell 23 = .ok (.if_icmp .lt 6, 3) := by decide +kernel
theorem dX6_cell_26 : decode cX6_cell 26 = .ok (.bipush (-4), 2) := by decide +kernel
theorem dX6_cell_28 : decode cX6_cell 28 = .ok (.ireturn, 1) := by decide +kernel
theorem dX6_cell_29 : decode cX6_cell 29 = .ok (.aload_n 0, 1) := by decide +kernel
theorem dX6_cell_30 : decode cX6_cell 30 = .ok (.getfield 10, 3) := by decide +kernel
theorem dX6_cell_33 : decode cX6_cell 33 = .ok (.iload_n 1, 1) := by decide +kernel
theorem dX6_cell_34 : decode cX6_cell 34 = .ok (.invokevirtual 60, 3) := by decide +kernel
theorem dX6_cell_37 : decode cX6_cell 37 = .ok (.aload_n 0, 1) := by decide +kernel
theorem dX6_cell_38 : decode cX6_cell 38 = .ok (.getfield 10, 3) := by decide +kernel
theorem dX6_cell_41 : decode cX6_cell 41 = .ok (.getfield 52, 3) := by decide +kernel
theorem dX6_cell_44 : decode cX6_cell 44 = .ok (.ireturn, 1) := by decide +kernel
theorem dX6_more_0 : decode cX6_more 0 = .ok (.iconst 0, 1) := by decide +kernel
theorem dX6_more_1 : decode cX6_more 1 = .ok (.istore_n 3, 1) := by decide +kernel
theorem dX6_more_2 : decode cX6_more 2 = .ok (.bipush 56, 2) := by decide +kernel
theorem dX6_more_4 : decode cX6_more 4 = .ok (.istore 4, 2) := by decide +kernel
theorem dX6_more_6 : decode cX6_more 6 = .ok (.iload 4, 2) := by decide +kernel
theorem dX6_more_8 : decode cX6_more 8 = .ok (.ifCond .lt 53, 3) := by decide +kernel
theorem dX6_more_11 : decode cX6_more 11 = .ok (.lload_n 1, 1) := by decide +kernel
theorem dX6_more_12 : decode cX6_more 12 = .ok (.iload 4, 2) := by decide +kernel
theorem dX6_more_14 : decode cX6_more 14 = .ok (.invokestatic 63, 3) := by decide +kernel
theorem dX6_more_17 : decode cX6_more 17 = .ok (.istore 5, 2) := by decide +kernel
theorem dX6_more_19 : decode cX6_more 19 = .ok (.iload 5, 2) := by decide +kernel
theorem dX6_more_21 : decode cX6_more 21 = .ok (.ifCond .eq 21, 3) := by decide +kernel
theorem dX6_more_24 : decode cX6_more 24 = .ok (.iload 5, 2) := by decide +kernel
theorem dX6_more_26 : decode cX6_more 26 = .ok (.bipush 64, 2) := by decide +kernel
theorem dX6_more_28 : decode cX6_more 28 = .ok (.if_icmp .lt 11, 3) := by decide +kernel
theorem dX6_more_31 : decode cX6_more 31 = .ok (.iload 5, 2) := by decide +kernel
theorem dX6_more_33 : decode cX6_more 33 = .ok (.sipush 128, 3) := by decide +kernel
theorem dX6_more_36 : decode cX6_more 36 = .ok (.if_icmp .le 6, 3) := by decide +kernel
theorem dX6_more_39 : decode cX6_more 39 = .ok (.bipush (-2), 2) := by decide +kernel
theorem dX6_more_41 : decode cX6_more 41 = .ok (.ireturn, 1) := by decide +kernel
theorem dX6_more_42 : decode cX6_more 42 = .ok (.iload_n 3, 1) := by decide +kernel
theorem dX6_more_43 : decode cX6_more 43 = .ok (.iload 5, 2) := by decide +kernel
theorem dX6_more_45 : decode cX6_more 45 = .ok (.ifCond .ne 7, 3) := by decide +kernel
theorem dX6_more_48 : decode cX6_more 48 = .ok (.iconst 0, 1) := by decide +kernel
theorem dX6_more_49 : decode cX6_more 49 = .ok (.goto 4, 3) := by decide +kernel
theorem dX6_more_52 : decode cX6_more 52 = .ok (.iconst 1, 1) := by decide +kernel
theorem dX6_more_53 : decode cX6_more 53 = .ok (.iadd, 1) := by decide +kernel
theorem dX6_more_54 : decode cX6_more 54 = .ok (.istore_n 3, 1) := by decide +kernel
theorem dX6_more_55 : decode cX6_more 55 = .ok (.iinc 4 (-8), 3) := by decide +kernel
theorem dX6_more_58 : decode cX6_more 58 = .ok (.goto (-52), 3) := by decide +kernel
theorem dX6_more_61 : decode cX6_more 61 = .ok (.aload_n 0, 1) := by decide +kernel
theorem dX6_more_62 : decode cX6_more 62 = .ok (.getfield 10, 3) := by decide +kernel
theorem dX6_more_65 : decode cX6_more 65 = .ok (.getfield 52, 3) := by decide +kernel
theorem dX6_more_68 : decode cX6_more 68 = .ok (.iload_n 3, 1) := by decide +kernel
theorem dX6_more_69 : decode cX6_more 69 = .ok (.iadd, 1) := by decide +kernel
theorem dX6_more_70 : decode cX6_more 70 = .ok (.sipush 4000, 3) := by decide +kernel
theorem dX6_more_73 : decode cX6_more 73 = .ok (.if_icmp .le 6, 3) := by decide +kernel
theorem dX6_more_76 : decode cX6_more 76 = .ok (.bipush (-4), 2) := by decide +kernel
theorem dX6_more_78 : decode cX6_more 78 = .ok (.ireturn, 1) := by decide +kernel
theorem dX6_more_79 : decode cX6_more 79 = .ok (.bipush 56, 2) := by decide +kernel
theorem dX6_more_81 : decode cX6_more 81 = .ok (.istore 4, 2) := by decide +kernel
theorem dX6_more_83 : decode cX6_more 83 = .ok (.iload 4, 2) := by decide +kernel
theorem dX6_more_85 : decode cX6_more 85 = .ok (.ifCond .lt 34, 3) := by decide +kernel
theorem dX6_more_88 : decode cX6_more 88 = .ok (.lload_n 1, 1) := by decide +kernel
theorem dX6_more_89 : decode cX6_more 89 = .ok (.iload 4, 2) := by decide +kernel
theorem dX6_more_91 : decode cX6_more 91 = .ok (.invokestatic 63, 3) := by decide +kernel
theorem dX6_more_94 : decode cX6_more 94 = .ok (.istore 5, 2) := by decide +kernel
theorem dX6_more_96 : decode cX6_more 96 = .ok (.iload 5, 2) := by decide +kernel
theorem dX6_more_98 : decode cX6_more 98 = .ok (.ifCond .eq 15, 3) := by decide +kernel
theorem dX6_more_101 : decode cX6_more 101 = .ok (.aload_n 0, 1) := by decide +kernel
theorem dX6_more_102 : decode cX6_more 102 = .ok (.getfield 10, 3) := by decide +kernel
theorem dX6_more_105 : decode cX6_more 105 = .ok (.iload 5, 2) := by decide +kernel
theorem dX6_more_107 : decode cX6_more 107 = .ok (.bipush 64, 2) := by decide +kernel
theorem dX6_more_109 : decode cX6_more 109 = .ok (.isub, 1) := by decide +kernel
theorem dX6_more_110 : decode cX6_more 110 = .ok (.invokevirtual 60, 3) := by decide +kernel
theorem dX6_more_113 : decode cX6_more 113 = .ok (.iinc 4 (-8), 3) := by decide +kernel
theorem dX6_more_116 : decode cX6_more 116 = .ok (.goto (-33), 3) := by decide +kernel
theorem dX6_more_119 : decode cX6_more 119 = .ok (.aload_n 0, 1) := by decide +kernel
theorem dX6_more_120 : decode cX6_more 120 = .ok (.getfield 10, 3) := by decide +kernel
theorem dX6_more_123 : decode cX6_more 123 = .ok (.getfield 52, 3) := by decide +kernel
theorem dX6_more_126 : decode cX6_more 126 = .ok (.ireturn, 1) := by decide +kernel
theorem dX6_byteOf_0 : decode cX6_byteOf 0 = .ok (.lload_n 0, 1) := by decide +kernel
theorem dX6_byteOf_1 : decode cX6_byteOf 1 = .ok (.iload_n 2, 1) := by decide +kernel
theorem dX6_byteOf_2 : decode cX6_byteOf 2 = .ok (.lushr, 1) := by decide +kernel
theorem dX6_byteOf_3 : decode cX6_byteOf 3 = .ok (.ldc2_w 67, 3) := by decide +kernel
theorem dX6_byteOf_6 : decode cX6_byteOf 6 = .ok (.land, 1) := by decide +kernel
theorem dX6_byteOf_7 : decode cX6_byteOf 7 = .ok (.l2i, 1) := by decide +kernel
theorem dX6_byteOf_8 : decode cX6_byteOf 8 = .ok (.ireturn, 1) := by decide +kernel
theorem dX6_cut_0 : decode cX6_cut 0 = .ok (.iload_n 1, 1) := by decide +kernel
theorem dX6_cut_1 : decode cX6_cut 1 = .ok (.ifCond .lt 14, 3) := by decide +kernel
theorem dX6_cut_4 : decode cX6_cut 4 = .ok (.iload_n 1, 1) := by decide +kernel
theorem dX6_cut_5 : decode cX6_cut 5 = .ok (.aload_n 0, 1) := by decide +kernel
theorem dX6_cut_6 : decode cX6_cut 6 = .ok (.getfield 10, 3) := by decide +kernel
theorem dX6_cut_9 : decode cX6_cut 9 = .ok (.getfield 52, 3) := by decide +kernel
theorem dX6_cut_12 : decode cX6_cut 12 = .ok (.if_icmp .le 6, 3) := by decide +kernel
theorem dX6_cut_15 : decode cX6_cut 15 = .ok (.bipush (-2), 2) := by decide +kernel
theorem dX6_cut_17 : decode cX6_cut 17 = .ok (.ireturn, 1) := by decide +kernel
theorem dX6_cut_18 : decode cX6_cut 18 = .ok (.aload_n 0, 1) := by decide +kernel
theorem dX6_cut_19 : decode cX6_cut 19 = .ok (.getfield 10, 3) := by decide +kernel
theorem dX6_cut_22 : decode cX6_cut 22 = .ok (.getfield 52, 3) := by decide +kernel
theorem dX6_cut_25 : decode cX6_cut 25 = .ok (.iload_n 1, 1) := by decide +kernel
theorem dX6_cut_26 : decode cX6_cut 26 = .ok (.isub, 1) := by decide +kernel
theorem dX6_cut_27 : decode cX6_cut 27 = .ok (.istore_n 2, 1) := by decide +kernel
theorem dX6_cut_28 : decode cX6_cut 28 = .ok (.aload_n 0, 1) := by decide +kernel
theorem dX6_cut_29 : decode cX6_cut 29 = .ok (.getfield 10, 3) := by decide +kernel
theorem dX6_cut_32 : decode cX6_cut 32 = .ok (.iload_n 1, 1) := by decide +kernel
theorem dX6_cut_33 : decode cX6_cut 33 = .ok (.putfield 52, 3) := by decide +kernel
theorem dX6_cut_36 : decode cX6_cut 36 = .ok (.iload_n 2, 1) := by decide +kernel
theorem dX6_cut_37 : decode cX6_cut 37 = .ok (.ireturn, 1) := by decide +kernel
theorem dX6_at_0 : decode cX6_at 0 = .ok (.aload_n 0, 1) := by decide +kernel
theorem dX6_at_1 : decode cX6_at 1 = .ok (.getfield 10, 3) := by decide +kernel
theorem dX6_at_4 : decode cX6_at 4 = .ok (.iload_n 1, 1) := by decide +kernel
theorem dX6_at_5 : decode cX6_at 5 = .ok (.invokevirtual 69, 3) := by decide +kernel
theorem dX6_at_8 : decode cX6_at 8 = .ok (.ireturn, 1) := by decide +kernel
theorem dX6_read_0 : decode cX6_read 0 = .ok (.aload_n 0, 1) := by decide +kernel
theorem dX6_read_1 : decode cX6_read 1 = .ok (.getfield 26, 3) := by decide +kernel
theorem dX6_read_4 : decode cX6_read 4 = .ok (.aload_n 0, 1) := by decide +kernel
theorem dX6_read_5 : decode cX6_read 5 = .ok (.getfield 22, 3) := by decide +kernel
theorem dX6_read_8 : decode cX6_read 8 = .ok (.getfield 73, 3) := by decide +kernel
theorem dX6_read_11 : decode cX6_read 11 = .ok (.invokevirtual 56, 3) := by decide +kernel
theorem dX6_read_14 : decode cX6_read 14 = .ok (.aload_n 0, 1) := by decide +kernel
theorem dX6_read_15 : decode cX6_read 15 = .ok (.getfield 41, 3) := by decide +kernel
theorem dX6_read_18 : decode cX6_read 18 = .ok (.aload_n 0, 1) := by decide +kernel
theorem dX6_read_19 : decode cX6_read 19 = .ok (.getfield 10, 3) := by decide +kernel
theorem dX6_read_22 : decode cX6_read 22 = .ok (.aload_n 0, 1) := by decide +kernel
theorem dX6_read_23 : decode cX6_read 23 = .ok (.getfield 26, 3) := by decide +kernel
theorem dX6_read_26 : decode cX6_read 26 = .ok (.invokevirtual 76, 3) := by decide +kernel
theorem dX6_read_29 : decode cX6_read 29 = .ok (.istore_n 1, 1) := by decide +kernel
theorem dX6_read_30 : decode cX6_read 30 = .ok (.iload_n 1, 1) := by decide +kernel
theorem dX6_read_31 : decode cX6_read 31 = .ok (.ifCond .lt 21, 3) := by decide +kernel
theorem dX6_read_34 : decode cX6_read 34 = .ok (.aload_n 0, 1) := by decide +kernel
theorem dX6_read_35 : decode cX6_read 35 = .ok (.getfield 22, 3) := by decide +kernel
theorem dX6_read_38 : decode cX6_read 38 = .ok (.astore_n 2, 1) := by decide +kernel
theorem dX6_read_39 : decode cX6_read 39 = .ok (.aload_n 0, 1) := by decide +kernel
theorem dX6_read_40 : decode cX6_read 40 = .ok (.aload_n 0, 1) := by decide +kernel
theorem dX6_read_41 : decode cX6_read 41 = .ok (.getfield 26, 3) := by decide +kernel
theorem dX6_read_44 : decode cX6_read 44 = .ok (.putfield 22, 3) := by decide +kernel
theorem dX6_read_47 : decode cX6_read 47 = .ok (.aload_n 0, 1) := by decide +kernel
theorem dX6_read_48 : decode cX6_read 48 = .ok (.aload_n 2, 1) := by decide +kernel
theorem dX6_read_49 : decode cX6_read 49 = .ok (.putfield 26, 3) := by decide +kernel
theorem dX6_read_52 : decode cX6_read 52 = .ok (.iload_n 1, 1) := by decide +kernel
theorem dX6_read_53 : decode cX6_read 53 = .ok (.ireturn, 1) := by decide +kernel
theorem dX6_meter_0 : decode cX6_meter 0 = .ok (.iload_n 2, 1) := by decide +kernel
theorem dX6_meter_1 : decode cX6_meter 1 = .ok (.iconst 1, 1) := by decide +kernel
theorem dX6_meter_2 : decode cX6_meter 2 = .ok (.if_icmp .eq 25, 3) := by decide +kernel
theorem dX6_meter_5 : decode cX6_meter 5 = .ok (.iload_n 2, 1) := by decide +kernel
theorem dX6_meter_6 : decode cX6_meter 6 = .ok (.iconst 2, 1) := by decide +kernel
theorem dX6_meter_7 : decode cX6_meter 7 = .ok (.if_icmp .eq 20, 3) := by decide +kernel
theorem dX6_meter_10 : decode cX6_meter 10 = .ok (.iload_n 2, 1) := by decide +kernel
theorem dX6_meter_11 : decode cX6_meter 11 = .ok (.iconst 4, 1) := by decide +kernel
theorem dX6_meter_12 : decode cX6_meter 12 = .ok (.if_icmp .eq 15, 3) := by decide +kernel
theorem dX6_meter_15 : decode cX6_meter 15 = .ok (.iload_n 2, 1) := by decide +kernel
theorem dX6_meter_16 : decode cX6_meter 16 = .ok (.bipush 8, 2) := by decide +kernel
theorem dX6_meter_18 : decode cX6_meter 18 = .ok (.if_icmp .eq 9, 3) := by decide +kernel
theorem dX6_meter_21 : decode cX6_meter 21 = .ok (.iload_n 2, 1) := by decide +kernel
theorem dX6_meter_22 : decode cX6_meter 22 = .ok (.bipush 16, 2) := by decide +kernel
theorem dX6_meter_24 : decode cX6_meter 24 = .ok (.if_icmp .ne 7, 3) := by decide +kernel
theorem dX6_meter_27 : decode cX6_meter 27 = .ok (.iconst 1, 1) := by decide +kernel
theorem dX6_meter_28 : decode cX6_meter 28 = .ok (.goto 4, 3) := by decide +kernel
theorem dX6_meter_31 : decode cX6_meter 31 = .ok (.iconst 0, 1) := by decide +kernel
theorem dX6_meter_32 : decode cX6_meter 32 = .ok (.istore_n 3, 1) := by decide +kernel
theorem dX6_meter_33 : decode cX6_meter 33 = .ok (.iload_n 1, 1) := by decide +kernel
theorem dX6_meter_34 : decode cX6_meter 34 = .ok (.iconst 1, 1) := by decide +kernel
theorem dX6_meter_35 : decode cX6_meter 35 = .ok (.if_icmp .lt 13, 3) := by decide +kernel
theorem dX6_meter_38 : decode cX6_meter 38 = .ok (.iload_n 1, 1) := by decide +kernel
theorem dX6_meter_39 : decode cX6_meter 39 = .ok (.bipush 16, 2) := by decide +kernel
theorem dX6_meter_41 : decode cX6_meter 41 = .ok (.if_icmp .gt 7, 3) := by decide +kernel
theorem dX6_meter_44 : decode cX6_meter 44 = .ok (.iload_n 3, 1) := by decide +kernel
theorem dX6_meter_45 : decode cX6_meter 45 = .ok (.ifCond .ne 6, 3) := by decide +kernel
theorem dX6_meter_48 : decode cX6_meter 48 = .ok (.bipush (-2), 2) := by decide +kernel
theorem dX6_meter_50 : decode cX6_meter 50 = .ok (.ireturn, 1) := by decide +kernel
theorem dX6_meter_51 : decode cX6_meter 51 = .ok (.sipush 512, 3) := by decide +kernel
theorem dX6_meter_54 : decode cX6_meter 54 = .ok (.iload_n 1, 1) := by decide +kernel
theorem dX6_meter_55 : decode cX6_meter 55 = .ok (.imul, 1) := by decide +kernel
theorem dX6_meter_56 : decode cX6_meter 56 = .ok (.iload_n 2, 1) := by decide +kernel
theorem dX6_meter_57 : decode cX6_meter 57 = .ok (.idiv, 1) := by decide +kernel
theorem dX6_meter_58 : decode cX6_meter 58 = .ok (.istore 4, 2) := by decide +kernel
theorem dX6_meter_60 : decode cX6_meter 60 = .ok (.iload 4, 2) := by decide +kernel
theorem dX6_meter_62 : decode cX6_meter 62 = .ok (.sipush 2048, 3) := by decide +kernel
theorem dX6_meter_65 : decode cX6_meter 65 = .ok (.if_icmp .le 6, 3) := by decide +kernel
theorem dX6_meter_68 : decode cX6_meter 68 = .ok (.bipush (-2), 2) := by decide +kernel
theorem dX6_meter_70 : decode cX6_meter 70 = .ok (.ireturn, 1) := by decide +kernel
theorem dX6_meter_71 : decode cX6_meter 71 = .ok (.aload_n 0, 1) := by decide +kernel
theorem dX6_meter_72 : decode cX6_meter 72 = .ok (.getfield 22, 3) := by decide +kernel
theorem dX6_meter_75 : decode cX6_meter 75 = .ok (.getfield 80, 3) := by decide +kernel
theorem dX6_meter_78 : decode cX6_meter 78 = .ok (.ifCond .le 6, 3) := by decide +kernel
theorem dX6_meter_81 : decode cX6_meter 81 = .ok (.bipush (-3), 2) := by decide +kernel
theorem dX6_meter_83 : decode cX6_meter 83 = .ok (.ireturn, 1) := by decide +kernel
theorem dX6_meter_84 : decode cX6_meter 84 = .ok (.aload_n 0, 1) := by decide +kernel
theorem dX6_meter_85 : decode cX6_meter 85 = .ok (.getfield 22, 3) := by decide +kernel
theorem dX6_meter_88 : decode cX6_meter 88 = .ok (.iload 4, 2) := by decide +kernel
theorem dX6_meter_90 : decode cX6_meter 90 = .ok (.putfield 73, 3) := by decide +kernel
theorem dX6_meter_93 : decode cX6_meter 93 = .ok (.iload 4, 2) := by decide +kernel
theorem dX6_meter_95 : decode cX6_meter 95 = .ok (.ireturn, 1) := by decide +kernel
theorem dX6_hand_0 : decode cX6_hand 0 = .ok (.iload_n 1, 1) := by decide +kernel
theorem dX6_hand_1 : decode cX6_hand 1 = .ok (.ifCond .lt 8, 3) := by decide +kernel
theorem dX6_hand_4 : decode cX6_hand 4 = .ok (.iload_n 1, 1) := by decide +kernel
theorem dX6_hand_5 : decode cX6_hand 5 = .ok (.iconst 2, 1) := by decide +kernel
theorem dX6_hand_6 : decode cX6_hand 6 = .ok (.if_icmp .le 6, 3) := by decide +kernel
theorem dX6_hand_9 : decode cX6_hand 9 = .ok (.bipush (-2), 2) := by decide +kernel
theorem dX6_hand_11 : decode cX6_hand 11 = .ok (.ireturn, 1) := by decide +kernel
theorem dX6_hand_12 : decode cX6_hand 12 = .ok (.aload_n 0, 1) := by decide +kernel
theorem dX6_hand_13 : decode cX6_hand 13 = .ok (.getfield 22, 3) := by decide +kernel
theorem dX6_hand_16 : decode cX6_hand 16 = .ok (.iload_n 1, 1) := by decide +kernel
theorem dX6_hand_17 : decode cX6_hand 17 = .ok (.invokevirtual 83, 3) := by decide +kernel
theorem dX6_hand_20 : decode cX6_hand 20 = .ok (.ifCond .ne 6, 3) := by decide +kernel
theorem dX6_hand_23 : decode cX6_hand 23 = .ok (.bipush (-3), 2) := by decide +kernel
theorem dX6_hand_25 : decode cX6_hand 25 = .ok (.ireturn, 1) := by decide +kernel
theorem dX6_hand_26 : decode cX6_hand 26 = .ok (.aload_n 0, 1) := by decide +kernel
theorem dX6_hand_27 : decode cX6_hand 27 = .ok (.getfield 22, 3) := by decide +kernel
theorem dX6_hand_30 : decode cX6_hand 30 = .ok (.getfield 87, 3) := by decide +kernel
theorem dX6_hand_33 : decode cX6_hand 33 = .ok (.istore_n 2, 1) := by decide +kernel
theorem dX6_hand_34 : decode cX6_hand 34 = .ok (.aload_n 0, 1) := by decide +kernel
theorem dX6_hand_35 : decode cX6_hand 35 = .ok (.getfield 22, 3) := by decide +kernel
theorem dX6_hand_38 : decode cX6_hand 38 = .ok (.iload_n 1, 1) := by decide +kernel
theorem dX6_hand_39 : decode cX6_hand 39 = .ok (.putfield 87, 3) := by decide +kernel
theorem dX6_hand_42 : decode cX6_hand 42 = .ok (.iload_n 2, 1) := by decide +kernel
theorem dX6_hand_43 : decode cX6_hand 43 = .ok (.ireturn, 1) := by decide +kernel
theorem dX6_bar_0 : decode cX6_bar 0 = .ok (.aload_n 0, 1) := by decide +kernel
theorem dX6_bar_1 : decode cX6_bar 1 = .ok (.getfield 22, 3) := by decide +kernel
theorem dX6_bar_4 : decode cX6_bar 4 = .ok (.invokevirtual 90, 3) := by decide +kernel
theorem dX6_bar_7 : decode cX6_bar 7 = .ok (.ifCond .eq 17, 3) := by decide +kernel
theorem dX6_bar_10 : decode cX6_bar 10 = .ok (.iload_n 1, 1) := by decide +kernel
theorem dX6_bar_11 : decode cX6_bar 11 = .ok (.ifCond .eq 16, 3) := by decide +kernel
theorem dX6_bar_14 : decode cX6_bar 14 = .ok (.aload_n 0, 1) := by decide +kernel
theorem dX6_bar_15 : decode cX6_bar 15 = .ok (.getfield 22, 3) := by decide +kernel
theorem dX6_bar_18 : decode cX6_bar 18 = .ok (.getfield 80, 3) := by decide +kernel
theorem dX6_bar_21 : decode cX6_bar 21 = .ok (.ifCond .ne 6, 3) := by decide +kernel
theorem dX6_bar_24 : decode cX6_bar 24 = .ok (.bipush (-3), 2) := by decide +kernel
theorem dX6_bar_26 : decode cX6_bar 26 = .ok (.ireturn, 1) := by decide +kernel
theorem dX6_bar_27 : decode cX6_bar 27 = .ok (.aload_n 0, 1) := by decide +kernel
theorem dX6_bar_28 : decode cX6_bar 28 = .ok (.getfield 22, 3) := by decide +kernel
theorem dX6_bar_31 : decode cX6_bar 31 = .ok (.iload_n 1, 1) := by decide +kernel
theorem dX6_bar_32 : decode cX6_bar 32 = .ok (.invokevirtual 94, 3) := by decide +kernel
theorem dX6_bar_35 : decode cX6_bar 35 = .ok (.ifCond .eq 15, 3) := by decide +kernel
theorem dX6_bar_38 : decode cX6_bar 38 = .ok (.aload_n 0, 1) := by decide +kernel
theorem dX6_bar_39 : decode cX6_bar 39 = .ok (.getfield 22, 3) := by decide +kernel
theorem dX6_bar_42 : decode cX6_bar 42 = .ok (.getfield 80, 3) := by decide +kernel
theorem dX6_bar_45 : decode cX6_bar 45 = .ok (.iconst 1, 1) := by decide +kernel
theorem dX6_bar_46 : decode cX6_bar 46 = .ok (.isub, 1) := by decide +kernel
theorem dX6_bar_47 : decode cX6_bar 47 = .ok (.goto 5, 3) := by decide +kernel
theorem dX6_bar_50 : decode cX6_bar 50 = .ok (.bipush (-4), 2) := by decide +kernel
theorem dX6_bar_52 : decode cX6_bar 52 = .ok (.ireturn, 1) := by decide +kernel
theorem dX6_voice_0 : decode cX6_voice 0 = .ok (.aload_n 0, 1) := by decide +kernel
theorem dX6_voice_1 : decode cX6_voice 1 = .ok (.getfield 22, 3) := by decide +kernel
theorem dX6_voice_4 : decode cX6_voice 4 = .ok (.invokevirtual 98, 3) := by decide +kernel
theorem dX6_voice_7 : decode cX6_voice 7 = .ok (.istore_n 1, 1) := by decide +kernel
theorem dX6_voice_8 : decode cX6_voice 8 = .ok (.iload_n 1, 1) := by decide +kernel
theorem dX6_voice_9 : decode cX6_voice 9 = .ok (.ifCond .lt 14, 3) := by decide +kernel
theorem dX6_voice_12 : decode cX6_voice 12 = .ok (.aload_n 0, 1) := by decide +kernel
theorem dX6_voice_13 : decode cX6_voice 13 = .ok (.getfield 22, 3) := by decide +kernel
theorem dX6_voice_16 : decode cX6_voice 16 = .ok (.iload_n 1, 1) := by decide +kernel
theorem dX6_voice_17 : decode cX6_voice 17 = .ok (.invokevirtual 102, 3) := by decide +kernel
theorem dX6_voice_20 : decode cX6_voice 20 = .ok (.ifCond .ne 6, 3) := by decide +kernel
theorem dX6_voice_23 : decode cX6_voice 23 = .ok (.bipush (-3), 2) := by decide +kernel
theorem dX6_voice_25 : decode cX6_voice 25 = .ok (.ireturn, 1) := by decide +kernel
theorem dX6_voice_26 : decode cX6_voice 26 = .ok (.aload_n 0, 1) := by decide +kernel
theorem dX6_voice_27 : decode cX6_voice 27 = .ok (.getfield 22, 3) := by decide +kernel
theorem dX6_voice_30 : decode cX6_voice 30 = .ok (.invokevirtual 105, 3) := by decide +kernel
theorem dX6_voice_33 : decode cX6_voice 33 = .ok (.ifCond .eq 25, 3) := by decide +kernel
theorem dX6_voice_36 : decode cX6_voice 36 = .ok (.aload_n 0, 1) := by decide +kernel
theorem dX6_voice_37 : decode cX6_voice 37 = .ok (.getfield 22, 3) := by decide +kernel
theorem dX6_voice_40 : decode cX6_voice 40 = .ok (.getfield 108, 3) := by decide +kernel
theorem dX6_voice_43 : decode cX6_voice 43 = .ok (.aload_n 0, 1) := by decide +kernel
theorem dX6_voice_44 : decode cX6_voice 44 = .ok (.getfield 22, 3) := by decide +kernel
theorem dX6_voice_47 : decode cX6_voice 47 = .ok (.getfield 80, 3) := by decide +kernel
theorem dX6_voice_50 : decode cX6_voice 50 = .ok (.iconst 1, 1) := by decide +kernel
theorem dX6_voice_51 : decode cX6_voice 51 = .ok (.isub, 1) := by decide +kernel
theorem dX6_voice_52 : decode cX6_voice 52 = .ok (.iaload, 1) := by decide +kernel
theorem dX6_voice_53 : decode cX6_voice 53 = .ok (.iconst 1, 1) := by decide +kernel
theorem dX6_voice_54 : decode cX6_voice 54 = .ok (.isub, 1) := by decide +kernel
theorem dX6_voice_55 : decode cX6_voice 55 = .ok (.goto 5, 3) := by decide +kernel
theorem dX6_voice_58 : decode cX6_voice 58 = .ok (.bipush (-4), 2) := by decide +kernel
theorem dX6_voice_60 : decode cX6_voice 60 = .ok (.ireturn, 1) := by decide +kernel
theorem dX6_note_0 : decode cX6_note 0 = .ok (.iload_n 1, 1) := by decide +kernel
theorem dX6_note_1 : decode cX6_note 1 = .ok (.invokestatic 112, 3) := by decide +kernel
theorem dX6_note_4 : decode cX6_note 4 = .ok (.ifCond .eq 25, 3) := by decide +kernel
theorem dX6_note_7 : decode cX6_note 7 = .ok (.iload_n 2, 1) := by decide +kernel
theorem dX6_note_8 : decode cX6_note 8 = .ok (.invokestatic 115, 3) := by decide +kernel
theorem dX6_note_11 : decode cX6_note 11 = .ok (.ifCond .eq 18, 3) := by decide +kernel
theorem dX6_note_14 : decode cX6_note 14 = .ok (.iload_n 3, 1) := by decide +kernel
theorem dX6_note_15 : decode cX6_note 15 = .ok (.invokestatic 118, 3) := by decide +kernel
theorem dX6_note_18 : decode cX6_note 18 = .ok (.ifCond .eq 11, 3) := by decide +kernel
theorem dX6_note_21 : decode cX6_note 21 = .ok (.iload 5, 2) := by decide +kernel
theorem dX6_note_23 : decode cX6_note 23 = .ok (.invokestatic 121, 3) := by decide +kernel
theorem dX6_note_26 : decode cX6_note 26 = .ok (.ifCond .ne 6, 3) := by decide +kernel
theorem dX6_note_29 : decode cX6_note 29 = .ok (.bipush (-2), 2) := by decide +kernel
theorem dX6_note_31 : decode cX6_note 31 = .ok (.ireturn, 1) := by decide +kernel
theorem dX6_note_32 : decode cX6_note 32 = .ok (.iload 4, 2) := by decide +kernel
theorem dX6_note_34 : decode cX6_note 34 = .ok (.ifCond .eq 12, 3) := by decide +kernel
theorem dX6_note_37 : decode cX6_note 37 = .ok (.iload 4, 2) := by decide +kernel
theorem dX6_note_39 : decode cX6_note 39 = .ok (.iconst 1, 1) := by decide +kernel
theorem dX6_note_40 : decode cX6_note 40 = .ok (.if_icmp .eq 6, 3) := by decide +kernel
theorem dX6_note_43 : decode cX6_note 43 = .ok (.bipush (-2), 2) := by decide +kernel
theorem dX6_note_45 : decode cX6_note 45 = .ok (.ireturn, 1) := by decide +kernel
theorem dX6_note_46 : decode cX6_note 46 = .ok (.aload_n 0, 1) := by decide +kernel
theorem dX6_note_47 : decode cX6_note 47 = .ok (.iload_n 1, 1) := by decide +kernel
theorem dX6_note_48 : decode cX6_note 48 = .ok (.iload_n 2, 1) := by decide +kernel
theorem dX6_note_49 : decode cX6_note 49 = .ok (.iload_n 3, 1) := by decide +kernel
theorem dX6_note_50 : decode cX6_note 50 = .ok (.iload 4, 2) := by decide +kernel
theorem dX6_note_52 : decode cX6_note 52 = .ok (.iload 5, 2) := by decide +kernel
theorem dX6_note_54 : decode cX6_note 54 = .ok (.invokevirtual 124, 3) := by decide +kernel
theorem dX6_note_57 : decode cX6_note 57 = .ok (.ireturn, 1) := by decide +kernel
theorem dX6_rest_0 : decode cX6_rest 0 = .ok (.iload_n 1, 1) := by decide +kernel
theorem dX6_rest_1 : decode cX6_rest 1 = .ok (.invokestatic 118, 3) := by decide +kernel
theorem dX6_rest_4 : decode cX6_rest 4 = .ok (.ifCond .eq 19, 3) := by decide +kernel
theorem dX6_rest_7 : decode cX6_rest 7 = .ok (.iload_n 2, 1) := by decide +kernel
theorem dX6_rest_8 : decode cX6_rest 8 = .ok (.ifCond .lt 15, 3) := by decide +kernel
theorem dX6_rest_11 : decode cX6_rest 11 = .ok (.iload_n 2, 1) := by decide +kernel
theorem dX6_rest_12 : decode cX6_rest 12 = .ok (.iconst 2, 1) := by decide +kernel
theorem dX6_rest_13 : decode cX6_rest 13 = .ok (.if_icmp .gt 10, 3) := by decide +kernel
theorem dX6_rest_16 : decode cX6_rest 16 = .ok (.iload_n 3, 1) := by decide +kernel
theorem dX6_rest_17 : decode cX6_rest 17 = .ok (.invokestatic 121, 3) := by decide +kernel
theorem dX6_rest_20 : decode cX6_rest 20 = .ok (.ifCond .ne 6, 3) := by decide +kernel
theorem dX6_rest_23 : decode cX6_rest 23 = .ok (.bipush (-2), 2) := by decide +kernel
theorem dX6_rest_25 : decode cX6_rest 25 = .ok (.ireturn, 1) := by decide +kernel
theorem dX6_rest_26 : decode cX6_rest 26 = .ok (.iload_n 2, 1) := by decide +kernel
theorem dX6_rest_27 : decode cX6_rest 27 = .ok (.iconst 2, 1) := by decide +kernel
theorem dX6_rest_28 : decode cX6_rest 28 = .ok (.if_icmp .ne 14, 3) := by decide +kernel
theorem dX6_rest_31 : decode cX6_rest 31 = .ok (.iload_n 1, 1) := by decide +kernel
theorem dX6_rest_32 : decode cX6_rest 32 = .ok (.ifCond .ne 7, 3) := by decide +kernel
theorem dX6_rest_35 : decode cX6_rest 35 = .ok (.iload_n 3, 1) := by decide +kernel
theorem dX6_rest_36 : decode cX6_rest 36 = .ok (.ifCond .eq 6, 3) := by decide +kernel
theorem dX6_rest_39 : decode cX6_rest 39 = .ok (.bipush (-2), 2) := by decide +kernel
theorem dX6_rest_41 : decode cX6_rest 41 = .ok (.ireturn, 1) := by decide +kernel
theorem dX6_rest_42 : decode cX6_rest 42 = .ok (.aload_n 0, 1) := by decide +kernel
theorem dX6_rest_43 : decode cX6_rest 43 = .ok (.iconst 0, 1) := by decide +kernel
theorem dX6_rest_44 : decode cX6_rest 44 = .ok (.iconst 0, 1) := by decide +kernel
theorem dX6_rest_45 : decode cX6_rest 45 = .ok (.iload_n 1, 1) := by decide +kernel
theorem dX6_rest_46 : decode cX6_rest 46 = .ok (.iload_n 2, 1) := by decide +kernel
theorem dX6_rest_47 : decode cX6_rest 47 = .ok (.iload_n 3, 1) := by decide +kernel
theorem dX6_rest_48 : decode cX6_rest 48 = .ok (.invokevirtual 124, 3) := by decide +kernel
theorem dX6_rest_51 : decode cX6_rest 51 = .ok (.ireturn, 1) := by decide +kernel
theorem dX6_addTimed_0 : decode cX6_addTimed 0 = .ok (.aload_n 0, 1) := by decide +kernel
theorem dX6_addTimed_1 : decode cX6_addTimed 1 = .ok (.getfield 22, 3) := by decide +kernel
theorem dX6_addTimed_4 : decode cX6_addTimed 4 = .ok (.invokevirtual 98, 3) := by decide +kernel
theorem dX6_addTimed_7 : decode cX6_addTimed 7 = .ok (.istore 6, 2) := by decide +kernel
theorem dX6_addTimed_9 : decode cX6_addTimed 9 = .ok (.iload 6, 2) := by decide +kernel
theorem dX6_addTimed_11 : decode cX6_addTimed 11 = .ok (.ifCond .ge 6, 3) := by decide +kernel
theorem dX6_addTimed_14 : decode cX6_addTimed 14 = .ok (.bipush (-3), 2) := by decide +kernel
theorem dX6_addTimed_16 : decode cX6_addTimed 16 = .ok (.ireturn, 1) := by decide +kernel
theorem dX6_addTimed_17 : decode cX6_addTimed 17 = .ok (.iload 4, 2) := by decide +kernel
theorem dX6_addTimed_19 : decode cX6_addTimed 19 = .ok (.iconst 2, 1) := by decide +kernel
theorem dX6_addTimed_20 : decode cX6_addTimed 20 = .ok (.if_icmp .ne 13, 3) := by decide +kernel
theorem dX6_addTimed_23 : decode cX6_addTimed 23 = .ok (.aload_n 0, 1) := by decide +kernel
theorem dX6_addTimed_24 : decode cX6_addTimed 24 = .ok (.getfield 22, 3) := by decide +kernel
theorem dX6_addTimed_27 : decode cX6_addTimed 27 = .ok (.getfield 73, 3) := by decide +kernel
theorem dX6_addTimed_30 : decode cX6_addTimed 30 = .ok (.goto 11, 3) := by decide +kernel
theorem dX6_addTimed_33 : decode cX6_addTimed 33 = .ok (.iload_n 3, 1) := by decide +kernel
theorem dX6_addTimed_34 : decode cX6_addTimed 34 = .ok (.iload 4, 2) := by decide +kernel
theorem dX6_addTimed_36 : decode cX6_addTimed 36 = .ok (.iload 5, 2) := by decide +kernel
theorem dX6_addTimed_38 : decode cX6_addTimed 38 = .ok (.invokestatic 128, 3) := by decide +kernel
theorem dX6_addTimed_41 : decode cX6_addTimed 41 = .ok (.istore 7, 2) := by decide +kernel
theorem dX6_addTimed_43 : decode cX6_addTimed 43 = .ok (.aload_n 0, 1) := by decide +kernel
theorem dX6_addTimed_44 : decode cX6_addTimed 44 = .ok (.getfield 22, 3) := by decide +kernel
theorem dX6_addTimed_47 : decode cX6_addTimed 47 = .ok (.iload 6, 2) := by decide +kernel
theorem dX6_addTimed_49 : decode cX6_addTimed 49 = .ok (.invokevirtual 132, 3) := by decide +kernel
theorem dX6_addTimed_52 : decode cX6_addTimed 52 = .ok (.iload 7, 2) := by decide +kernel
theorem dX6_addTimed_54 : decode cX6_addTimed 54 = .ok (.iadd, 1) := by decide +kernel
theorem dX6_addTimed_55 : decode cX6_addTimed 55 = .ok (.aload_n 0, 1) := by decide +kernel
theorem dX6_addTimed_56 : decode cX6_addTimed 56 = .ok (.getfield 22, 3) := by decide +kernel
theorem dX6_addTimed_59 : decode cX6_addTimed 59 = .ok (.getfield 73, 3) := by decide +kernel
theorem dX6_addTimed_62 : decode cX6_addTimed 62 = .ok (.if_icmp .le 6, 3) := by decide +kernel
theorem dX6_addTimed_65 : decode cX6_addTimed 65 = .ok (.bipush (-3), 2) := by decide +kernel
theorem dX6_addTimed_67 : decode cX6_addTimed 67 = .ok (.ireturn, 1) := by decide +kernel
theorem dX6_addTimed_68 : decode cX6_addTimed 68 = .ok (.aload_n 0, 1) := by decide +kernel
theorem dX6_addTimed_69 : decode cX6_addTimed 69 = .ok (.getfield 22, 3) := by decide +kernel
theorem dX6_addTimed_72 : decode cX6_addTimed 72 = .ok (.getfield 135, 3) := by decide +kernel
theorem dX6_addTimed_75 : decode cX6_addTimed 75 = .ok (.iload 6, 2) := by decide +kernel
theorem dX6_addTimed_77 : decode cX6_addTimed 77 = .ok (.iaload, 1) := by decide +kernel
theorem dX6_addTimed_78 : decode cX6_addTimed 78 = .ok (.bipush 40, 2) := by decide +kernel
theorem dX6_addTimed_80 : decode cX6_addTimed 80 = .ok (.if_icmp .ge 16, 3) := by decide +kernel
theorem dX6_addTimed_83 : decode cX6_addTimed 83 = .ok (.aload_n 0, 1) := by decide +kernel
theorem dX6_addTimed_84 : decode cX6_addTimed 84 = .ok (.getfield 22, 3) := by decide +kernel
theorem dX6_addTimed_87 : decode cX6_addTimed 87 = .ok (.getfield 138, 3) := by decide +kernel
theorem dX6_addTimed_90 : decode cX6_addTimed 90 = .ok (.sipush 600, 3) := by decide +kernel
theorem dX6_addTimed_93 : decode cX6_addTimed 93 = .ok (.if_icmp .lt 6, 3) := by decide +kernel
theorem dX6_addTimed_96 : decode cX6_addTimed 96 = .ok (.bipush (-4), 2) := by decide +kernel
theorem dX6_addTimed_98 : decode cX6_addTimed 98 = .ok (.ireturn, 1) := by decide +kernel
theorem dX6_addTimed_99 : decode cX6_addTimed 99 = .ok (.aload_n 0, 1) := by decide +kernel
theorem dX6_addTimed_100 : decode cX6_addTimed 100 = .ok (.getfield 22, 3) := by decide +kernel
theorem dX6_addTimed_103 : decode cX6_addTimed 103 = .ok (.iload_n 1, 1) := by decide +kernel
theorem dX6_addTimed_104 : decode cX6_addTimed 104 = .ok (.iload_n 2, 1) := by decide +kernel
theorem dX6_addTimed_105 : decode cX6_addTimed 105 = .ok (.iload_n 3, 1) := by decide +kernel
theorem dX6_addTimed_106 : decode cX6_addTimed 106 = .ok (.iload 4, 2) := by decide +kernel
theorem dX6_addTimed_108 : decode cX6_addTimed 108 = .ok (.iload 5, 2) := by decide +kernel
theorem dX6_addTimed_110 : decode cX6_addTimed 110 = .ok (.invokevirtual 141, 3) := by decide +kernel
theorem dX6_addTimed_113 : decode cX6_addTimed 113 = .ok (.ireturn, 1) := by decide +kernel
theorem dX6_interval_0 : decode cX6_interval 0 = .ok (.iload_n 1, 1) := by decide +kernel
theorem dX6_interval_1 : decode cX6_interval 1 = .ok (.iconst 2, 1) := by decide +kernel
theorem dX6_interval_2 : decode cX6_interval 2 = .ok (.if_icmp .lt 16, 3) := by decide +kernel
theorem dX6_interval_5 : decode cX6_interval 5 = .ok (.iload_n 1, 1) := by decide +kernel
theorem dX6_interval_6 : decode cX6_interval 6 = .ok (.bipush 8, 2) := by decide +kernel
theorem dX6_interval_8 : decode cX6_interval 8 = .ok (.if_icmp .gt 10, 3) := by decide +kernel
theorem dX6_interval_11 : decode cX6_interval 11 = .ok (.iload_n 2, 1) := by decide +kernel
theorem dX6_interval_12 : decode cX6_interval 12 = .ok (.invokestatic 115, 3) := by decide +kernel
theorem dX6_interval_15 : decode cX6_interval 15 = .ok (.ifCond .ne 6, 3) := by decide +kernel
theorem dX6_interval_18 : decode cX6_interval 18 = .ok (.bipush (-2), 2) := by decide +kernel
theorem dX6_interval_20 : decode cX6_interval 20 = .ok (.ireturn, 1) := by decide +kernel
theorem dX6_interval_21 : decode cX6_interval 21 = .ok (.aload_n 0, 1) := by decide +kernel
theorem dX6_interval_22 : decode cX6_interval 22 = .ok (.getfield 22, 3) := by decide +kernel
theorem dX6_interval_25 : decode cX6_interval 25 = .ok (.getfield 138, 3) := by decide +kernel
theorem dX6_interval_28 : decode cX6_interval 28 = .ok (.iconst 1, 1) := by decide +kernel
theorem dX6_interval_29 : decode cX6_interval 29 = .ok (.isub, 1) := by decide +kernel
theorem dX6_interval_30 : decode cX6_interval 30 = .ok (.istore_n 3, 1) := by decide +kernel
theorem dX6_interval_31 : decode cX6_interval 31 = .ok (.iload_n 3, 1) := by decide +kernel
theorem dX6_interval_32 : decode cX6_interval 32 = .ok (.ifCond .lt 36, 3) := by decide +kernel
theorem dX6_interval_35 : decode cX6_interval 35 = .ok (.aload_n 0, 1) := by decide +kernel
theorem dX6_interval_36 : decode cX6_interval 36 = .ok (.getfield 22, 3) := by decide +kernel
theorem dX6_interval_39 : decode cX6_interval 39 = .ok (.iload_n 3, 1) := by decide +kernel
theorem dX6_interval_40 : decode cX6_interval 40 = .ok (.invokevirtual 144, 3) := by decide +kernel
theorem dX6_interval_43 : decode cX6_interval 43 = .ok (.ifCond .eq 25, 3) := by decide +kernel
theorem dX6_interval_46 : decode cX6_interval 46 = .ok (.aload_n 0, 1) := by decide +kernel
theorem dX6_interval_47 : decode cX6_interval 47 = .ok (.getfield 22, 3) := by decide +kernel
theorem dX6_interval_50 : decode cX6_interval 50 = .ok (.iload_n 3, 1) := by decide +kernel
theorem dX6_interval_51 : decode cX6_interval 51 = .ok (.iload_n 1, 1) := by decide +kernel
theorem dX6_interval_52 : decode cX6_interval 52 = .ok (.aload_n 0, 1) := by decide +kernel
theorem dX6_interval_53 : decode cX6_interval 53 = .ok (.getfield 22, 3) := by decide +kernel
theorem dX6_interval_56 : decode cX6_interval 56 = .ok (.getfield 87, 3) := by decide +kernel
theorem dX6_interval_59 : decode cX6_interval 59 = .ok (.invokevirtual 147, 3) := by decide +kernel
theorem dX6_interval_62 : decode cX6_interval 62 = .ok (.invokestatic 112, 3) := by decide +kernel
theorem dX6_interval_65 : decode cX6_interval 65 = .ok (.ifCond .ne 6, 3) := by decide +kernel
theorem dX6_interval_68 : decode cX6_interval 68 = .ok (.bipush (-3), 2) := by decide +kernel
theorem dX6_interval_70 : decode cX6_interval 70 = .ok (.ireturn, 1) := by decide +kernel
theorem dX6_interval_71 : decode cX6_interval 71 = .ok (.aload_n 0, 1) := by decide +kernel
theorem dX6_interval_72 : decode cX6_interval 72 = .ok (.getfield 22, 3) := by decide +kernel
theorem dX6_interval_75 : decode cX6_interval 75 = .ok (.getfield 150, 3) := by decide +kernel
theorem dX6_interval_78 : decode cX6_interval 78 = .ok (.iload_n 3, 1) := by decide +kernel
theorem dX6_interval_79 : decode cX6_interval 79 = .ok (.iaload, 1) := by decide +kernel
theorem dX6_interval_80 : decode cX6_interval 80 = .ok (.iconst 4, 1) := by decide +kernel
theorem dX6_interval_81 : decode cX6_interval 81 = .ok (.if_icmp .lt 6, 3) := by decide +kernel
theorem dX6_interval_84 : decode cX6_interval 84 = .ok (.bipush (-4), 2) := by decide +kernel
theorem dX6_interval_86 : decode cX6_interval 86 = .ok (.ireturn, 1) := by decide +kernel
theorem dX6_interval_87 : decode cX6_interval 87 = .ok (.aload_n 0, 1) := by decide +kernel
theorem dX6_interval_88 : decode cX6_interval 88 = .ok (.getfield 22, 3) := by decide +kernel
theorem dX6_interval_91 : decode cX6_interval 91 = .ok (.iload_n 1, 1) := by decide +kernel
theorem dX6_interval_92 : decode cX6_interval 92 = .ok (.iload_n 2, 1) := by decide +kernel
theorem dX6_interval_93 : decode cX6_interval 93 = .ok (.invokevirtual 153, 3) := by decide +kernel
theorem dX6_interval_96 : decode cX6_interval 96 = .ok (.aload_n 0, 1) := by decide +kernel
theorem dX6_interval_97 : decode cX6_interval 97 = .ok (.getfield 22, 3) := by decide +kernel
theorem dX6_interval_100 : decode cX6_interval 100 = .ok (.getfield 150, 3) := by decide +kernel
theorem dX6_interval_103 : decode cX6_interval 103 = .ok (.iload_n 3, 1) := by decide +kernel
theorem dX6_interval_104 : decode cX6_interval 104 = .ok (.iaload, 1) := by decide +kernel
theorem dX6_interval_105 : decode cX6_interval 105 = .ok (.ireturn, 1) := by decide +kernel
theorem dX6_tie_0 : decode cX6_tie 0 = .ok (.aload_n 0, 1) := by decide +kernel
theorem dX6_tie_1 : decode cX6_tie 1 = .ok (.getfield 22, 3) := by decide +kernel
theorem dX6_tie_4 : decode cX6_tie 4 = .ok (.getfield 138, 3) := by decide +kernel
theorem dX6_tie_7 : decode cX6_tie 7 = .ok (.iconst 1, 1) := by decide +kernel
theorem dX6_tie_8 : decode cX6_tie 8 = .ok (.isub, 1) := by decide +kernel
theorem dX6_tie_9 : decode cX6_tie 9 = .ok (.istore_n 2, 1) := by decide +kernel
theorem dX6_tie_10 : decode cX6_tie 10 = .ok (.iload_n 2, 1) := by decide +kernel
theorem dX6_tie_11 : decode cX6_tie 11 = .ok (.ifCond .lt 14, 3) := by decide +kernel
theorem dX6_tie_14 : decode cX6_tie 14 = .ok (.aload_n 0, 1) := by decide +kernel
theorem dX6_tie_15 : decode cX6_tie 15 = .ok (.getfield 22, 3) := by decide +kernel
theorem dX6_tie_18 : decode cX6_tie 18 = .ok (.iload_n 2, 1) := by decide +kernel
theorem dX6_tie_19 : decode cX6_tie 19 = .ok (.invokevirtual 144, 3) := by decide +kernel
theorem dX6_tie_22 : decode cX6_tie 22 = .ok (.ifCond .ne 6, 3) := by decide +kernel
theorem dX6_tie_25 : decode cX6_tie 25 = .ok (.bipush (-3), 2) := by decide +kernel
theorem dX6_tie_27 : decode cX6_tie 27 = .ok (.ireturn, 1) := by decide +kernel
theorem dX6_tie_28 : decode cX6_tie 28 = .ok (.aload_n 0, 1) := by decide +kernel
theorem dX6_tie_29 : decode cX6_tie 29 = .ok (.getfield 22, 3) := by decide +kernel
theorem dX6_tie_32 : decode cX6_tie 32 = .ok (.getfield 157, 3) := by decide +kernel
theorem dX6_tie_35 : decode cX6_tie 35 = .ok (.iload_n 2, 1) := by decide +kernel
theorem dX6_tie_36 : decode cX6_tie 36 = .ok (.iaload, 1) := by decide +kernel
theorem dX6_tie_37 : decode cX6_tie 37 = .ok (.istore_n 3, 1) := by decide +kernel
theorem dX6_tie_38 : decode cX6_tie 38 = .ok (.aload_n 0, 1) := by decide +kernel
theorem dX6_tie_39 : decode cX6_tie 39 = .ok (.getfield 22, 3) := by decide +kernel
theorem dX6_tie_42 : decode cX6_tie 42 = .ok (.getfield 157, 3) := by decide +kernel
theorem dX6_tie_45 : decode cX6_tie 45 = .ok (.iload_n 2, 1) := by decide +kernel
theorem dX6_tie_46 : decode cX6_tie 46 = .ok (.iload_n 1, 1) := by decide +kernel
theorem dX6_tie_47 : decode cX6_tie 47 = .ok (.ifCond .eq 7, 3) := by decide +kernel
theorem dX6_tie_50 : decode cX6_tie 50 = .ok (.iconst 1, 1) := by decide +kernel
theorem dX6_tie_51 : decode cX6_tie 51 = .ok (.goto 4, 3) := by decide +kernel
theorem dX6_tie_54 : decode cX6_tie 54 = .ok (.iconst 0, 1) := by decide +kernel
theorem dX6_tie_55 : decode cX6_tie 55 = .ok (.iastore, 1) := by decide +kernel
theorem dX6_tie_56 : decode cX6_tie 56 = .ok (.iload_n 3, 1) := by decide +kernel
theorem dX6_tie_57 : decode cX6_tie 57 = .ok (.ireturn, 1) := by decide +kernel
theorem dX6_slur_0 : decode cX6_slur 0 = .ok (.iload_n 1, 1) := by decide +kernel
theorem dX6_slur_1 : decode cX6_slur 1 = .ok (.ifCond .lt 14, 3) := by decide +kernel
theorem dX6_slur_4 : decode cX6_slur 4 = .ok (.iload_n 1, 1) := by decide +kernel
theorem dX6_slur_5 : decode cX6_slur 5 = .ok (.aload_n 0, 1) := by decide +kernel
theorem dX6_slur_6 : decode cX6_slur 6 = .ok (.getfield 22, 3) := by decide +kernel
theorem dX6_slur_9 : decode cX6_slur 9 = .ok (.getfield 138, 3) := by decide +kernel
theorem dX6_slur_12 : decode cX6_slur 12 = .ok (.if_icmp .lt 5, 3) := by decide +kernel
theorem dX6_slur_15 : decode cX6_slur 15 = .ok (.iconst (-1), 1) := by decide +kernel
theorem dX6_slur_16 : decode cX6_slur 16 = .ok (.ireturn, 1) := by decide +kernel
theorem dX6_slur_17 : decode cX6_slur 17 = .ok (.aload_n 0, 1) := by decide +kernel
theorem dX6_slur_18 : decode cX6_slur 18 = .ok (.getfield 22, 3) := by decide +kernel
theorem dX6_slur_21 : decode cX6_slur 21 = .ok (.getfield 160, 3) := by decide +kernel
theorem dX6_slur_24 : decode cX6_slur 24 = .ok (.iload_n 1, 1) := by decide +kernel
theorem dX6_slur_25 : decode cX6_slur 25 = .ok (.iaload, 1) := by decide +kernel
theorem dX6_slur_26 : decode cX6_slur 26 = .ok (.istore_n 3, 1) := by decide +kernel
theorem dX6_slur_27 : decode cX6_slur 27 = .ok (.aload_n 0, 1) := by decide +kernel
theorem dX6_slur_28 : decode cX6_slur 28 = .ok (.getfield 22, 3) := by decide +kernel
theorem dX6_slur_31 : decode cX6_slur 31 = .ok (.getfield 160, 3) := by decide +kernel
theorem dX6_slur_34 : decode cX6_slur 34 = .ok (.iload_n 1, 1) := by decide +kernel
theorem dX6_slur_35 : decode cX6_slur 35 = .ok (.iload_n 2, 1) := by decide +kernel
theorem dX6_slur_36 : decode cX6_slur 36 = .ok (.ifCond .eq 7, 3) := by decide +kernel
theorem dX6_slur_39 : decode cX6_slur 39 = .ok (.iconst 1, 1) := by decide +kernel
theorem dX6_slur_40 : decode cX6_slur 40 = .ok (.goto 4, 3) := by decide +kernel
theorem dX6_slur_43 : decode cX6_slur 43 = .ok (.iconst 0, 1) := by decide +kernel
theorem dX6_slur_44 : decode cX6_slur 44 = .ok (.iastore, 1) := by decide +kernel
theorem dX6_slur_45 : decode cX6_slur 45 = .ok (.iload_n 3, 1) := by decide +kernel
theorem dX6_slur_46 : decode cX6_slur 46 = .ok (.ireturn, 1) := by decide +kernel
theorem dX6_write_0 : decode cX6_write 0 = .ok (.iload_n 1, 1) := by decide +kernel
theorem dX6_write_1 : decode cX6_write 1 = .ok (.bipush 12, 2) := by decide +kernel
theorem dX6_write_3 : decode cX6_write 3 = .ok (.if_icmp .lt 10, 3) := by decide +kernel
theorem dX6_write_6 : decode cX6_write 6 = .ok (.iload_n 1, 1) := by decide +kernel
theorem dX6_write_7 : decode cX6_write 7 = .ok (.sipush 200, 3) := by decide +kernel
theorem dX6_write_10 : decode cX6_write 10 = .ok (.if_icmp .le 6, 3) := by decide +kernel
theorem dX6_write_13 : decode cX6_write 13 = .ok (.bipush (-2), 2) := by decide +kernel
theorem dX6_write_15 : decode cX6_write 15 = .ok (.ireturn, 1) := by decide +kernel
theorem dX6_write_16 : decode cX6_write 16 = .ok (.aload_n 0, 1) := by decide +kernel
theorem dX6_write_17 : decode cX6_write 17 = .ok (.getfield 22, 3) := by decide +kernel
theorem dX6_write_20 : decode cX6_write 20 = .ok (.getfield 80, 3) := by decide +kernel
theorem dX6_write_23 : decode cX6_write 23 = .ok (.ifCond .eq 13, 3) := by decide +kernel
theorem dX6_write_26 : decode cX6_write 26 = .ok (.aload_n 0, 1) := by decide +kernel
theorem dX6_write_27 : decode cX6_write 27 = .ok (.getfield 22, 3) := by decide +kernel
theorem dX6_write_30 : decode cX6_write 30 = .ok (.invokevirtual 90, 3) := by decide +kernel
theorem dX6_write_33 : decode cX6_write 33 = .ok (.ifCond .ne 6, 3) := by decide +kernel
theorem dX6_write_36 : decode cX6_write 36 = .ok (.bipush (-3), 2) := by decide +kernel
theorem dX6_write_38 : decode cX6_write 38 = .ok (.ireturn, 1) := by decide +kernel
theorem dX6_write_39 : decode cX6_write 39 = .ok (.aload_n 0, 1) := by decide +kernel
theorem dX6_write_40 : decode cX6_write 40 = .ok (.getfield 48, 3) := by decide +kernel
theorem dX6_write_43 : decode cX6_write 43 = .ok (.aload_n 0, 1) := by decide +kernel
theorem dX6_write_44 : decode cX6_write 44 = .ok (.getfield 22, 3) := by decide +kernel
theorem dX6_write_47 : decode cX6_write 47 = .ok (.aload_n 0, 1) := by decide +kernel
theorem dX6_write_48 : decode cX6_write 48 = .ok (.getfield 16, 3) := by decide +kernel
theorem dX6_write_51 : decode cX6_write 51 = .ok (.iload_n 1, 1) := by decide +kernel
theorem dX6_write_52 : decode cX6_write 52 = .ok (.invokevirtual 163, 3) := by decide +kernel
theorem dX6_write_55 : decode cX6_write 55 = .ok (.istore_n 2, 1) := by decide +kernel
theorem dX6_write_56 : decode cX6_write 56 = .ok (.iload_n 2, 1) := by decide +kernel
theorem dX6_write_57 : decode cX6_write 57 = .ok (.ifCond .lt 21, 3) := by decide +kernel
theorem dX6_write_60 : decode cX6_write 60 = .ok (.aload_n 0, 1) := by decide +kernel
theorem dX6_write_61 : decode cX6_write 61 = .ok (.getfield 10, 3) := by decide +kernel
theorem dX6_write_64 : decode cX6_write 64 = .ok (.astore_n 3, 1) := by decide +kernel
theorem dX6_write_65 : decode cX6_write 65 = .ok (.aload_n 0, 1) := by decide +kernel
theorem dX6_write_66 : decode cX6_write 66 = .ok (.aload_n 0, 1) := by decide +kernel
theorem dX6_write_67 : decode cX6_write 67 = .ok (.getfield 16, 3) := by decide +kernel
theorem dX6_write_70 : decode cX6_write 70 = .ok (.putfield 10, 3) := by decide +kernel
theorem dX6_write_73 : decode cX6_write 73 = .ok (.aload_n 0, 1) := by decide +kernel
theorem dX6_write_74 : decode cX6_write 74 = .ok (.aload_n 3, 1) := by decide +kernel
theorem dX6_write_75 : decode cX6_write 75 = .ok (.putfield 16, 3) := by decide +kernel
theorem dX6_write_78 : decode cX6_write 78 = .ok (.iload_n 2, 1) := by decide +kernel
theorem dX6_write_79 : decode cX6_write 79 = .ok (.ireturn, 1) := by decide +kernel
theorem dX6_wants_0 : decode cX6_wants 0 = .ok (.iload_n 1, 1) := by decide +kernel
theorem dX6_wants_1 : decode cX6_wants 1 = .ok (.invokestatic 112, 3) := by decide +kernel
theorem dX6_wants_4 : decode cX6_wants 4 = .ok (.ifCond .eq 10, 3) := by decide +kernel
theorem dX6_wants_7 : decode cX6_wants 7 = .ok (.iload_n 2, 1) := by decide +kernel
theorem dX6_wants_8 : decode cX6_wants 8 = .ok (.invokestatic 112, 3) := by decide +kernel
theorem dX6_wants_11 : decode cX6_wants 11 = .ok (.ifCond .ne 6, 3) := by decide +kernel
theorem dX6_wants_14 : decode cX6_wants 14 = .ok (.bipush (-2), 2) := by decide +kernel
theorem dX6_wants_16 : decode cX6_wants 16 = .ok (.ireturn, 1) := by decide +kernel
theorem dX6_wants_17 : decode cX6_wants 17 = .ok (.iload_n 1, 1) := by decide +kernel
theorem dX6_wants_18 : decode cX6_wants 18 = .ok (.iload_n 2, 1) := by decide +kernel
theorem dX6_wants_19 : decode cX6_wants 19 = .ok (.invokestatic 166, 3) := by decide +kernel
theorem dX6_wants_22 : decode cX6_wants 22 = .ok (.ifCond .eq 7, 3) := by decide +kernel
theorem dX6_wants_25 : decode cX6_wants 25 = .ok (.iconst 1, 1) := by decide +kernel
theorem dX6_wants_26 : decode cX6_wants 26 = .ok (.goto 4, 3) := by decide +kernel
theorem dX6_wants_29 : decode cX6_wants 29 = .ok (.iconst 0, 1) := by decide +kernel
theorem dX6_wants_30 : decode cX6_wants 30 = .ok (.ireturn, 1) := by decide +kernel
theorem dX6_ways_0 : decode cX6_ways 0 = .ok (.aload_n 0, 1) := by decide +kernel
theorem dX6_ways_1 : decode cX6_ways 1 = .ok (.getfield 22, 3) := by decide +kernel
theorem dX6_ways_4 : decode cX6_ways 4 = .ok (.iload_n 1, 1) := by decide +kernel
theorem dX6_ways_5 : decode cX6_ways 5 = .ok (.iload_n 2, 1) := by decide +kernel
theorem dX6_ways_6 : decode cX6_ways 6 = .ok (.invokevirtual 172, 3) := by decide +kernel
theorem dX6_ways_9 : decode cX6_ways 9 = .ok (.istore_n 3, 1) := by decide +kernel
theorem dX6_ways_10 : decode cX6_ways 10 = .ok (.iload_n 3, 1) := by decide +kernel
theorem dX6_ways_11 : decode cX6_ways 11 = .ok (.ifCond .ge 5, 3) := by decide +kernel
theorem dX6_ways_14 : decode cX6_ways 14 = .ok (.iconst (-1), 1) := by decide +kernel
theorem dX6_ways_15 : decode cX6_ways 15 = .ok (.ireturn, 1) := by decide +kernel
theorem dX6_ways_16 : decode cX6_ways 16 = .ok (.aload_n 0, 1) := by decide +kernel
theorem dX6_ways_17 : decode cX6_ways 17 = .ok (.getfield 32, 3) := by decide +kernel
theorem dX6_ways_20 : decode cX6_ways 20 = .ok (.aload_n 0, 1) := by decide +kernel
theorem dX6_ways_21 : decode cX6_ways 21 = .ok (.getfield 22, 3) := by decide +kernel
theorem dX6_ways_24 : decode cX6_ways 24 = .ok (.iload_n 3, 1) := by decide +kernel
theorem dX6_ways_25 : decode cX6_ways 25 = .ok (.invokevirtual 176, 3) := by decide +kernel
theorem dX6_ways_28 : decode cX6_ways 28 = .ok (.ireturn, 1) := by decide +kernel
theorem dX6_signed_0 : decode cX6_signed 0 = .ok (.aload_n 0, 1) := by decide +kernel
theorem dX6_signed_1 : decode cX6_signed 1 = .ok (.getfield 22, 3) := by decide +kernel
theorem dX6_signed_4 : decode cX6_signed 4 = .ok (.iload_n 1, 1) := by decide +kernel
theorem dX6_signed_5 : decode cX6_signed 5 = .ok (.iload_n 2, 1) := by decide +kernel
theorem dX6_signed_6 : decode cX6_signed 6 = .ok (.invokevirtual 172, 3) := by decide +kernel
theorem dX6_signed_9 : decode cX6_signed 9 = .ok (.istore_n 3, 1) := by decide +kernel
theorem dX6_signed_10 : decode cX6_signed 10 = .ok (.iload_n 3, 1) := by decide +kernel
theorem dX6_signed_11 : decode cX6_signed 11 = .ok (.ifCond .ge 5, 3) := by decide +kernel
theorem dX6_signed_14 : decode cX6_signed 14 = .ok (.iconst (-1), 1) := by decide +kernel
theorem dX6_signed_15 : decode cX6_signed 15 = .ok (.ireturn, 1) := by decide +kernel
theorem dX6_signed_16 : decode cX6_signed 16 = .ok (.aload_n 0, 1) := by decide +kernel
theorem dX6_signed_17 : decode cX6_signed 17 = .ok (.getfield 22, 3) := by decide +kernel
theorem dX6_signed_20 : decode cX6_signed 20 = .ok (.iload_n 3, 1) := by decide +kernel
theorem dX6_signed_21 : decode cX6_signed 21 = .ok (.invokevirtual 102, 3) := by decide +kernel
theorem dX6_signed_24 : decode cX6_signed 24 = .ok (.ifCond .ne 6, 3) := by decide +kernel
theorem dX6_signed_27 : decode cX6_signed 27 = .ok (.bipush (-3), 2) := by decide +kernel
theorem dX6_signed_29 : decode cX6_signed 29 = .ok (.ireturn, 1) := by decide +kernel
theorem dX6_signed_30 : decode cX6_signed 30 = .ok (.aload_n 0, 1) := by decide +kernel
theorem dX6_signed_31 : decode cX6_signed 31 = .ok (.getfield 32, 3) := by decide +kernel
theorem dX6_signed_34 : decode cX6_signed 34 = .ok (.aload_n 0, 1) := by decide +kernel
theorem dX6_signed_35 : decode cX6_signed 35 = .ok (.getfield 22, 3) := by decide +kernel
theorem dX6_signed_38 : decode cX6_signed 38 = .ok (.iload_n 3, 1) := by decide +kernel
theorem dX6_signed_39 : decode cX6_signed 39 = .ok (.invokevirtual 180, 3) := by decide +kernel
theorem dX6_signed_42 : decode cX6_signed 42 = .ok (.ifCond .eq 7, 3) := by decide +kernel
theorem dX6_signed_45 : decode cX6_signed 45 = .ok (.iconst 1, 1) := by decide +kernel
theorem dX6_signed_46 : decode cX6_signed 46 = .ok (.goto 4, 3) := by decide +kernel
theorem dX6_signed_49 : decode cX6_signed 49 = .ok (.iconst 0, 1) := by decide +kernel
theorem dX6_signed_50 : decode cX6_signed 50 = .ok (.ireturn, 1) := by decide +kernel
theorem dX6_barOf_0 : decode cX6_barOf 0 = .ok (.iload_n 1, 1) := by decide +kernel
theorem dX6_barOf_1 : decode cX6_barOf 1 = .ok (.ifCond .lt 14, 3) := by decide +kernel
theorem dX6_barOf_4 : decode cX6_barOf 4 = .ok (.iload_n 1, 1) := by decide +kernel
theorem dX6_barOf_5 : decode cX6_barOf 5 = .ok (.aload_n 0, 1) := by decide +kernel
theorem dX6_barOf_6 : decode cX6_barOf 6 = .ok (.getfield 22, 3) := by decide +kernel
theorem dX6_barOf_9 : decode cX6_barOf 9 = .ok (.getfield 80, 3) := by decide +kernel
theorem dX6_barOf_12 : decode cX6_barOf 12 = .ok (.if_icmp .lt 5, 3) := by decide +kernel
theorem dX6_barOf_15 : decode cX6_barOf 15 = .ok (.iconst (-1), 1) := by decide +kernel
theorem dX6_barOf_16 : decode cX6_barOf 16 = .ok (.ireturn, 1) := by decide +kernel
theorem dX6_barOf_17 : decode cX6_barOf 17 = .ok (.iload_n 2, 1) := by decide +kernel
theorem dX6_barOf_18 : decode cX6_barOf 18 = .ok (.tableswitch 72 0 2 #[26, 36, 63], 26) := by decide +kernel
theorem dX6_barOf_44 : decode cX6_barOf 44 = .ok (.aload_n 0, 1) := by decide +kernel
theorem dX6_barOf_45 : decode cX6_barOf 45 = .ok (.getfield 22, 3) := by decide +kernel
theorem dX6_barOf_48 : decode cX6_barOf 48 = .ok (.getfield 108, 3) := by decide +kernel
theorem dX6_barOf_51 : decode cX6_barOf 51 = .ok (.iload_n 1, 1) := by decide +kernel
theorem dX6_barOf_52 : decode cX6_barOf 52 = .ok (.iaload, 1) := by decide +kernel
theorem dX6_barOf_53 : decode cX6_barOf 53 = .ok (.ireturn, 1) := by decide +kernel
theorem dX6_barOf_54 : decode cX6_barOf 54 = .ok (.aload_n 0, 1) := by decide +kernel
theorem dX6_barOf_55 : decode cX6_barOf 55 = .ok (.getfield 22, 3) := by decide +kernel
theorem dX6_barOf_58 : decode cX6_barOf 58 = .ok (.iload_n 1, 1) := by decide +kernel
theorem dX6_barOf_59 : decode cX6_barOf 59 = .ok (.invokevirtual 184, 3) := by decide +kernel
theorem dX6_barOf_62 : decode cX6_barOf 62 = .ok (.ifCond .ne 7, 3) := by decide +kernel
theorem dX6_barOf_65 : decode cX6_barOf 65 = .ok (.iconst (-1), 1) := by decide +kernel
theorem dX6_barOf_66 : decode cX6_barOf 66 = .ok (.goto 14, 3) := by decide +kernel
theorem dX6_barOf_69 : decode cX6_barOf 69 = .ok (.aload_n 0, 1) := by decide +kernel
theorem dX6_barOf_70 : decode cX6_barOf 70 = .ok (.getfield 22, 3) := by decide +kernel
theorem dX6_barOf_73 : decode cX6_barOf 73 = .ok (.getfield 187, 3) := by decide +kernel
theorem dX6_barOf_76 : decode cX6_barOf 76 = .ok (.iload_n 1, 1) := by decide +kernel
theorem dX6_barOf_77 : decode cX6_barOf 77 = .ok (.iconst 3, 1) := by decide +kernel
theorem dX6_barOf_78 : decode cX6_barOf 78 = .ok (.imul, 1) := by decide +kernel
theorem dX6_barOf_79 : decode cX6_barOf 79 = .ok (.iaload, 1) := by decide +kernel
theorem dX6_barOf_80 : decode cX6_barOf 80 = .ok (.ireturn, 1) := by decide +kernel
theorem dX6_barOf_81 : decode cX6_barOf 81 = .ok (.aload_n 0, 1) := by decide +kernel
theorem dX6_barOf_82 : decode cX6_barOf 82 = .ok (.getfield 22, 3) := by decide +kernel
theorem dX6_barOf_85 : decode cX6_barOf 85 = .ok (.iload_n 1, 1) := by decide +kernel
theorem dX6_barOf_86 : decode cX6_barOf 86 = .ok (.invokevirtual 184, 3) := by decide +kernel
theorem dX6_barOf_89 : decode cX6_barOf 89 = .ok (.ireturn, 1) := by decide +kernel
theorem dX6_barOf_90 : decode cX6_barOf 90 = .ok (.bipush (-2), 2) := by decide +kernel
theorem dX6_barOf_92 : decode cX6_barOf 92 = .ok (.ireturn, 1) := by decide +kernel
theorem dX6_item_0 : decode cX6_item 0 = .ok (.iload_n 1, 1) := by decide +kernel
theorem dX6_item_1 : decode cX6_item 1 = .ok (.ifCond .lt 14, 3) := by decide +kernel
theorem dX6_item_4 : decode cX6_item 4 = .ok (.iload_n 1, 1) := by decide +kernel
theorem dX6_item_5 : decode cX6_item 5 = .ok (.aload_n 0, 1) := by decide +kernel
theorem dX6_item_6 : decode cX6_item 6 = .ok (.getfield 22, 3) := by decide +kernel
theorem dX6_item_9 : decode cX6_item 9 = .ok (.getfield 138, 3) := by decide +kernel
theorem dX6_item_12 : decode cX6_item 12 = .ok (.if_icmp .lt 5, 3) := by decide +kernel
theorem dX6_item_15 : decode cX6_item 15 = .ok (.iconst (-1), 1) := by decide +kernel
theorem dX6_item_16 : decode cX6_item 16 = .ok (.ireturn, 1) := by decide +kernel
theorem dX6_item_17 : decode cX6_item 17 = .ok (.iload_n 2, 1) := by decide +kernel
theorem dX6_item_18 : decode cX6_item 18 = .ok (.tableswitch 211 0 14 #[74, 84, 94, 119, 129, 139, 149, 159, 168, 178, 188, 198, 198, 198, 198], 74) := by decide +kernel
theorem dX6_item_92 : decode cX6_item 92 = .ok (.aload_n 0, 1) := by decide +kernel
theorem dX6_item_93 : decode cX6_item 93 = .ok (.getfield 22, 3) := by decide +kernel
theorem dX6_item_96 : decode cX6_item 96 = .ok (.getfield 190, 3) := by decide +kernel
theorem dX6_item_99 : decode cX6_item 99 = .ok (.iload_n 1, 1) := by decide +kernel
theorem dX6_item_100 : decode cX6_item 100 = .ok (.iaload, 1) := by decide +kernel
theorem dX6_item_101 : decode cX6_item 101 = .ok (.ireturn, 1) := by decide +kernel
theorem dX6_item_102 : decode cX6_item 102 = .ok (.aload_n 0, 1) := by decide +kernel
theorem dX6_item_103 : decode cX6_item 103 = .ok (.getfield 22, 3) := by decide +kernel
theorem dX6_item_106 : decode cX6_item 106 = .ok (.getfield 193, 3) := by decide +kernel
theorem dX6_item_109 : decode cX6_item 109 = .ok (.iload_n 1, 1) := by decide +kernel
theorem dX6_item_110 : decode cX6_item 110 = .ok (.iaload, 1) := by decide +kernel
theorem dX6_item_111 : decode cX6_item 111 = .ok (.ireturn, 1) := by decide +kernel
theorem dX6_item_112 : decode cX6_item 112 = .ok (.aload_n 0, 1) := by decide +kernel
theorem dX6_item_113 : decode cX6_item 113 = .ok (.getfield 22, 3) := by decide +kernel
theorem dX6_item_116 : decode cX6_item 116 = .ok (.iload_n 1, 1) := by decide +kernel
theorem dX6_item_117 : decode cX6_item 117 = .ok (.invokevirtual 144, 3) := by decide +kernel
theorem dX6_item_120 : decode cX6_item 120 = .ok (.ifCond .eq 15, 3) := by decide +kernel
theorem dX6_item_123 : decode cX6_item 123 = .ok (.aload_n 0, 1) := by decide +kernel
theorem dX6_item_124 : decode cX6_item 124 = .ok (.getfield 22, 3) := by decide +kernel
theorem dX6_item_127 : decode cX6_item 127 = .ok (.getfield 196, 3) := by decide +kernel
theorem dX6_item_130 : decode cX6_item 130 = .ok (.iload_n 1, 1) := by decide +kernel
theorem dX6_item_131 : decode cX6_item 131 = .ok (.iaload, 1) := by decide +kernel
theorem dX6_item_132 : decode cX6_item 132 = .ok (.goto 4, 3) := by decide +kernel
theorem dX6_item_135 : decode cX6_item 135 = .ok (.iconst (-1), 1) := by decide +kernel
theorem dX6_item_136 : decode cX6_item 136 = .ok (.ireturn, 1) := by decide +kernel
theorem dX6_item_137 : decode cX6_item 137 = .ok (.aload_n 0, 1) := by decide +kernel
theorem dX6_item_138 : decode cX6_item 138 = .ok (.getfield 22, 3) := by decide +kernel
theorem dX6_item_141 : decode cX6_item 141 = .ok (.getfield 199, 3) := by decide +kernel
theorem dX6_item_144 : decode cX6_item 144 = .ok (.iload_n 1, 1) := by decide +kernel
theorem dX6_item_145 : decode cX6_item 145 = .ok (.iaload, 1) := by decide +kernel
theorem dX6_item_146 : decode cX6_item 146 = .ok (.ireturn, 1) := by decide +kernel
theorem dX6_item_147 : decode cX6_item 147 = .ok (.aload_n 0, 1) := by decide +kernel
theorem dX6_item_148 : decode cX6_item 148 = .ok (.getfield 22, 3) := by decide +kernel
theorem dX6_item_151 : decode cX6_item 151 = .ok (.getfield 202, 3) := by decide +kernel
theorem dX6_item_154 : decode cX6_item 154 = .ok (.iload_n 1, 1) := by decide +kernel
theorem dX6_item_155 : decode cX6_item 155 = .ok (.iaload, 1) := by decide +kernel
theorem dX6_item_156 : decode cX6_item 156 = .ok (.ireturn, 1) := by decide +kernel
theorem dX6_item_157 : decode cX6_item 157 = .ok (.aload_n 0, 1) := by decide +kernel
theorem dX6_item_158 : decode cX6_item 158 = .ok (.getfield 22, 3) := by decide +kernel
theorem dX6_item_161 : decode cX6_item 161 = .ok (.getfield 205, 3) := by decide +kernel
theorem dX6_item_164 : decode cX6_item 164 = .ok (.iload_n 1, 1) := by decide +kernel
theorem dX6_item_165 : decode cX6_item 165 = .ok (.iaload, 1) := by decide +kernel
theorem dX6_item_166 : decode cX6_item 166 = .ok (.ireturn, 1) := by decide +kernel
theorem dX6_item_167 : decode cX6_item 167 = .ok (.aload_n 0, 1) := by decide +kernel
theorem dX6_item_168 : decode cX6_item 168 = .ok (.getfield 22, 3) := by decide +kernel
theorem dX6_item_171 : decode cX6_item 171 = .ok (.getfield 208, 3) := by decide +kernel
theorem dX6_item_174 : decode cX6_item 174 = .ok (.iload_n 1, 1) := by decide +kernel
theorem dX6_item_175 : decode cX6_item 175 = .ok (.iaload, 1) := by decide +kernel
theorem dX6_item_176 : decode cX6_item 176 = .ok (.ireturn, 1) := by decide +kernel
theorem dX6_item_177 : decode cX6_item 177 = .ok (.aload_n 0, 1) := by decide +kernel
theorem dX6_item_178 : decode cX6_item 178 = .ok (.getfield 22, 3) := by decide +kernel
theorem dX6_item_181 : decode cX6_item 181 = .ok (.iload_n 1, 1) := by decide +kernel
theorem dX6_item_182 : decode cX6_item 182 = .ok (.invokevirtual 211, 3) := by decide +kernel
theorem dX6_item_185 : decode cX6_item 185 = .ok (.ireturn, 1) := by decide +kernel
theorem dX6_item_186 : decode cX6_item 186 = .ok (.aload_n 0, 1) := by decide +kernel
theorem dX6_item_187 : decode cX6_item 187 = .ok (.getfield 22, 3) := by decide +kernel
theorem dX6_item_190 : decode cX6_item 190 = .ok (.getfield 157, 3) := by decide +kernel
theorem dX6_item_193 : decode cX6_item 193 = .ok (.iload_n 1, 1) := by decide +kernel
theorem dX6_item_194 : decode cX6_item 194 = .ok (.iaload, 1) := by decide +kernel
theorem dX6_item_195 : decode cX6_item 195 = .ok (.ireturn, 1) := by decide +kernel
theorem dX6_item_196 : decode cX6_item 196 = .ok (.aload_n 0, 1) := by decide +kernel
theorem dX6_item_197 : decode cX6_item 197 = .ok (.getfield 22, 3) := by decide +kernel
theorem dX6_item_200 : decode cX6_item 200 = .ok (.getfield 160, 3) := by decide +kernel
theorem dX6_item_203 : decode cX6_item 203 = .ok (.iload_n 1, 1) := by decide +kernel
theorem dX6_item_204 : decode cX6_item 204 = .ok (.iaload, 1) := by decide +kernel
theorem dX6_item_205 : decode cX6_item 205 = .ok (.ireturn, 1) := by decide +kernel
theorem dX6_item_206 : decode cX6_item 206 = .ok (.aload_n 0, 1) := by decide +kernel
theorem dX6_item_207 : decode cX6_item 207 = .ok (.getfield 22, 3) := by decide +kernel
theorem dX6_item_210 : decode cX6_item 210 = .ok (.getfield 150, 3) := by decide +kernel
theorem dX6_item_213 : decode cX6_item 213 = .ok (.iload_n 1, 1) := by decide +kernel
theorem dX6_item_214 : decode cX6_item 214 = .ok (.iaload, 1) := by decide +kernel
theorem dX6_item_215 : decode cX6_item 215 = .ok (.ireturn, 1) := by decide +kernel
theorem dX6_item_216 : decode cX6_item 216 = .ok (.aload_n 0, 1) := by decide +kernel
theorem dX6_item_217 : decode cX6_item 217 = .ok (.getfield 22, 3) := by decide +kernel
theorem dX6_item_220 : decode cX6_item 220 = .ok (.iload_n 1, 1) := by decide +kernel
theorem dX6_item_221 : decode cX6_item 221 = .ok (.iload_n 2, 1) := by decide +kernel
theorem dX6_item_222 : decode cX6_item 222 = .ok (.bipush 11, 2) := by decide +kernel
theorem dX6_item_224 : decode cX6_item 224 = .ok (.isub, 1) := by decide +kernel
theorem dX6_item_225 : decode cX6_item 225 = .ok (.invokevirtual 214, 3) := by decide +kernel
theorem dX6_item_228 : decode cX6_item 228 = .ok (.ireturn, 1) := by decide +kernel
theorem dX6_item_229 : decode cX6_item 229 = .ok (.bipush (-2), 2) := by decide +kernel
theorem dX6_item_231 : decode cX6_item 231 = .ok (.ireturn, 1) := by decide +kernel
theorem dX6_loose_0 : decode cX6_loose 0 = .ok (.iconst 0, 1) := by decide +kernel
theorem dX6_loose_1 : decode cX6_loose 1 = .ok (.istore_n 1, 1) := by decide +kernel
theorem dX6_loose_2 : decode cX6_loose 2 = .ok (.iconst 0, 1) := by decide +kernel
theorem dX6_loose_3 : decode cX6_loose 3 = .ok (.istore_n 2, 1) := by decide +kernel
theorem dX6_loose_4 : decode cX6_loose 4 = .ok (.iload_n 2, 1) := by decide +kernel
theorem dX6_loose_5 : decode cX6_loose 5 = .ok (.aload_n 0, 1) := by decide +kernel
theorem dX6_loose_6 : decode cX6_loose 6 = .ok (.getfield 22, 3) := by decide +kernel
theorem dX6_loose_9 : decode cX6_loose 9 = .ok (.getfield 138, 3) := by decide +kernel
theorem dX6_loose_12 : decode cX6_loose 12 = .ok (.if_icmp .ge 71, 3) := by decide +kernel
theorem dX6_loose_15 : decode cX6_loose 15 = .ok (.iload_n 2, 1) := by decide +kernel
theorem dX6_loose_16 : decode cX6_loose 16 = .ok (.iconst 1, 1) := by decide +kernel
theorem dX6_loose_17 : decode cX6_loose 17 = .ok (.iadd, 1) := by decide +kernel
theorem dX6_loose_18 : decode cX6_loose 18 = .ok (.aload_n 0, 1) := by decide +kernel
theorem dX6_loose_19 : decode cX6_loose 19 = .ok (.getfield 22, 3) := by decide +kernel
theorem dX6_loose_22 : decode cX6_loose 22 = .ok (.getfield 138, 3) := by decide +kernel
theorem dX6_loose_25 : decode cX6_loose 25 = .ok (.if_icmp .ge 30, 3) := by decide +kernel
theorem dX6_loose_28 : decode cX6_loose 28 = .ok (.aload_n 0, 1) := by decide +kernel
theorem dX6_loose_29 : decode cX6_loose 29 = .ok (.getfield 22, 3) := by decide +kernel
theorem dX6_loose_32 : decode cX6_loose 32 = .ok (.getfield 196, 3) := by decide +kernel
theorem dX6_loose_35 : decode cX6_loose 35 = .ok (.iload_n 2, 1) := by decide +kernel
theorem dX6_loose_36 : decode cX6_loose 36 = .ok (.iconst 1, 1) := by decide +kernel
theorem dX6_loose_37 : decode cX6_loose 37 = .ok (.iadd, 1) := by decide +kernel
theorem dX6_loose_38 : decode cX6_loose 38 = .ok (.iaload, 1) := by decide +kernel
theorem dX6_loose_39 : decode cX6_loose 39 = .ok (.aload_n 0, 1) := by decide +kernel
theorem dX6_loose_40 : decode cX6_loose 40 = .ok (.getfield 22, 3) := by decide +kernel
theorem dX6_loose_43 : decode cX6_loose 43 = .ok (.getfield 196, 3) := by decide +kernel
theorem dX6_loose_46 : decode cX6_loose 46 = .ok (.iload_n 2, 1) := by decide +kernel
theorem dX6_loose_47 : decode cX6_loose 47 = .ok (.iaload, 1) := by decide +kernel
theorem dX6_loose_48 : decode cX6_loose 48 = .ok (.if_icmp .ne 7, 3) := by decide +kernel
theorem dX6_loose_51 : decode cX6_loose 51 = .ok (.iconst 1, 1) := by decide +kernel
theorem dX6_loose_52 : decode cX6_loose 52 = .ok (.goto 4, 3) := by decide +kernel
theorem dX6_loose_55 : decode cX6_loose 55 = .ok (.iconst 0, 1) := by decide +kernel
theorem dX6_loose_56 : decode cX6_loose 56 = .ok (.istore_n 3, 1) := by decide +kernel
theorem dX6_loose_57 : decode cX6_loose 57 = .ok (.aload_n 0, 1) := by decide +kernel
theorem dX6_loose_58 : decode cX6_loose 58 = .ok (.getfield 22, 3) := by decide +kernel
theorem dX6_loose_61 : decode cX6_loose 61 = .ok (.getfield 157, 3) := by decide +kernel
theorem dX6_loose_64 : decode cX6_loose 64 = .ok (.iload_n 2, 1) := by decide +kernel
theorem dX6_loose_65 : decode cX6_loose 65 = .ok (.iaload, 1) := by decide +kernel
theorem dX6_loose_66 : decode cX6_loose 66 = .ok (.iconst 1, 1) := by decide +kernel
theorem dX6_loose_67 : decode cX6_loose 67 = .ok (.if_icmp .ne 10, 3) := by decide +kernel
theorem dX6_loose_70 : decode cX6_loose 70 = .ok (.iload_n 3, 1) := by decide +kernel
theorem dX6_loose_71 : decode cX6_loose 71 = .ok (.ifCond .ne 6, 3) := by decide +kernel
theorem dX6_loose_74 : decode cX6_loose 74 = .ok (.iinc 1 1, 3) := by decide +kernel
theorem dX6_loose_77 : decode cX6_loose 77 = .ok (.iinc 2 1, 3) := by decide +kernel
theorem dX6_loose_80 : decode cX6_loose 80 = .ok (.goto (-76), 3) := by decide +kernel
theorem dX6_loose_83 : decode cX6_loose 83 = .ok (.iload_n 1, 1) := by decide +kernel
theorem dX6_loose_84 : decode cX6_loose 84 = .ok (.ireturn, 1) := by decide +kernel
theorem dX6_told_0 : decode cX6_told 0 = .ok (.iload_n 1, 1) := by decide +kernel
theorem dX6_told_1 : decode cX6_told 1 = .ok (.tableswitch 108 0 5 #[39, 47, 55, 63, 71, 79], 39) := by decide +kernel
theorem dX6_told_40 : decode cX6_told 40 = .ok (.aload_n 0, 1) := by decide +kernel
