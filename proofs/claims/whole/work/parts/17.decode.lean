theorem dX7_interval_132 : decode cX7_interval 132 = .ok (.imul, 1) := by decide +kernel
theorem dX7_interval_133 : decode cX7_interval 133 = .ok (.iadd, 1) := by decide +kernel
theorem dX7_interval_134 : decode cX7_interval 134 = .ok (.iastore, 1) := by decide +kernel
theorem dX7_interval_135 : decode cX7_interval 135 = .ok (.aload_n 0, 1) := by decide +kernel
theorem dX7_interval_136 : decode cX7_interval 136 = .ok (.getfield 74, 3) := by decide +kernel
theorem dX7_interval_139 : decode cX7_interval 139 = .ok (.iload_n 3, 1) := by decide +kernel
theorem dX7_interval_140 : decode cX7_interval 140 = .ok (.dup2, 1) := by decide +kernel
theorem dX7_interval_141 : decode cX7_interval 141 = .ok (.iaload, 1) := by decide +kernel
theorem dX7_interval_142 : decode cX7_interval 142 = .ok (.iconst 1, 1) := by decide +kernel
theorem dX7_interval_143 : decode cX7_interval 143 = .ok (.iadd, 1) := by decide +kernel
theorem dX7_interval_144 : decode cX7_interval 144 = .ok (.iastore, 1) := by decide +kernel
theorem dX7_interval_145 : decode cX7_interval 145 = .ok (.aload_n 0, 1) := by decide +kernel
theorem dX7_interval_146 : decode cX7_interval 146 = .ok (.getfield 74, 3) := by decide +kernel
theorem dX7_interval_149 : decode cX7_interval 149 = .ok (.iload_n 3, 1) := by decide +kernel
theorem dX7_interval_150 : decode cX7_interval 150 = .ok (.iaload, 1) := by decide +kernel
theorem dX7_interval_151 : decode cX7_interval 151 = .ok (.ireturn, 1) := by decide +kernel
theorem dX7_tie_0 : decode cX7_tie 0 = .ok (.aload_n 0, 1) := by decide +kernel
theorem dX7_tie_1 : decode cX7_tie 1 = .ok (.getfield 35, 3) := by decide +kernel
theorem dX7_tie_4 : decode cX7_tie 4 = .ok (.iconst 0, 1) := by decide +kernel
theorem dX7_tie_5 : decode cX7_tie 5 = .ok (.iaload, 1) := by decide +kernel
theorem dX7_tie_6 : decode cX7_tie 6 = .ok (.iconst 1, 1) := by decide +kernel
theorem dX7_tie_7 : decode cX7_tie 7 = .ok (.isub, 1) := by decide +kernel
theorem dX7_tie_8 : decode cX7_tie 8 = .ok (.istore_n 2, 1) := by decide +kernel
theorem dX7_tie_9 : decode cX7_tie 9 = .ok (.iload_n 2, 1) := by decide +kernel
theorem dX7_tie_10 : decode cX7_tie 10 = .ok (.ifCond .lt 12, 3) := by decide +kernel
theorem dX7_tie_13 : decode cX7_tie 13 = .ok (.aload_n 0, 1) := by decide +kernel
theorem dX7_tie_14 : decode cX7_tie 14 = .ok (.getfield 53, 3) := by decide +kernel
theorem dX7_tie_17 : decode cX7_tie 17 = .ok (.iload_n 2, 1) := by decide +kernel
theorem dX7_tie_18 : decode cX7_tie 18 = .ok (.iaload, 1) := by decide +kernel
theorem dX7_tie_19 : decode cX7_tie 19 = .ok (.ifCond .ge 6, 3) := by decide +kernel
theorem dX7_tie_22 : decode cX7_tie 22 = .ok (.bipush (-3), 2) := by decide +kernel
theorem dX7_tie_24 : decode cX7_tie 24 = .ok (.ireturn, 1) := by decide +kernel
theorem dX7_tie_25 : decode cX7_tie 25 = .ok (.aload_n 0, 1) := by decide +kernel
theorem dX7_tie_26 : decode cX7_tie 26 = .ok (.getfield 68, 3) := by decide +kernel
theorem dX7_tie_29 : decode cX7_tie 29 = .ok (.iload_n 2, 1) := by decide +kernel
theorem dX7_tie_30 : decode cX7_tie 30 = .ok (.iaload, 1) := by decide +kernel
theorem dX7_tie_31 : decode cX7_tie 31 = .ok (.istore_n 3, 1) := by decide +kernel
theorem dX7_tie_32 : decode cX7_tie 32 = .ok (.aload_n 0, 1) := by decide +kernel
theorem dX7_tie_33 : decode cX7_tie 33 = .ok (.getfield 68, 3) := by decide +kernel
theorem dX7_tie_36 : decode cX7_tie 36 = .ok (.iload_n 2, 1) := by decide +kernel
theorem dX7_tie_37 : decode cX7_tie 37 = .ok (.iload_n 1, 1) := by decide +kernel
theorem dX7_tie_38 : decode cX7_tie 38 = .ok (.ifCond .eq 7, 3) := by decide +kernel
theorem dX7_tie_41 : decode cX7_tie 41 = .ok (.iconst 1, 1) := by decide +kernel
theorem dX7_tie_42 : decode cX7_tie 42 = .ok (.goto 4, 3) := by decide +kernel
theorem dX7_tie_45 : decode cX7_tie 45 = .ok (.iconst 0, 1) := by decide +kernel
theorem dX7_tie_46 : decode cX7_tie 46 = .ok (.iastore, 1) := by decide +kernel
theorem dX7_tie_47 : decode cX7_tie 47 = .ok (.iload_n 3, 1) := by decide +kernel
theorem dX7_tie_48 : decode cX7_tie 48 = .ok (.ireturn, 1) := by decide +kernel
theorem dX7_slur_0 : decode cX7_slur 0 = .ok (.iload_n 1, 1) := by decide +kernel
theorem dX7_slur_1 : decode cX7_slur 1 = .ok (.ifCond .lt 13, 3) := by decide +kernel
theorem dX7_slur_4 : decode cX7_slur 4 = .ok (.iload_n 1, 1) := by decide +kernel
theorem dX7_slur_5 : decode cX7_slur 5 = .ok (.aload_n 0, 1) := by decide +kernel
theorem dX7_slur_6 : decode cX7_slur 6 = .ok (.getfield 35, 3) := by decide +kernel
theorem dX7_slur_9 : decode cX7_slur 9 = .ok (.iconst 0, 1) := by decide +kernel
theorem dX7_slur_10 : decode cX7_slur 10 = .ok (.iaload, 1) := by decide +kernel
theorem dX7_slur_11 : decode cX7_slur 11 = .ok (.if_icmp .lt 5, 3) := by decide +kernel
theorem dX7_slur_14 : decode cX7_slur 14 = .ok (.iconst (-1), 1) := by decide +kernel
theorem dX7_slur_15 : decode cX7_slur 15 = .ok (.ireturn, 1) := by decide +kernel
theorem dX7_slur_16 : decode cX7_slur 16 = .ok (.aload_n 0, 1) := by decide +kernel
theorem dX7_slur_17 : decode cX7_slur 17 = .ok (.getfield 71, 3) := by decide +kernel
theorem dX7_slur_20 : decode cX7_slur 20 = .ok (.iload_n 1, 1) := by decide +kernel
theorem dX7_slur_21 : decode cX7_slur 21 = .ok (.iaload, 1) := by decide +kernel
theorem dX7_slur_22 : decode cX7_slur 22 = .ok (.istore_n 3, 1) := by decide +kernel
theorem dX7_slur_23 : decode cX7_slur 23 = .ok (.aload_n 0, 1) := by decide +kernel
theorem dX7_slur_24 : decode cX7_slur 24 = .ok (.getfield 71, 3) := by decide +kernel
theorem dX7_slur_27 : decode cX7_slur 27 = .ok (.iload_n 1, 1) := by decide +kernel
theorem dX7_slur_28 : decode cX7_slur 28 = .ok (.iload_n 2, 1) := by decide +kernel
theorem dX7_slur_29 : decode cX7_slur 29 = .ok (.ifCond .eq 7, 3) := by decide +kernel
theorem dX7_slur_32 : decode cX7_slur 32 = .ok (.iconst 1, 1) := by decide +kernel
theorem dX7_slur_33 : decode cX7_slur 33 = .ok (.goto 4, 3) := by decide +kernel
theorem dX7_slur_36 : decode cX7_slur 36 = .ok (.iconst 0, 1) := by decide +kernel
theorem dX7_slur_37 : decode cX7_slur 37 = .ok (.iastore, 1) := by decide +kernel
theorem dX7_slur_38 : decode cX7_slur 38 = .ok (.iload_n 3, 1) := by decide +kernel
theorem dX7_slur_39 : decode cX7_slur 39 = .ok (.ireturn, 1) := by decide +kernel
theorem dX7_isVoice_0 : decode cX7_isVoice 0 = .ok (.iload_n 1, 1) := by decide +kernel
theorem dX7_isVoice_1 : decode cX7_isVoice 1 = .ok (.ifCond .lt 31, 3) := by decide +kernel
theorem dX7_isVoice_4 : decode cX7_isVoice 4 = .ok (.iload_n 1, 1) := by decide +kernel
theorem dX7_isVoice_5 : decode cX7_isVoice 5 = .ok (.aload_n 0, 1) := by decide +kernel
theorem dX7_isVoice_6 : decode cX7_isVoice 6 = .ok (.getfield 32, 3) := by decide +kernel
theorem dX7_isVoice_9 : decode cX7_isVoice 9 = .ok (.iconst 0, 1) := by decide +kernel
theorem dX7_isVoice_10 : decode cX7_isVoice 10 = .ok (.iaload, 1) := by decide +kernel
theorem dX7_isVoice_11 : decode cX7_isVoice 11 = .ok (.if_icmp .ge 21, 3) := by decide +kernel
theorem dX7_isVoice_14 : decode cX7_isVoice 14 = .ok (.iload_n 2, 1) := by decide +kernel
theorem dX7_isVoice_15 : decode cX7_isVoice 15 = .ok (.ifCond .lt 17, 3) := by decide +kernel
theorem dX7_isVoice_18 : decode cX7_isVoice 18 = .ok (.iload_n 2, 1) := by decide +kernel
theorem dX7_isVoice_19 : decode cX7_isVoice 19 = .ok (.aload_n 0, 1) := by decide +kernel
theorem dX7_isVoice_20 : decode cX7_isVoice 20 = .ok (.getfield 44, 3) := by decide +kernel
theorem dX7_isVoice_23 : decode cX7_isVoice 23 = .ok (.iload_n 1, 1) := by decide +kernel
theorem dX7_isVoice_24 : decode cX7_isVoice 24 = .ok (.iaload, 1) := by decide +kernel
theorem dX7_isVoice_25 : decode cX7_isVoice 25 = .ok (.if_icmp .ge 7, 3) := by decide +kernel
theorem dX7_isVoice_28 : decode cX7_isVoice 28 = .ok (.iconst 1, 1) := by decide +kernel
theorem dX7_isVoice_29 : decode cX7_isVoice 29 = .ok (.goto 4, 3) := by decide +kernel
theorem dX7_isVoice_32 : decode cX7_isVoice 32 = .ok (.iconst 0, 1) := by decide +kernel
theorem dX7_isVoice_33 : decode cX7_isVoice 33 = .ok (.ireturn, 1) := by decide +kernel
theorem dX7_isSigned_0 : decode cX7_isSigned 0 = .ok (.aload_n 0, 1) := by decide +kernel
theorem dX7_isSigned_1 : decode cX7_isSigned 1 = .ok (.iconst 0, 1) := by decide +kernel
theorem dX7_isSigned_2 : decode cX7_isSigned 2 = .ok (.iload_n 1, 1) := by decide +kernel
theorem dX7_isSigned_3 : decode cX7_isSigned 3 = .ok (.iload_n 2, 1) := by decide +kernel
theorem dX7_isSigned_4 : decode cX7_isSigned 4 = .ok (.invokevirtual 218, 3) := by decide +kernel
theorem dX7_isSigned_7 : decode cX7_isSigned 7 = .ok (.istore_n 3, 1) := by decide +kernel
theorem dX7_isSigned_8 : decode cX7_isSigned 8 = .ok (.aload_n 0, 1) := by decide +kernel
theorem dX7_isSigned_9 : decode cX7_isSigned 9 = .ok (.iconst 0, 1) := by decide +kernel
theorem dX7_isSigned_10 : decode cX7_isSigned 10 = .ok (.iload_n 1, 1) := by decide +kernel
theorem dX7_isSigned_11 : decode cX7_isSigned 11 = .ok (.iload_n 2, 1) := by decide +kernel
theorem dX7_isSigned_12 : decode cX7_isSigned 12 = .ok (.invokevirtual 215, 3) := by decide +kernel
theorem dX7_isSigned_15 : decode cX7_isSigned 15 = .ok (.istore 4, 2) := by decide +kernel
theorem dX7_isSigned_17 : decode cX7_isSigned 17 = .ok (.aload_n 0, 1) := by decide +kernel
theorem dX7_isSigned_18 : decode cX7_isSigned 18 = .ok (.getfield 62, 3) := by decide +kernel
theorem dX7_isSigned_21 : decode cX7_isSigned 21 = .ok (.iload_n 3, 1) := by decide +kernel
theorem dX7_isSigned_22 : decode cX7_isSigned 22 = .ok (.iaload, 1) := by decide +kernel
theorem dX7_isSigned_23 : decode cX7_isSigned 23 = .ok (.iconst 2, 1) := by decide +kernel
theorem dX7_isSigned_24 : decode cX7_isSigned 24 = .ok (.if_icmp .ne 5, 3) := by decide +kernel
theorem dX7_isSigned_27 : decode cX7_isSigned 27 = .ok (.iconst 0, 1) := by decide +kernel
theorem dX7_isSigned_28 : decode cX7_isSigned 28 = .ok (.ireturn, 1) := by decide +kernel
theorem dX7_isSigned_29 : decode cX7_isSigned 29 = .ok (.iload 4, 2) := by decide +kernel
theorem dX7_isSigned_31 : decode cX7_isSigned 31 = .ok (.iconst 1, 1) := by decide +kernel
theorem dX7_isSigned_32 : decode cX7_isSigned 32 = .ok (.if_icmp .ne 32, 3) := by decide +kernel
theorem dX7_isSigned_35 : decode cX7_isSigned 35 = .ok (.aload_n 0, 1) := by decide +kernel
theorem dX7_isSigned_36 : decode cX7_isSigned 36 = .ok (.getfield 53, 3) := by decide +kernel
theorem dX7_isSigned_39 : decode cX7_isSigned 39 = .ok (.iload_n 3, 1) := by decide +kernel
theorem dX7_isSigned_40 : decode cX7_isSigned 40 = .ok (.iaload, 1) := by decide +kernel
theorem dX7_isSigned_41 : decode cX7_isSigned 41 = .ok (.ifCond .ge 23, 3) := by decide +kernel
theorem dX7_isSigned_44 : decode cX7_isSigned 44 = .ok (.aload_n 0, 1) := by decide +kernel
theorem dX7_isSigned_45 : decode cX7_isSigned 45 = .ok (.getfield 59, 3) := by decide +kernel
theorem dX7_isSigned_48 : decode cX7_isSigned 48 = .ok (.iload_n 3, 1) := by decide +kernel
theorem dX7_isSigned_49 : decode cX7_isSigned 49 = .ok (.iaload, 1) := by decide +kernel
theorem dX7_isSigned_50 : decode cX7_isSigned 50 = .ok (.ifCond .ne 14, 3) := by decide +kernel
theorem dX7_isSigned_53 : decode cX7_isSigned 53 = .ok (.aload_n 0, 1) := by decide +kernel
theorem dX7_isSigned_54 : decode cX7_isSigned 54 = .ok (.getfield 65, 3) := by decide +kernel
theorem dX7_isSigned_57 : decode cX7_isSigned 57 = .ok (.iload_n 3, 1) := by decide +kernel
theorem dX7_isSigned_58 : decode cX7_isSigned 58 = .ok (.iaload, 1) := by decide +kernel
theorem dX7_isSigned_59 : decode cX7_isSigned 59 = .ok (.ifCond .ne 5, 3) := by decide +kernel
theorem dX7_isSigned_62 : decode cX7_isSigned 62 = .ok (.iconst 1, 1) := by decide +kernel
theorem dX7_isSigned_63 : decode cX7_isSigned 63 = .ok (.ireturn, 1) := by decide +kernel
theorem dX7_isSigned_64 : decode cX7_isSigned 64 = .ok (.iconst 0, 1) := by decide +kernel
theorem dX7_isSigned_65 : decode cX7_isSigned 65 = .ok (.istore 5, 2) := by decide +kernel
theorem dX7_isSigned_67 : decode cX7_isSigned 67 = .ok (.iload 5, 2) := by decide +kernel
theorem dX7_isSigned_69 : decode cX7_isSigned 69 = .ok (.iload 4, 2) := by decide +kernel
theorem dX7_isSigned_71 : decode cX7_isSigned 71 = .ok (.if_icmp .ge 17, 3) := by decide +kernel
theorem dX7_isSigned_74 : decode cX7_isSigned 74 = .ok (.aload_n 0, 1) := by decide +kernel
theorem dX7_isSigned_75 : decode cX7_isSigned 75 = .ok (.getfield 84, 3) := by decide +kernel
theorem dX7_isSigned_78 : decode cX7_isSigned 78 = .ok (.iload 5, 2) := by decide +kernel
theorem dX7_isSigned_80 : decode cX7_isSigned 80 = .ok (.iconst (-1), 1) := by decide +kernel
theorem dX7_isSigned_81 : decode cX7_isSigned 81 = .ok (.iastore, 1) := by decide +kernel
theorem dX7_isSigned_82 : decode cX7_isSigned 82 = .ok (.iinc 5 1, 3) := by decide +kernel
theorem dX7_isSigned_85 : decode cX7_isSigned 85 = .ok (.goto (-18), 3) := by decide +kernel
theorem dX7_isSigned_88 : decode cX7_isSigned 88 = .ok (.aload_n 0, 1) := by decide +kernel
theorem dX7_isSigned_89 : decode cX7_isSigned 89 = .ok (.iload_n 3, 1) := by decide +kernel
theorem dX7_isSigned_90 : decode cX7_isSigned 90 = .ok (.iload 4, 2) := by decide +kernel
theorem dX7_isSigned_92 : decode cX7_isSigned 92 = .ok (.invokevirtual 196, 3) := by decide +kernel
theorem dX7_isSigned_95 : decode cX7_isSigned 95 = .ok (.istore 5, 2) := by decide +kernel
theorem dX7_isSigned_97 : decode cX7_isSigned 97 = .ok (.iconst 0, 1) := by decide +kernel
theorem dX7_isSigned_98 : decode cX7_isSigned 98 = .ok (.istore 6, 2) := by decide +kernel
theorem dX7_isSigned_100 : decode cX7_isSigned 100 = .ok (.iload 6, 2) := by decide +kernel
theorem dX7_isSigned_102 : decode cX7_isSigned 102 = .ok (.iload 4, 2) := by decide +kernel
theorem dX7_isSigned_104 : decode cX7_isSigned 104 = .ok (.if_icmp .ge 40, 3) := by decide +kernel
theorem dX7_isSigned_107 : decode cX7_isSigned 107 = .ok (.iload 5, 2) := by decide +kernel
theorem dX7_isSigned_109 : decode cX7_isSigned 109 = .ok (.ifCond .eq 35, 3) := by decide +kernel
theorem dX7_isSigned_112 : decode cX7_isSigned 112 = .ok (.aload_n 0, 1) := by decide +kernel
theorem dX7_isSigned_113 : decode cX7_isSigned 113 = .ok (.getfield 87, 3) := by decide +kernel
theorem dX7_isSigned_116 : decode cX7_isSigned 116 = .ok (.iload 6, 2) := by decide +kernel
theorem dX7_isSigned_118 : decode cX7_isSigned 118 = .ok (.iaload, 1) := by decide +kernel
theorem dX7_isSigned_119 : decode cX7_isSigned 119 = .ok (.aload_n 0, 1) := by decide +kernel
theorem dX7_isSigned_120 : decode cX7_isSigned 120 = .ok (.getfield 62, 3) := by decide +kernel
theorem dX7_isSigned_123 : decode cX7_isSigned 123 = .ok (.iload_n 3, 1) := by decide +kernel
theorem dX7_isSigned_124 : decode cX7_isSigned 124 = .ok (.iload 6, 2) := by decide +kernel
theorem dX7_isSigned_126 : decode cX7_isSigned 126 = .ok (.iadd, 1) := by decide +kernel
theorem dX7_isSigned_127 : decode cX7_isSigned 127 = .ok (.iaload, 1) := by decide +kernel
theorem dX7_isSigned_128 : decode cX7_isSigned 128 = .ok (.if_icmp .ne 7, 3) := by decide +kernel
theorem dX7_isSigned_131 : decode cX7_isSigned 131 = .ok (.iconst 1, 1) := by decide +kernel
theorem dX7_isSigned_132 : decode cX7_isSigned 132 = .ok (.goto 4, 3) := by decide +kernel
theorem dX7_isSigned_135 : decode cX7_isSigned 135 = .ok (.iconst 0, 1) := by decide +kernel
theorem dX7_isSigned_136 : decode cX7_isSigned 136 = .ok (.istore 5, 2) := by decide +kernel
theorem dX7_isSigned_138 : decode cX7_isSigned 138 = .ok (.iinc 6 1, 3) := by decide +kernel
theorem dX7_isSigned_141 : decode cX7_isSigned 141 = .ok (.goto (-41), 3) := by decide +kernel
theorem dX7_isSigned_144 : decode cX7_isSigned 144 = .ok (.iload 5, 2) := by decide +kernel
theorem dX7_isSigned_146 : decode cX7_isSigned 146 = .ok (.ifCond .ne 7, 3) := by decide +kernel
theorem dX7_isSigned_149 : decode cX7_isSigned 149 = .ok (.iconst 1, 1) := by decide +kernel
theorem dX7_isSigned_150 : decode cX7_isSigned 150 = .ok (.goto 4, 3) := by decide +kernel
theorem dX7_isSigned_153 : decode cX7_isSigned 153 = .ok (.iconst 0, 1) := by decide +kernel
theorem dX7_isSigned_154 : decode cX7_isSigned 154 = .ok (.ireturn, 1) := by decide +kernel
theorem dX7_slurs_0 : decode cX7_slurs 0 = .ok (.iconst 0, 1) := by decide +kernel
theorem dX7_slurs_1 : decode cX7_slurs 1 = .ok (.istore_n 1, 1) := by decide +kernel
theorem dX7_slurs_2 : decode cX7_slurs 2 = .ok (.iload_n 1, 1) := by decide +kernel
theorem dX7_slurs_3 : decode cX7_slurs 3 = .ok (.aload_n 0, 1) := by decide +kernel
theorem dX7_slurs_4 : decode cX7_slurs 4 = .ok (.getfield 35, 3) := by decide +kernel
theorem dX7_slurs_7 : decode cX7_slurs 7 = .ok (.iconst 0, 1) := by decide +kernel
theorem dX7_slurs_8 : decode cX7_slurs 8 = .ok (.iaload, 1) := by decide +kernel
theorem dX7_slurs_9 : decode cX7_slurs 9 = .ok (.if_icmp .ge 224, 3) := by decide +kernel
theorem dX7_slurs_12 : decode cX7_slurs 12 = .ok (.iload_n 1, 1) := by decide +kernel
theorem dX7_slurs_13 : decode cX7_slurs 13 = .ok (.istore_n 2, 1) := by decide +kernel
theorem dX7_slurs_14 : decode cX7_slurs 14 = .ok (.iconst 0, 1) := by decide +kernel
theorem dX7_slurs_15 : decode cX7_slurs 15 = .ok (.istore_n 3, 1) := by decide +kernel
theorem dX7_slurs_16 : decode cX7_slurs 16 = .ok (.iload_n 2, 1) := by decide +kernel
theorem dX7_slurs_17 : decode cX7_slurs 17 = .ok (.aload_n 0, 1) := by decide +kernel
theorem dX7_slurs_18 : decode cX7_slurs 18 = .ok (.getfield 35, 3) := by decide +kernel
theorem dX7_slurs_21 : decode cX7_slurs 21 = .ok (.iconst 0, 1) := by decide +kernel
theorem dX7_slurs_22 : decode cX7_slurs 22 = .ok (.iaload, 1) := by decide +kernel
theorem dX7_slurs_23 : decode cX7_slurs 23 = .ok (.if_icmp .ge 114, 3) := by decide +kernel
theorem dX7_slurs_26 : decode cX7_slurs 26 = .ok (.aload_n 0, 1) := by decide +kernel
theorem dX7_slurs_27 : decode cX7_slurs 27 = .ok (.getfield 71, 3) := by decide +kernel
theorem dX7_slurs_30 : decode cX7_slurs 30 = .ok (.iload_n 2, 1) := by decide +kernel
theorem dX7_slurs_31 : decode cX7_slurs 31 = .ok (.iaload, 1) := by decide +kernel
theorem dX7_slurs_32 : decode cX7_slurs 32 = .ok (.iconst 1, 1) := by decide +kernel
theorem dX7_slurs_33 : decode cX7_slurs 33 = .ok (.if_icmp .ne 104, 3) := by decide +kernel
theorem dX7_slurs_36 : decode cX7_slurs 36 = .ok (.aload_n 0, 1) := by decide +kernel
theorem dX7_slurs_37 : decode cX7_slurs 37 = .ok (.getfield 90, 3) := by decide +kernel
theorem dX7_slurs_40 : decode cX7_slurs 40 = .ok (.iload_n 2, 1) := by decide +kernel
theorem dX7_slurs_41 : decode cX7_slurs 41 = .ok (.iconst 0, 1) := by decide +kernel
theorem dX7_slurs_42 : decode cX7_slurs 42 = .ok (.iastore, 1) := by decide +kernel
theorem dX7_slurs_43 : decode cX7_slurs 43 = .ok (.aload_n 0, 1) := by decide +kernel
theorem dX7_slurs_44 : decode cX7_slurs 44 = .ok (.getfield 93, 3) := by decide +kernel
theorem dX7_slurs_47 : decode cX7_slurs 47 = .ok (.iload_n 2, 1) := by decide +kernel
theorem dX7_slurs_48 : decode cX7_slurs 48 = .ok (.iconst 0, 1) := by decide +kernel
theorem dX7_slurs_49 : decode cX7_slurs 49 = .ok (.iastore, 1) := by decide +kernel
theorem dX7_slurs_50 : decode cX7_slurs 50 = .ok (.aload_n 0, 1) := by decide +kernel
theorem dX7_slurs_51 : decode cX7_slurs 51 = .ok (.getfield 96, 3) := by decide +kernel
theorem dX7_slurs_54 : decode cX7_slurs 54 = .ok (.iload_n 2, 1) := by decide +kernel
theorem dX7_slurs_55 : decode cX7_slurs 55 = .ok (.iconst 1, 1) := by decide +kernel
theorem dX7_slurs_56 : decode cX7_slurs 56 = .ok (.iastore, 1) := by decide +kernel
theorem dX7_slurs_57 : decode cX7_slurs 57 = .ok (.iinc 2 1, 3) := by decide +kernel
theorem dX7_slurs_60 : decode cX7_slurs 60 = .ok (.iload_n 3, 1) := by decide +kernel
theorem dX7_slurs_61 : decode cX7_slurs 61 = .ok (.iload_n 2, 1) := by decide +kernel
theorem dX7_slurs_62 : decode cX7_slurs 62 = .ok (.aload_n 0, 1) := by decide +kernel
theorem dX7_slurs_63 : decode cX7_slurs 63 = .ok (.getfield 35, 3) := by decide +kernel
theorem dX7_slurs_66 : decode cX7_slurs 66 = .ok (.iconst 0, 1) := by decide +kernel
theorem dX7_slurs_67 : decode cX7_slurs 67 = .ok (.iaload, 1) := by decide +kernel
theorem dX7_slurs_68 : decode cX7_slurs 68 = .ok (.if_icmp .ge 63, 3) := by decide +kernel
theorem dX7_slurs_71 : decode cX7_slurs 71 = .ok (.aload_n 0, 1) := by decide +kernel
theorem dX7_slurs_72 : decode cX7_slurs 72 = .ok (.getfield 47, 3) := by decide +kernel
theorem dX7_slurs_75 : decode cX7_slurs 75 = .ok (.iload_n 2, 1) := by decide +kernel
theorem dX7_slurs_76 : decode cX7_slurs 76 = .ok (.iaload, 1) := by decide +kernel
theorem dX7_slurs_77 : decode cX7_slurs 77 = .ok (.aload_n 0, 1) := by decide +kernel
theorem dX7_slurs_78 : decode cX7_slurs 78 = .ok (.getfield 47, 3) := by decide +kernel
theorem dX7_slurs_81 : decode cX7_slurs 81 = .ok (.iload_n 2, 1) := by decide +kernel
theorem dX7_slurs_82 : decode cX7_slurs 82 = .ok (.iconst 1, 1) := by decide +kernel
theorem dX7_slurs_83 : decode cX7_slurs 83 = .ok (.isub, 1) := by decide +kernel
theorem dX7_slurs_84 : decode cX7_slurs 84 = .ok (.iaload, 1) := by decide +kernel
theorem dX7_slurs_85 : decode cX7_slurs 85 = .ok (.if_icmp .ne 23, 3) := by decide +kernel
theorem dX7_slurs_88 : decode cX7_slurs 88 = .ok (.aload_n 0, 1) := by decide +kernel
theorem dX7_slurs_89 : decode cX7_slurs 89 = .ok (.getfield 50, 3) := by decide +kernel
theorem dX7_slurs_92 : decode cX7_slurs 92 = .ok (.iload_n 2, 1) := by decide +kernel
theorem dX7_slurs_93 : decode cX7_slurs 93 = .ok (.iaload, 1) := by decide +kernel
theorem dX7_slurs_94 : decode cX7_slurs 94 = .ok (.aload_n 0, 1) := by decide +kernel
theorem dX7_slurs_95 : decode cX7_slurs 95 = .ok (.getfield 50, 3) := by decide +kernel
theorem dX7_slurs_98 : decode cX7_slurs 98 = .ok (.iload_n 2, 1) := by decide +kernel
theorem dX7_slurs_99 : decode cX7_slurs 99 = .ok (.iconst 1, 1) := by decide +kernel
theorem dX7_slurs_100 : decode cX7_slurs 100 = .ok (.isub, 1) := by decide +kernel
theorem dX7_slurs_101 : decode cX7_slurs 101 = .ok (.iaload, 1) := by decide +kernel
theorem dX7_slurs_102 : decode cX7_slurs 102 = .ok (.if_icmp .eq 29, 3) := by decide +kernel
theorem dX7_slurs_105 : decode cX7_slurs 105 = .ok (.goto 22, 3) := by decide +kernel
theorem dX7_slurs_108 : decode cX7_slurs 108 = .ok (.aload_n 0, 1) := by decide +kernel
theorem dX7_slurs_109 : decode cX7_slurs 109 = .ok (.getfield 47, 3) := by decide +kernel
theorem dX7_slurs_112 : decode cX7_slurs 112 = .ok (.iload_n 2, 1) := by decide +kernel
theorem dX7_slurs_113 : decode cX7_slurs 113 = .ok (.iaload, 1) := by decide +kernel
theorem dX7_slurs_114 : decode cX7_slurs 114 = .ok (.aload_n 0, 1) := by decide +kernel
theorem dX7_slurs_115 : decode cX7_slurs 115 = .ok (.getfield 47, 3) := by decide +kernel
theorem dX7_slurs_118 : decode cX7_slurs 118 = .ok (.iload_n 2, 1) := by decide +kernel
theorem dX7_slurs_119 : decode cX7_slurs 119 = .ok (.iconst 1, 1) := by decide +kernel
theorem dX7_slurs_120 : decode cX7_slurs 120 = .ok (.isub, 1) := by decide +kernel
theorem dX7_slurs_121 : decode cX7_slurs 121 = .ok (.iaload, 1) := by decide +kernel
theorem dX7_slurs_122 : decode cX7_slurs 122 = .ok (.iconst 1, 1) := by decide +kernel
theorem dX7_slurs_123 : decode cX7_slurs 123 = .ok (.iadd, 1) := by decide +kernel
theorem dX7_slurs_124 : decode cX7_slurs 124 = .ok (.if_icmp .le 7, 3) := by decide +kernel
theorem dX7_slurs_127 : decode cX7_slurs 127 = .ok (.iconst 1, 1) := by decide +kernel
theorem dX7_slurs_128 : decode cX7_slurs 128 = .ok (.goto 4, 3) := by decide +kernel
theorem dX7_slurs_131 : decode cX7_slurs 131 = .ok (.iconst 0, 1) := by decide +kernel
theorem dX7_slurs_132 : decode cX7_slurs 132 = .ok (.ior, 1) := by decide +kernel
theorem dX7_slurs_133 : decode cX7_slurs 133 = .ok (.istore_n 3, 1) := by decide +kernel
theorem dX7_slurs_134 : decode cX7_slurs 134 = .ok (.goto (-118), 3) := by decide +kernel
theorem dX7_slurs_137 : decode cX7_slurs 137 = .ok (.iload_n 2, 1) := by decide +kernel
theorem dX7_slurs_138 : decode cX7_slurs 138 = .ok (.aload_n 0, 1) := by decide +kernel
theorem dX7_slurs_139 : decode cX7_slurs 139 = .ok (.getfield 35, 3) := by decide +kernel
theorem dX7_slurs_142 : decode cX7_slurs 142 = .ok (.iconst 0, 1) := by decide +kernel
theorem dX7_slurs_143 : decode cX7_slurs 143 = .ok (.iaload, 1) := by decide +kernel
theorem dX7_slurs_144 : decode cX7_slurs 144 = .ok (.if_icmp .ge 24, 3) := by decide +kernel
theorem dX7_slurs_147 : decode cX7_slurs 147 = .ok (.aload_n 0, 1) := by decide +kernel
theorem dX7_slurs_148 : decode cX7_slurs 148 = .ok (.getfield 90, 3) := by decide +kernel
theorem dX7_slurs_151 : decode cX7_slurs 151 = .ok (.iload_n 2, 1) := by decide +kernel
theorem dX7_slurs_152 : decode cX7_slurs 152 = .ok (.iconst 0, 1) := by decide +kernel
theorem dX7_slurs_153 : decode cX7_slurs 153 = .ok (.iastore, 1) := by decide +kernel
theorem dX7_slurs_154 : decode cX7_slurs 154 = .ok (.aload_n 0, 1) := by decide +kernel
theorem dX7_slurs_155 : decode cX7_slurs 155 = .ok (.getfield 93, 3) := by decide +kernel
theorem dX7_slurs_158 : decode cX7_slurs 158 = .ok (.iload_n 2, 1) := by decide +kernel
theorem dX7_slurs_159 : decode cX7_slurs 159 = .ok (.iconst 0, 1) := by decide +kernel
theorem dX7_slurs_160 : decode cX7_slurs 160 = .ok (.iastore, 1) := by decide +kernel
theorem dX7_slurs_161 : decode cX7_slurs 161 = .ok (.aload_n 0, 1) := by decide +kernel
theorem dX7_slurs_162 : decode cX7_slurs 162 = .ok (.getfield 96, 3) := by decide +kernel
theorem dX7_slurs_165 : decode cX7_slurs 165 = .ok (.iload_n 2, 1) := by decide +kernel
theorem dX7_slurs_166 : decode cX7_slurs 166 = .ok (.iconst 0, 1) := by decide +kernel
theorem dX7_slurs_167 : decode cX7_slurs 167 = .ok (.iastore, 1) := by decide +kernel
theorem dX7_slurs_168 : decode cX7_slurs 168 = .ok (.iload_n 2, 1) := by decide +kernel
theorem dX7_slurs_169 : decode cX7_slurs 169 = .ok (.aload_n 0, 1) := by decide +kernel
theorem dX7_slurs_170 : decode cX7_slurs 170 = .ok (.getfield 35, 3) := by decide +kernel
theorem dX7_slurs_173 : decode cX7_slurs 173 = .ok (.iconst 0, 1) := by decide +kernel
theorem dX7_slurs_174 : decode cX7_slurs 174 = .ok (.iaload, 1) := by decide +kernel
theorem dX7_slurs_175 : decode cX7_slurs 175 = .ok (.if_icmp .ge 51, 3) := by decide +kernel
theorem dX7_slurs_178 : decode cX7_slurs 178 = .ok (.iload_n 2, 1) := by decide +kernel
theorem dX7_slurs_179 : decode cX7_slurs 179 = .ok (.iload_n 1, 1) := by decide +kernel
theorem dX7_slurs_180 : decode cX7_slurs 180 = .ok (.isub, 1) := by decide +kernel
theorem dX7_slurs_181 : decode cX7_slurs 181 = .ok (.iconst 4, 1) := by decide +kernel
theorem dX7_slurs_182 : decode cX7_slurs 182 = .ok (.if_icmp .lt 44, 3) := by decide +kernel
theorem dX7_slurs_185 : decode cX7_slurs 185 = .ok (.iload_n 3, 1) := by decide +kernel
theorem dX7_slurs_186 : decode cX7_slurs 186 = .ok (.ifCond .ne 40, 3) := by decide +kernel
theorem dX7_slurs_189 : decode cX7_slurs 189 = .ok (.iload_n 1, 1) := by decide +kernel
theorem dX7_slurs_190 : decode cX7_slurs 190 = .ok (.istore 4, 2) := by decide +kernel
theorem dX7_slurs_192 : decode cX7_slurs 192 = .ok (.iload 4, 2) := by decide +kernel
theorem dX7_slurs_194 : decode cX7_slurs 194 = .ok (.iload_n 2, 1) := by decide +kernel
theorem dX7_slurs_195 : decode cX7_slurs 195 = .ok (.if_icmp .ge 17, 3) := by decide +kernel
theorem dX7_slurs_198 : decode cX7_slurs 198 = .ok (.aload_n 0, 1) := by decide +kernel
theorem dX7_slurs_199 : decode cX7_slurs 199 = .ok (.getfield 96, 3) := by decide +kernel
theorem dX7_slurs_202 : decode cX7_slurs 202 = .ok (.iload 4, 2) := by decide +kernel
theorem dX7_slurs_204 : decode cX7_slurs 204 = .ok (.iconst 0, 1) := by decide +kernel
theorem dX7_slurs_205 : decode cX7_slurs 205 = .ok (.iastore, 1) := by decide +kernel
theorem dX7_slurs_206 : decode cX7_slurs 206 = .ok (.iinc 4 1, 3) := by decide +kernel
theorem dX7_slurs_209 : decode cX7_slurs 209 = .ok (.goto (-17), 3) := by decide +kernel
theorem dX7_slurs_212 : decode cX7_slurs 212 = .ok (.aload_n 0, 1) := by decide +kernel
theorem dX7_slurs_213 : decode cX7_slurs 213 = .ok (.getfield 90, 3) := by decide +kernel
theorem dX7_slurs_216 : decode cX7_slurs 216 = .ok (.iload_n 1, 1) := by decide +kernel
theorem dX7_slurs_217 : decode cX7_slurs 217 = .ok (.iconst 1, 1) := by decide +kernel
theorem dX7_slurs_218 : decode cX7_slurs 218 = .ok (.iastore, 1) := by decide +kernel
theorem dX7_slurs_219 : decode cX7_slurs 219 = .ok (.aload_n 0, 1) := by decide +kernel
theorem dX7_slurs_220 : decode cX7_slurs 220 = .ok (.getfield 93, 3) := by decide +kernel
theorem dX7_slurs_223 : decode cX7_slurs 223 = .ok (.iload_n 2, 1) := by decide +kernel
theorem dX7_slurs_224 : decode cX7_slurs 224 = .ok (.iconst 1, 1) := by decide +kernel
theorem dX7_slurs_225 : decode cX7_slurs 225 = .ok (.iastore, 1) := by decide +kernel
theorem dX7_slurs_226 : decode cX7_slurs 226 = .ok (.iload_n 2, 1) := by decide +kernel
theorem dX7_slurs_227 : decode cX7_slurs 227 = .ok (.iconst 1, 1) := by decide +kernel
theorem dX7_slurs_228 : decode cX7_slurs 228 = .ok (.iadd, 1) := by decide +kernel
theorem dX7_slurs_229 : decode cX7_slurs 229 = .ok (.istore_n 1, 1) := by decide +kernel
theorem dX7_slurs_230 : decode cX7_slurs 230 = .ok (.goto (-228), 3) := by decide +kernel
theorem dX7_slurs_233 : decode cX7_slurs 233 = .ok (.return_, 1) := by decide +kernel
theorem dX7_lay_0 : decode cX7_lay 0 = .ok (.aload_n 0, 1) := by decide +kernel
theorem dX7_lay_1 : decode cX7_lay 1 = .ok (.getfield 228, 3) := by decide +kernel
theorem dX7_lay_4 : decode cX7_lay 4 = .ok (.sipush 4000, 3) := by decide +kernel
theorem dX7_lay_7 : decode cX7_lay 7 = .ok (.if_icmp .ge 13, 3) := by decide +kernel
theorem dX7_lay_10 : decode cX7_lay 10 = .ok (.aload_n 0, 1) := by decide +kernel
theorem dX7_lay_11 : decode cX7_lay 11 = .ok (.getfield 102, 3) := by decide +kernel
theorem dX7_lay_14 : decode cX7_lay 14 = .ok (.aload_n 0, 1) := by decide +kernel
theorem dX7_lay_15 : decode cX7_lay 15 = .ok (.getfield 228, 3) := by decide +kernel
theorem dX7_lay_18 : decode cX7_lay 18 = .ok (.iload_n 1, 1) := by decide +kernel
theorem dX7_lay_19 : decode cX7_lay 19 = .ok (.iastore, 1) := by decide +kernel
theorem dX7_lay_20 : decode cX7_lay 20 = .ok (.aload_n 0, 1) := by decide +kernel
theorem dX7_lay_21 : decode cX7_lay 21 = .ok (.dup, 1) := by decide +kernel
theorem dX7_lay_22 : decode cX7_lay 22 = .ok (.getfield 228, 3) := by decide +kernel
theorem dX7_lay_25 : decode cX7_lay 25 = .ok (.iconst 1, 1) := by decide +kernel
theorem dX7_lay_26 : decode cX7_lay 26 = .ok (.iadd, 1) := by decide +kernel
theorem dX7_lay_27 : decode cX7_lay 27 = .ok (.putfield 228, 3) := by decide +kernel
theorem dX7_lay_30 : decode cX7_lay 30 = .ok (.return_, 1) := by decide +kernel
theorem dX7_laySign_0 : decode cX7_laySign 0 = .ok (.iload_n 1, 1) := by decide +kernel
theorem dX7_laySign_1 : decode cX7_laySign 1 = .ok (.ifCond .le 29, 3) := by decide +kernel
theorem dX7_laySign_4 : decode cX7_laySign 4 = .ok (.aload_n 0, 1) := by decide +kernel
theorem dX7_laySign_5 : decode cX7_laySign 5 = .ok (.iload_n 1, 1) := by decide +kernel
theorem dX7_laySign_6 : decode cX7_laySign 6 = .ok (.iconst 1, 1) := by decide +kernel
theorem dX7_laySign_7 : decode cX7_laySign 7 = .ok (.if_icmp .ne 8, 3) := by decide +kernel
theorem dX7_laySign_10 : decode cX7_laySign 10 = .ok (.bipush 41, 2) := by decide +kernel
theorem dX7_laySign_12 : decode cX7_laySign 12 = .ok (.goto 15, 3) := by decide +kernel
theorem dX7_laySign_15 : decode cX7_laySign 15 = .ok (.iload_n 1, 1) := by decide +kernel
theorem dX7_laySign_16 : decode cX7_laySign 16 = .ok (.iconst 2, 1) := by decide +kernel
theorem dX7_laySign_17 : decode cX7_laySign 17 = .ok (.if_icmp .ne 8, 3) := by decide +kernel
theorem dX7_laySign_20 : decode cX7_laySign 20 = .ok (.bipush 35, 2) := by decide +kernel
theorem dX7_laySign_22 : decode cX7_laySign 22 = .ok (.goto 5, 3) := by decide +kernel
theorem dX7_laySign_25 : decode cX7_laySign 25 = .ok (.bipush 33, 2) := by decide +kernel
theorem dX7_laySign_27 : decode cX7_laySign 27 = .ok (.invokevirtual 231, 3) := by decide +kernel
theorem dX7_laySign_30 : decode cX7_laySign 30 = .ok (.return_, 1) := by decide +kernel
theorem dX7_layItem_0 : decode cX7_layItem 0 = .ok (.aload_n 0, 1) := by decide +kernel
theorem dX7_layItem_1 : decode cX7_layItem 1 = .ok (.getfield 90, 3) := by decide +kernel
theorem dX7_layItem_4 : decode cX7_layItem 4 = .ok (.iload_n 1, 1) := by decide +kernel
theorem dX7_layItem_5 : decode cX7_layItem 5 = .ok (.iaload, 1) := by decide +kernel
theorem dX7_layItem_6 : decode cX7_layItem 6 = .ok (.iconst 1, 1) := by decide +kernel
theorem dX7_layItem_7 : decode cX7_layItem 7 = .ok (.if_icmp .ne 14, 3) := by decide +kernel
theorem dX7_layItem_10 : decode cX7_layItem 10 = .ok (.aload_n 0, 1) := by decide +kernel
theorem dX7_layItem_11 : decode cX7_layItem 11 = .ok (.bipush 48, 2) := by decide +kernel
theorem dX7_layItem_13 : decode cX7_layItem 13 = .ok (.invokevirtual 231, 3) := by decide +kernel
theorem dX7_layItem_16 : decode cX7_layItem 16 = .ok (.aload_n 0, 1) := by decide +kernel
theorem dX7_layItem_17 : decode cX7_layItem 17 = .ok (.iconst 3, 1) := by decide +kernel
theorem dX7_layItem_18 : decode cX7_layItem 18 = .ok (.invokevirtual 231, 3) := by decide +kernel
theorem dX7_layItem_21 : decode cX7_layItem 21 = .ok (.aload_n 0, 1) := by decide +kernel
theorem dX7_layItem_22 : decode cX7_layItem 22 = .ok (.getfield 53, 3) := by decide +kernel
theorem dX7_layItem_25 : decode cX7_layItem 25 = .ok (.iload_n 1, 1) := by decide +kernel
theorem dX7_layItem_26 : decode cX7_layItem 26 = .ok (.iaload, 1) := by decide +kernel
theorem dX7_layItem_27 : decode cX7_layItem 27 = .ok (.ifCond .ge 21, 3) := by decide +kernel
theorem dX7_layItem_30 : decode cX7_layItem 30 = .ok (.aload_n 0, 1) := by decide +kernel
theorem dX7_layItem_31 : decode cX7_layItem 31 = .ok (.aload_n 0, 1) := by decide +kernel
theorem dX7_layItem_32 : decode cX7_layItem 32 = .ok (.getfield 16, 3) := by decide +kernel
theorem dX7_layItem_35 : decode cX7_layItem 35 = .ok (.aload_n 0, 1) := by decide +kernel
theorem dX7_layItem_36 : decode cX7_layItem 36 = .ok (.getfield 59, 3) := by decide +kernel
theorem dX7_layItem_39 : decode cX7_layItem 39 = .ok (.iload_n 1, 1) := by decide +kernel
theorem dX7_layItem_40 : decode cX7_layItem 40 = .ok (.iaload, 1) := by decide +kernel
theorem dX7_layItem_41 : decode cX7_layItem 41 = .ok (.iaload, 1) := by decide +kernel
theorem dX7_layItem_42 : decode cX7_layItem 42 = .ok (.invokevirtual 231, 3) := by decide +kernel
theorem dX7_layItem_45 : decode cX7_layItem 45 = .ok (.goto 101, 3) := by decide +kernel
theorem dX7_layItem_48 : decode cX7_layItem 48 = .ok (.aload_n 0, 1) := by decide +kernel
theorem dX7_layItem_49 : decode cX7_layItem 49 = .ok (.aload_n 0, 1) := by decide +kernel
theorem dX7_layItem_50 : decode cX7_layItem 50 = .ok (.getfield 56, 3) := by decide +kernel
theorem dX7_layItem_53 : decode cX7_layItem 53 = .ok (.iload_n 1, 1) := by decide +kernel
theorem dX7_layItem_54 : decode cX7_layItem 54 = .ok (.iaload, 1) := by decide +kernel
theorem dX7_layItem_55 : decode cX7_layItem 55 = .ok (.invokevirtual 234, 3) := by decide +kernel
theorem dX7_layItem_58 : decode cX7_layItem 58 = .ok (.aload_n 0, 1) := by decide +kernel
theorem dX7_layItem_59 : decode cX7_layItem 59 = .ok (.getfield 157, 3) := by decide +kernel
theorem dX7_layItem_62 : decode cX7_layItem 62 = .ok (.ifCond .ne 19, 3) := by decide +kernel
theorem dX7_layItem_65 : decode cX7_layItem 65 = .ok (.aload_n 0, 1) := by decide +kernel
theorem dX7_layItem_66 : decode cX7_layItem 66 = .ok (.getfield 160, 3) := by decide +kernel
theorem dX7_layItem_69 : decode cX7_layItem 69 = .ok (.aload_n 0, 1) := by decide +kernel
theorem dX7_layItem_70 : decode cX7_layItem 70 = .ok (.getfield 53, 3) := by decide +kernel
theorem dX7_layItem_73 : decode cX7_layItem 73 = .ok (.iload_n 1, 1) := by decide +kernel
theorem dX7_layItem_74 : decode cX7_layItem 74 = .ok (.iaload, 1) := by decide +kernel
theorem dX7_layItem_75 : decode cX7_layItem 75 = .ok (.invokestatic 163, 3) := by decide +kernel
theorem dX7_layItem_78 : decode cX7_layItem 78 = .ok (.ifCond .eq 23, 3) := by decide +kernel
theorem dX7_layItem_81 : decode cX7_layItem 81 = .ok (.aload_n 0, 1) := by decide +kernel
theorem dX7_layItem_82 : decode cX7_layItem 82 = .ok (.aload_n 0, 1) := by decide +kernel
theorem dX7_layItem_83 : decode cX7_layItem 83 = .ok (.getfield 19, 3) := by decide +kernel
theorem dX7_layItem_86 : decode cX7_layItem 86 = .ok (.aload_n 0, 1) := by decide +kernel
theorem dX7_layItem_87 : decode cX7_layItem 87 = .ok (.getfield 53, 3) := by decide +kernel
theorem dX7_layItem_90 : decode cX7_layItem 90 = .ok (.iload_n 1, 1) := by decide +kernel
theorem dX7_layItem_91 : decode cX7_layItem 91 = .ok (.iaload, 1) := by decide +kernel
theorem dX7_layItem_92 : decode cX7_layItem 92 = .ok (.bipush 7, 2) := by decide +kernel
theorem dX7_layItem_94 : decode cX7_layItem 94 = .ok (.idiv, 1) := by decide +kernel
theorem dX7_layItem_95 : decode cX7_layItem 95 = .ok (.iconst 1, 1) := by decide +kernel
theorem dX7_layItem_96 : decode cX7_layItem 96 = .ok (.isub, 1) := by decide +kernel
theorem dX7_layItem_97 : decode cX7_layItem 97 = .ok (.iaload, 1) := by decide +kernel
theorem dX7_layItem_98 : decode cX7_layItem 98 = .ok (.invokevirtual 231, 3) := by decide +kernel
theorem dX7_layItem_101 : decode cX7_layItem 101 = .ok (.aload_n 0, 1) := by decide +kernel
theorem dX7_layItem_102 : decode cX7_layItem 102 = .ok (.iconst 0, 1) := by decide +kernel
theorem dX7_layItem_103 : decode cX7_layItem 103 = .ok (.putfield 157, 3) := by decide +kernel
theorem dX7_layItem_106 : decode cX7_layItem 106 = .ok (.aload_n 0, 1) := by decide +kernel
theorem dX7_layItem_107 : decode cX7_layItem 107 = .ok (.aload_n 0, 1) := by decide +kernel
theorem dX7_layItem_108 : decode cX7_layItem 108 = .ok (.getfield 53, 3) := by decide +kernel
theorem dX7_layItem_111 : decode cX7_layItem 111 = .ok (.iload_n 1, 1) := by decide +kernel
theorem dX7_layItem_112 : decode cX7_layItem 112 = .ok (.iaload, 1) := by decide +kernel
theorem dX7_layItem_113 : decode cX7_layItem 113 = .ok (.putfield 160, 3) := by decide +kernel
theorem dX7_layItem_116 : decode cX7_layItem 116 = .ok (.aload_n 0, 1) := by decide +kernel
theorem dX7_layItem_117 : decode cX7_layItem 117 = .ok (.aload_n 0, 1) := by decide +kernel
theorem dX7_layItem_118 : decode cX7_layItem 118 = .ok (.getfield 7, 3) := by decide +kernel
theorem dX7_layItem_121 : decode cX7_layItem 121 = .ok (.aload_n 0, 1) := by decide +kernel
theorem dX7_layItem_122 : decode cX7_layItem 122 = .ok (.getfield 53, 3) := by decide +kernel
theorem dX7_layItem_125 : decode cX7_layItem 125 = .ok (.iload_n 1, 1) := by decide +kernel
theorem dX7_layItem_126 : decode cX7_layItem 126 = .ok (.iaload, 1) := by decide +kernel
theorem dX7_layItem_127 : decode cX7_layItem 127 = .ok (.bipush 7, 2) := by decide +kernel
theorem dX7_layItem_129 : decode cX7_layItem 129 = .ok (.irem, 1) := by decide +kernel
theorem dX7_layItem_130 : decode cX7_layItem 130 = .ok (.iaload, 1) := by decide +kernel
theorem dX7_layItem_131 : decode cX7_layItem 131 = .ok (.aload_n 0, 1) := by decide +kernel
theorem dX7_layItem_132 : decode cX7_layItem 132 = .ok (.getfield 13, 3) := by decide +kernel
theorem dX7_layItem_135 : decode cX7_layItem 135 = .ok (.aload_n 0, 1) := by decide +kernel
theorem dX7_layItem_136 : decode cX7_layItem 136 = .ok (.getfield 59, 3) := by decide +kernel
theorem dX7_layItem_139 : decode cX7_layItem 139 = .ok (.iload_n 1, 1) := by decide +kernel
theorem dX7_layItem_140 : decode cX7_layItem 140 = .ok (.iaload, 1) := by decide +kernel
theorem dX7_layItem_141 : decode cX7_layItem 141 = .ok (.iaload, 1) := by decide +kernel
theorem dX7_layItem_142 : decode cX7_layItem 142 = .ok (.ior, 1) := by decide +kernel
theorem dX7_layItem_143 : decode cX7_layItem 143 = .ok (.invokevirtual 231, 3) := by decide +kernel
theorem dX7_layItem_146 : decode cX7_layItem 146 = .ok (.iconst 0, 1) := by decide +kernel
theorem dX7_layItem_147 : decode cX7_layItem 147 = .ok (.istore_n 2, 1) := by decide +kernel
theorem dX7_layItem_148 : decode cX7_layItem 148 = .ok (.iload_n 2, 1) := by decide +kernel
theorem dX7_layItem_149 : decode cX7_layItem 149 = .ok (.aload_n 0, 1) := by decide +kernel
theorem dX7_layItem_150 : decode cX7_layItem 150 = .ok (.getfield 65, 3) := by decide +kernel
theorem dX7_layItem_153 : decode cX7_layItem 153 = .ok (.iload_n 1, 1) := by decide +kernel
theorem dX7_layItem_154 : decode cX7_layItem 154 = .ok (.iaload, 1) := by decide +kernel
theorem dX7_layItem_155 : decode cX7_layItem 155 = .ok (.if_icmp .ge 14, 3) := by decide +kernel
theorem dX7_layItem_158 : decode cX7_layItem 158 = .ok (.aload_n 0, 1) := by decide +kernel
theorem dX7_layItem_159 : decode cX7_layItem 159 = .ok (.iconst 4, 1) := by decide +kernel
theorem dX7_layItem_160 : decode cX7_layItem 160 = .ok (.invokevirtual 231, 3) := by decide +kernel
theorem dX7_layItem_163 : decode cX7_layItem 163 = .ok (.iinc 2 1, 3) := by decide +kernel
theorem dX7_layItem_166 : decode cX7_layItem 166 = .ok (.goto (-18), 3) := by decide +kernel
theorem dX7_layItem_169 : decode cX7_layItem 169 = .ok (.iconst 0, 1) := by decide +kernel
theorem dX7_layItem_170 : decode cX7_layItem 170 = .ok (.istore_n 2, 1) := by decide +kernel
theorem dX7_layItem_171 : decode cX7_layItem 171 = .ok (.iload_n 2, 1) := by decide +kernel
theorem dX7_layItem_172 : decode cX7_layItem 172 = .ok (.aload_n 0, 1) := by decide +kernel
theorem dX7_layItem_173 : decode cX7_layItem 173 = .ok (.getfield 74, 3) := by decide +kernel
theorem dX7_layItem_176 : decode cX7_layItem 176 = .ok (.iload_n 1, 1) := by decide +kernel
theorem dX7_layItem_177 : decode cX7_layItem 177 = .ok (.iaload, 1) := by decide +kernel
theorem dX7_layItem_178 : decode cX7_layItem 178 = .ok (.if_icmp .ge 50, 3) := by decide +kernel
theorem dX7_layItem_181 : decode cX7_layItem 181 = .ok (.aload_n 0, 1) := by decide +kernel
theorem dX7_layItem_182 : decode cX7_layItem 182 = .ok (.aload_n 0, 1) := by decide +kernel
theorem dX7_layItem_183 : decode cX7_layItem 183 = .ok (.getfield 77, 3) := by decide +kernel
theorem dX7_layItem_186 : decode cX7_layItem 186 = .ok (.iconst 4, 1) := by decide +kernel
theorem dX7_layItem_187 : decode cX7_layItem 187 = .ok (.iload_n 1, 1) := by decide +kernel
theorem dX7_layItem_188 : decode cX7_layItem 188 = .ok (.imul, 1) := by decide +kernel
theorem dX7_layItem_189 : decode cX7_layItem 189 = .ok (.iload_n 2, 1) := by decide +kernel
theorem dX7_layItem_190 : decode cX7_layItem 190 = .ok (.iadd, 1) := by decide +kernel
theorem dX7_layItem_191 : decode cX7_layItem 191 = .ok (.iaload, 1) := by decide +kernel
theorem dX7_layItem_192 : decode cX7_layItem 192 = .ok (.bipush 16, 2) := by decide +kernel
theorem dX7_layItem_194 : decode cX7_layItem 194 = .ok (.idiv, 1) := by decide +kernel
theorem dX7_layItem_195 : decode cX7_layItem 195 = .ok (.invokevirtual 234, 3) := by decide +kernel
theorem dX7_layItem_198 : decode cX7_layItem 198 = .ok (.aload_n 0, 1) := by decide +kernel
theorem dX7_layItem_199 : decode cX7_layItem 199 = .ok (.aload_n 0, 1) := by decide +kernel
theorem dX7_layItem_200 : decode cX7_layItem 200 = .ok (.getfield 22, 3) := by decide +kernel
theorem dX7_layItem_203 : decode cX7_layItem 203 = .ok (.aload_n 0, 1) := by decide +kernel
theorem dX7_layItem_204 : decode cX7_layItem 204 = .ok (.getfield 77, 3) := by decide +kernel
theorem dX7_layItem_207 : decode cX7_layItem 207 = .ok (.iconst 4, 1) := by decide +kernel
theorem dX7_layItem_208 : decode cX7_layItem 208 = .ok (.iload_n 1, 1) := by decide +kernel
theorem dX7_layItem_209 : decode cX7_layItem 209 = .ok (.imul, 1) := by decide +kernel
theorem dX7_layItem_210 : decode cX7_layItem 210 = .ok (.iload_n 2, 1) := by decide +kernel
theorem dX7_layItem_211 : decode cX7_layItem 211 = .ok (.iadd, 1) := by decide +kernel
theorem dX7_layItem_212 : decode cX7_layItem 212 = .ok (.iaload, 1) := by decide +kernel
theorem dX7_layItem_213 : decode cX7_layItem 213 = .ok (.bipush 16, 2) := by decide +kernel
theorem dX7_layItem_215 : decode cX7_layItem 215 = .ok (.irem, 1) := by decide +kernel
theorem dX7_layItem_216 : decode cX7_layItem 216 = .ok (.iconst 2, 1) := by decide +kernel
theorem dX7_layItem_217 : decode cX7_layItem 217 = .ok (.isub, 1) := by decide +kernel
theorem dX7_layItem_218 : decode cX7_layItem 218 = .ok (.iaload, 1) := by decide +kernel
theorem dX7_layItem_219 : decode cX7_layItem 219 = .ok (.invokevirtual 231, 3) := by decide +kernel
theorem dX7_layItem_222 : decode cX7_layItem 222 = .ok (.iinc 2 1, 3) := by decide +kernel
theorem dX7_layItem_225 : decode cX7_layItem 225 = .ok (.goto (-54), 3) := by decide +kernel
theorem dX7_layItem_228 : decode cX7_layItem 228 = .ok (.aload_n 0, 1) := by decide +kernel
theorem dX7_layItem_229 : decode cX7_layItem 229 = .ok (.getfield 68, 3) := by decide +kernel
theorem dX7_layItem_232 : decode cX7_layItem 232 = .ok (.iload_n 1, 1) := by decide +kernel
theorem dX7_layItem_233 : decode cX7_layItem 233 = .ok (.iaload, 1) := by decide +kernel
theorem dX7_layItem_234 : decode cX7_layItem 234 = .ok (.iconst 1, 1) := by decide +kernel
theorem dX7_layItem_235 : decode cX7_layItem 235 = .ok (.if_icmp .ne 15, 3) := by decide +kernel
theorem dX7_layItem_238 : decode cX7_layItem 238 = .ok (.aload_n 0, 1) := by decide +kernel
theorem dX7_layItem_239 : decode cX7_layItem 239 = .ok (.bipush 8, 2) := by decide +kernel
theorem dX7_layItem_241 : decode cX7_layItem 241 = .ok (.invokevirtual 231, 3) := by decide +kernel
theorem dX7_layItem_244 : decode cX7_layItem 244 = .ok (.aload_n 0, 1) := by decide +kernel
theorem dX7_layItem_245 : decode cX7_layItem 245 = .ok (.bipush 9, 2) := by decide +kernel
theorem dX7_layItem_247 : decode cX7_layItem 247 = .ok (.invokevirtual 231, 3) := by decide +kernel
theorem dX7_layItem_250 : decode cX7_layItem 250 = .ok (.aload_n 0, 1) := by decide +kernel
theorem dX7_layItem_251 : decode cX7_layItem 251 = .ok (.getfield 96, 3) := by decide +kernel
theorem dX7_layItem_254 : decode cX7_layItem 254 = .ok (.iload_n 1, 1) := by decide +kernel
theorem dX7_layItem_255 : decode cX7_layItem 255 = .ok (.iaload, 1) := by decide +kernel
theorem dX7_layItem_256 : decode cX7_layItem 256 = .ok (.iconst 1, 1) := by decide +kernel
theorem dX7_layItem_257 : decode cX7_layItem 257 = .ok (.if_icmp .ne 9, 3) := by decide +kernel
theorem dX7_layItem_260 : decode cX7_layItem 260 = .ok (.aload_n 0, 1) := by decide +kernel
theorem dX7_layItem_261 : decode cX7_layItem 261 = .ok (.bipush 9, 2) := by decide +kernel
theorem dX7_layItem_263 : decode cX7_layItem 263 = .ok (.invokevirtual 231, 3) := by decide +kernel
theorem dX7_layItem_266 : decode cX7_layItem 266 = .ok (.aload_n 0, 1) := by decide +kernel
theorem dX7_layItem_267 : decode cX7_layItem 267 = .ok (.getfield 93, 3) := by decide +kernel
theorem dX7_layItem_270 : decode cX7_layItem 270 = .ok (.iload_n 1, 1) := by decide +kernel
theorem dX7_layItem_271 : decode cX7_layItem 271 = .ok (.iaload, 1) := by decide +kernel
theorem dX7_layItem_272 : decode cX7_layItem 272 = .ok (.iconst 1, 1) := by decide +kernel
theorem dX7_layItem_273 : decode cX7_layItem 273 = .ok (.if_icmp .ne 15, 3) := by decide +kernel
theorem dX7_layItem_276 : decode cX7_layItem 276 = .ok (.aload_n 0, 1) := by decide +kernel
theorem dX7_layItem_277 : decode cX7_layItem 277 = .ok (.bipush 24, 2) := by decide +kernel
theorem dX7_layItem_279 : decode cX7_layItem 279 = .ok (.invokevirtual 231, 3) := by decide +kernel
theorem dX7_layItem_282 : decode cX7_layItem 282 = .ok (.aload_n 0, 1) := by decide +kernel
theorem dX7_layItem_283 : decode cX7_layItem 283 = .ok (.bipush 6, 2) := by decide +kernel
theorem dX7_layItem_285 : decode cX7_layItem 285 = .ok (.invokevirtual 231, 3) := by decide +kernel
theorem dX7_layItem_288 : decode cX7_layItem 288 = .ok (.return_, 1) := by decide +kernel
theorem dX7_layBar_0 : decode cX7_layBar 0 = .ok (.aload_n 0, 1) := by decide +kernel
theorem dX7_layBar_1 : decode cX7_layBar 1 = .ok (.iconst 0, 1) := by decide +kernel
theorem dX7_layBar_2 : decode cX7_layBar 2 = .ok (.putfield 228, 3) := by decide +kernel
theorem dX7_layBar_5 : decode cX7_layBar 5 = .ok (.aload_n 0, 1) := by decide +kernel
theorem dX7_layBar_6 : decode cX7_layBar 6 = .ok (.getfield 41, 3) := by decide +kernel
theorem dX7_layBar_9 : decode cX7_layBar 9 = .ok (.iload_n 1, 1) := by decide +kernel
theorem dX7_layBar_10 : decode cX7_layBar 10 = .ok (.iaload, 1) := by decide +kernel
theorem dX7_layBar_11 : decode cX7_layBar 11 = .ok (.iconst 1, 1) := by decide +kernel
theorem dX7_layBar_12 : decode cX7_layBar 12 = .ok (.if_icmp .ne 15, 3) := by decide +kernel
theorem dX7_layBar_15 : decode cX7_layBar 15 = .ok (.aload_n 0, 1) := by decide +kernel
theorem dX7_layBar_16 : decode cX7_layBar 16 = .ok (.bipush 54, 2) := by decide +kernel
theorem dX7_layBar_18 : decode cX7_layBar 18 = .ok (.invokevirtual 231, 3) := by decide +kernel
theorem dX7_layBar_21 : decode cX7_layBar 21 = .ok (.aload_n 0, 1) := by decide +kernel
theorem dX7_layBar_22 : decode cX7_layBar 22 = .ok (.iconst 1, 1) := by decide +kernel
theorem dX7_layBar_23 : decode cX7_layBar 23 = .ok (.putfield 157, 3) := by decide +kernel
theorem dX7_layBar_26 : decode cX7_layBar 26 = .ok (.return_, 1) := by decide +kernel
theorem dX7_layBar_27 : decode cX7_layBar 27 = .ok (.iconst 0, 1) := by decide +kernel
theorem dX7_layBar_28 : decode cX7_layBar 28 = .ok (.istore_n 2, 1) := by decide +kernel
theorem dX7_layBar_29 : decode cX7_layBar 29 = .ok (.iload_n 2, 1) := by decide +kernel
theorem dX7_layBar_30 : decode cX7_layBar 30 = .ok (.aload_n 0, 1) := by decide +kernel
theorem dX7_layBar_31 : decode cX7_layBar 31 = .ok (.getfield 44, 3) := by decide +kernel
theorem dX7_layBar_34 : decode cX7_layBar 34 = .ok (.iload_n 1, 1) := by decide +kernel
theorem dX7_layBar_35 : decode cX7_layBar 35 = .ok (.iaload, 1) := by decide +kernel
theorem dX7_layBar_36 : decode cX7_layBar 36 = .ok (.if_icmp .ge 145, 3) := by decide +kernel
theorem dX7_layBar_39 : decode cX7_layBar 39 = .ok (.iload_n 2, 1) := by decide +kernel
theorem dX7_layBar_40 : decode cX7_layBar 40 = .ok (.ifCond .le 20, 3) := by decide +kernel
theorem dX7_layBar_43 : decode cX7_layBar 43 = .ok (.aload_n 0, 1) := by decide +kernel
theorem dX7_layBar_44 : decode cX7_layBar 44 = .ok (.bipush 35, 2) := by decide +kernel
theorem dX7_layBar_46 : decode cX7_layBar 46 = .ok (.invokevirtual 231, 3) := by decide +kernel
theorem dX7_layBar_49 : decode cX7_layBar 49 = .ok (.aload_n 0, 1) := by decide +kernel
theorem dX7_layBar_50 : decode cX7_layBar 50 = .ok (.bipush 28, 2) := by decide +kernel
theorem dX7_layBar_52 : decode cX7_layBar 52 = .ok (.invokevirtual 231, 3) := by decide +kernel
theorem dX7_layBar_55 : decode cX7_layBar 55 = .ok (.aload_n 0, 1) := by decide +kernel
theorem dX7_layBar_56 : decode cX7_layBar 56 = .ok (.iconst 1, 1) := by decide +kernel
theorem dX7_layBar_57 : decode cX7_layBar 57 = .ok (.putfield 157, 3) := by decide +kernel
theorem dX7_layBar_60 : decode cX7_layBar 60 = .ok (.iconst (-1), 1) := by decide +kernel
theorem dX7_layBar_61 : decode cX7_layBar 61 = .ok (.istore_n 3, 1) := by decide +kernel
theorem dX7_layBar_62 : decode cX7_layBar 62 = .ok (.iconst 0, 1) := by decide +kernel
theorem dX7_layBar_63 : decode cX7_layBar 63 = .ok (.istore 4, 2) := by decide +kernel
theorem dX7_layBar_65 : decode cX7_layBar 65 = .ok (.iload 4, 2) := by decide +kernel
theorem dX7_layBar_67 : decode cX7_layBar 67 = .ok (.aload_n 0, 1) := by decide +kernel
theorem dX7_layBar_68 : decode cX7_layBar 68 = .ok (.getfield 35, 3) := by decide +kernel
theorem dX7_layBar_71 : decode cX7_layBar 71 = .ok (.iconst 0, 1) := by decide +kernel
theorem dX7_layBar_72 : decode cX7_layBar 72 = .ok (.iaload, 1) := by decide +kernel
theorem dX7_layBar_73 : decode cX7_layBar 73 = .ok (.if_icmp .ge 102, 3) := by decide +kernel
theorem dX7_layBar_76 : decode cX7_layBar 76 = .ok (.aload_n 0, 1) := by decide +kernel
theorem dX7_layBar_77 : decode cX7_layBar 77 = .ok (.getfield 47, 3) := by decide +kernel
theorem dX7_layBar_80 : decode cX7_layBar 80 = .ok (.iload 4, 2) := by decide +kernel
theorem dX7_layBar_82 : decode cX7_layBar 82 = .ok (.iaload, 1) := by decide +kernel
theorem dX7_layBar_83 : decode cX7_layBar 83 = .ok (.iload_n 1, 1) := by decide +kernel
theorem dX7_layBar_84 : decode cX7_layBar 84 = .ok (.if_icmp .ne 85, 3) := by decide +kernel
theorem dX7_layBar_87 : decode cX7_layBar 87 = .ok (.aload_n 0, 1) := by decide +kernel
theorem dX7_layBar_88 : decode cX7_layBar 88 = .ok (.getfield 50, 3) := by decide +kernel
theorem dX7_layBar_91 : decode cX7_layBar 91 = .ok (.iload 4, 2) := by decide +kernel
theorem dX7_layBar_93 : decode cX7_layBar 93 = .ok (.iaload, 1) := by decide +kernel
theorem dX7_layBar_94 : decode cX7_layBar 94 = .ok (.iload_n 2, 1) := by decide +kernel
theorem dX7_layBar_95 : decode cX7_layBar 95 = .ok (.if_icmp .ne 74, 3) := by decide +kernel
theorem dX7_layBar_98 : decode cX7_layBar 98 = .ok (.aload_n 0, 1) := by decide +kernel
theorem dX7_layBar_99 : decode cX7_layBar 99 = .ok (.getfield 99, 3) := by decide +kernel
theorem dX7_layBar_102 : decode cX7_layBar 102 = .ok (.iconst 3, 1) := by decide +kernel
theorem dX7_layBar_103 : decode cX7_layBar 103 = .ok (.iload_n 1, 1) := by decide +kernel
theorem dX7_layBar_104 : decode cX7_layBar 104 = .ok (.imul, 1) := by decide +kernel
theorem dX7_layBar_105 : decode cX7_layBar 105 = .ok (.iload_n 2, 1) := by decide +kernel
theorem dX7_layBar_106 : decode cX7_layBar 106 = .ok (.iadd, 1) := by decide +kernel
theorem dX7_layBar_107 : decode cX7_layBar 107 = .ok (.iaload, 1) := by decide +kernel
theorem dX7_layBar_108 : decode cX7_layBar 108 = .ok (.iconst 1, 1) := by decide +kernel
theorem dX7_layBar_109 : decode cX7_layBar 109 = .ok (.if_icmp .ne 46, 3) := by decide +kernel
theorem dX7_layBar_112 : decode cX7_layBar 112 = .ok (.aload_n 0, 1) := by decide +kernel
theorem dX7_layBar_113 : decode cX7_layBar 113 = .ok (.getfield 62, 3) := by decide +kernel
theorem dX7_layBar_116 : decode cX7_layBar 116 = .ok (.iload 4, 2) := by decide +kernel
theorem dX7_layBar_118 : decode cX7_layBar 118 = .ok (.iaload, 1) := by decide +kernel
theorem dX7_layBar_119 : decode cX7_layBar 119 = .ok (.iload_n 3, 1) := by decide +kernel
theorem dX7_layBar_120 : decode cX7_layBar 120 = .ok (.if_icmp .eq 35, 3) := by decide +kernel
theorem dX7_layBar_123 : decode cX7_layBar 123 = .ok (.aload_n 0, 1) := by decide +kernel
theorem dX7_layBar_124 : decode cX7_layBar 124 = .ok (.aload_n 0, 1) := by decide +kernel
theorem dX7_layBar_125 : decode cX7_layBar 125 = .ok (.getfield 62, 3) := by decide +kernel
theorem dX7_layBar_128 : decode cX7_layBar 128 = .ok (.iload 4, 2) := by decide +kernel
theorem dX7_layBar_130 : decode cX7_layBar 130 = .ok (.iaload, 1) := by decide +kernel
theorem dX7_layBar_131 : decode cX7_layBar 131 = .ok (.ifCond .ne 8, 3) := by decide +kernel
theorem dX7_layBar_134 : decode cX7_layBar 134 = .ok (.bipush 24, 2) := by decide +kernel
theorem dX7_layBar_136 : decode cX7_layBar 136 = .ok (.goto 5, 3) := by decide +kernel
theorem dX7_layBar_139 : decode cX7_layBar 139 = .ok (.bipush 32, 2) := by decide +kernel
theorem dX7_layBar_141 : decode cX7_layBar 141 = .ok (.invokevirtual 231, 3) := by decide +kernel
theorem dX7_layBar_144 : decode cX7_layBar 144 = .ok (.aload_n 0, 1) := by decide +kernel
theorem dX7_layBar_145 : decode cX7_layBar 145 = .ok (.bipush 35, 2) := by decide +kernel
theorem dX7_layBar_147 : decode cX7_layBar 147 = .ok (.invokevirtual 231, 3) := by decide +kernel
theorem dX7_layBar_150 : decode cX7_layBar 150 = .ok (.aload_n 0, 1) := by decide +kernel
theorem dX7_layBar_151 : decode cX7_layBar 151 = .ok (.iconst 2, 1) := by decide +kernel
theorem dX7_layBar_152 : decode cX7_layBar 152 = .ok (.invokevirtual 231, 3) := by decide +kernel
theorem dX7_layBar_155 : decode cX7_layBar 155 = .ok (.aload_n 0, 1) := by decide +kernel
theorem dX7_layBar_156 : decode cX7_layBar 156 = .ok (.getfield 62, 3) := by decide +kernel
theorem dX7_layBar_159 : decode cX7_layBar 159 = .ok (.iload 4, 2) := by decide +kernel
theorem dX7_layBar_161 : decode cX7_layBar 161 = .ok (.iaload, 1) := by decide +kernel
theorem dX7_layBar_162 : decode cX7_layBar 162 = .ok (.istore_n 3, 1) := by decide +kernel
theorem dX7_layBar_163 : decode cX7_layBar 163 = .ok (.aload_n 0, 1) := by decide +kernel
theorem dX7_layBar_164 : decode cX7_layBar 164 = .ok (.iload 4, 2) := by decide +kernel
theorem dX7_layBar_166 : decode cX7_layBar 166 = .ok (.invokevirtual 237, 3) := by decide +kernel
theorem dX7_layBar_169 : decode cX7_layBar 169 = .ok (.iinc 4 1, 3) := by decide +kernel
theorem dX7_layBar_172 : decode cX7_layBar 172 = .ok (.goto (-107), 3) := by decide +kernel
theorem dX7_layBar_175 : decode cX7_layBar 175 = .ok (.iinc 2 1, 3) := by decide +kernel
theorem dX7_layBar_178 : decode cX7_layBar 178 = .ok (.goto (-149), 3) := by decide +kernel
theorem dX7_layBar_181 : decode cX7_layBar 181 = .ok (.aload_n 0, 1) := by decide +kernel
theorem dX7_layBar_182 : decode cX7_layBar 182 = .ok (.dup, 1) := by decide +kernel
theorem dX7_layBar_183 : decode cX7_layBar 183 = .ok (.getfield 157, 3) := by decide +kernel
theorem dX7_layBar_186 : decode cX7_layBar 186 = .ok (.aload_n 0, 1) := by decide +kernel
theorem dX7_layBar_187 : decode cX7_layBar 187 = .ok (.getfield 44, 3) := by decide +kernel
theorem dX7_layBar_190 : decode cX7_layBar 190 = .ok (.iload_n 1, 1) := by decide +kernel
theorem dX7_layBar_191 : decode cX7_layBar 191 = .ok (.iaload, 1) := by decide +kernel
theorem dX7_layBar_192 : decode cX7_layBar 192 = .ok (.iconst 1, 1) := by decide +kernel
theorem dX7_layBar_193 : decode cX7_layBar 193 = .ok (.if_icmp .le 7, 3) := by decide +kernel
theorem dX7_layBar_196 : decode cX7_layBar 196 = .ok (.iconst 1, 1) := by decide +kernel
theorem dX7_layBar_197 : decode cX7_layBar 197 = .ok (.goto 4, 3) := by decide +kernel
theorem dX7_layBar_200 : decode cX7_layBar 200 = .ok (.iconst 0, 1) := by decide +kernel
theorem dX7_layBar_201 : decode cX7_layBar 201 = .ok (.ior, 1) := by decide +kernel
theorem dX7_layBar_202 : decode cX7_layBar 202 = .ok (.putfield 157, 3) := by decide +kernel
theorem dX7_layBar_205 : decode cX7_layBar 205 = .ok (.return_, 1) := by decide +kernel
theorem dX7_write_0 : decode cX7_write 0 = .ok (.iload_n 1, 1) := by decide +kernel
theorem dX7_write_1 : decode cX7_write 1 = .ok (.bipush 12, 2) := by decide +kernel
theorem dX7_write_3 : decode cX7_write 3 = .ok (.if_icmp .lt 10, 3) := by decide +kernel
theorem dX7_write_6 : decode cX7_write 6 = .ok (.iload_n 1, 1) := by decide +kernel
theorem dX7_write_7 : decode cX7_write 7 = .ok (.sipush 200, 3) := by decide +kernel
theorem dX7_write_10 : decode cX7_write 10 = .ok (.if_icmp .le 6, 3) := by decide +kernel
theorem dX7_write_13 : decode cX7_write 13 = .ok (.bipush (-2), 2) := by decide +kernel
theorem dX7_write_15 : decode cX7_write 15 = .ok (.ireturn, 1) := by decide +kernel
theorem dX7_write_16 : decode cX7_write 16 = .ok (.aload_n 0, 1) := by decide +kernel
theorem dX7_write_17 : decode cX7_write 17 = .ok (.getfield 32, 3) := by decide +kernel
theorem dX7_write_20 : decode cX7_write 20 = .ok (.iconst 0, 1) := by decide +kernel
theorem dX7_write_21 : decode cX7_write 21 = .ok (.iaload, 1) := by decide +kernel
theorem dX7_write_22 : decode cX7_write 22 = .ok (.ifCond .eq 10, 3) := by decide +kernel
theorem dX7_write_25 : decode cX7_write 25 = .ok (.aload_n 0, 1) := by decide +kernel
theorem dX7_write_26 : decode cX7_write 26 = .ok (.invokevirtual 211, 3) := by decide +kernel
theorem dX7_write_29 : decode cX7_write 29 = .ok (.ifCond .eq 6, 3) := by decide +kernel
theorem dX7_write_32 : decode cX7_write 32 = .ok (.bipush (-3), 2) := by decide +kernel
theorem dX7_write_34 : decode cX7_write 34 = .ok (.ireturn, 1) := by decide +kernel
theorem dX7_write_35 : decode cX7_write 35 = .ok (.aload_n 0, 1) := by decide +kernel
theorem dX7_write_36 : decode cX7_write 36 = .ok (.invokevirtual 240, 3) := by decide +kernel
theorem dX7_write_39 : decode cX7_write 39 = .ok (.iconst 0, 1) := by decide +kernel
theorem dX7_write_40 : decode cX7_write 40 = .ok (.istore_n 2, 1) := by decide +kernel
theorem dX7_write_41 : decode cX7_write 41 = .ok (.iload_n 2, 1) := by decide +kernel
theorem dX7_write_42 : decode cX7_write 42 = .ok (.aload_n 0, 1) := by decide +kernel
theorem dX7_write_43 : decode cX7_write 43 = .ok (.getfield 32, 3) := by decide +kernel
theorem dX7_write_46 : decode cX7_write 46 = .ok (.iconst 0, 1) := by decide +kernel
theorem dX7_write_47 : decode cX7_write 47 = .ok (.iaload, 1) := by decide +kernel
theorem dX7_write_48 : decode cX7_write 48 = .ok (.if_icmp .ge 51, 3) := by decide +kernel
theorem dX7_write_51 : decode cX7_write 51 = .ok (.iconst 0, 1) := by decide +kernel
theorem dX7_write_52 : decode cX7_write 52 = .ok (.istore_n 3, 1) := by decide +kernel
theorem dX7_write_53 : decode cX7_write 53 = .ok (.iload_n 3, 1) := by decide +kernel
theorem dX7_write_54 : decode cX7_write 54 = .ok (.aload_n 0, 1) := by decide +kernel
theorem dX7_write_55 : decode cX7_write 55 = .ok (.getfield 44, 3) := by decide +kernel
theorem dX7_write_58 : decode cX7_write 58 = .ok (.iload_n 2, 1) := by decide +kernel
theorem dX7_write_59 : decode cX7_write 59 = .ok (.iaload, 1) := by decide +kernel
theorem dX7_write_60 : decode cX7_write 60 = .ok (.if_icmp .ge 33, 3) := by decide +kernel
theorem dX7_write_63 : decode cX7_write 63 = .ok (.aload_n 0, 1) := by decide +kernel
theorem dX7_write_64 : decode cX7_write 64 = .ok (.getfield 99, 3) := by decide +kernel
theorem dX7_write_67 : decode cX7_write 67 = .ok (.iconst 3, 1) := by decide +kernel
theorem dX7_write_68 : decode cX7_write 68 = .ok (.iload_n 2, 1) := by decide +kernel
theorem dX7_write_69 : decode cX7_write 69 = .ok (.imul, 1) := by decide +kernel
theorem dX7_write_70 : decode cX7_write 70 = .ok (.iload_n 3, 1) := by decide +kernel
theorem dX7_write_71 : decode cX7_write 71 = .ok (.iadd, 1) := by decide +kernel
theorem dX7_write_72 : decode cX7_write 72 = .ok (.aload_n 0, 1) := by decide +kernel
theorem dX7_write_73 : decode cX7_write 73 = .ok (.iload_n 2, 1) := by decide +kernel
theorem dX7_write_74 : decode cX7_write 74 = .ok (.iload_n 3, 1) := by decide +kernel
theorem dX7_write_75 : decode cX7_write 75 = .ok (.invokevirtual 243, 3) := by decide +kernel
theorem dX7_write_78 : decode cX7_write 78 = .ok (.ifCond .eq 7, 3) := by decide +kernel
theorem dX7_write_81 : decode cX7_write 81 = .ok (.iconst 1, 1) := by decide +kernel
theorem dX7_write_82 : decode cX7_write 82 = .ok (.goto 4, 3) := by decide +kernel
theorem dX7_write_85 : decode cX7_write 85 = .ok (.iconst 0, 1) := by decide +kernel
theorem dX7_write_86 : decode cX7_write 86 = .ok (.iastore, 1) := by decide +kernel
theorem dX7_write_87 : decode cX7_write 87 = .ok (.iinc 3 1, 3) := by decide +kernel
theorem dX7_write_90 : decode cX7_write 90 = .ok (.goto (-37), 3) := by decide +kernel
theorem dX7_write_93 : decode cX7_write 93 = .ok (.iinc 2 1, 3) := by decide +kernel
theorem dX7_write_96 : decode cX7_write 96 = .ok (.goto (-55), 3) := by decide +kernel
theorem dX7_write_99 : decode cX7_write 99 = .ok (.iconst 0, 1) := by decide +kernel
theorem dX7_write_100 : decode cX7_write 100 = .ok (.istore_n 2, 1) := by decide +kernel
theorem dX7_write_101 : decode cX7_write 101 = .ok (.iconst 0, 1) := by decide +kernel
theorem dX7_write_102 : decode cX7_write 102 = .ok (.istore_n 3, 1) := by decide +kernel
theorem dX7_write_103 : decode cX7_write 103 = .ok (.aload_n 0, 1) := by decide +kernel
theorem dX7_write_104 : decode cX7_write 104 = .ok (.getfield 38, 3) := by decide +kernel
theorem dX7_write_107 : decode cX7_write 107 = .ok (.iconst 0, 1) := by decide +kernel
theorem dX7_write_108 : decode cX7_write 108 = .ok (.iaload, 1) := by decide +kernel
theorem dX7_write_109 : decode cX7_write 109 = .ok (.ifCond .le 38, 3) := by decide +kernel
theorem dX7_write_112 : decode cX7_write 112 = .ok (.aload_n 0, 1) := by decide +kernel
theorem dX7_write_113 : decode cX7_write 113 = .ok (.getfield 105, 3) := by decide +kernel
theorem dX7_write_116 : decode cX7_write 116 = .ok (.iconst 0, 1) := by decide +kernel
theorem dX7_write_117 : decode cX7_write 117 = .ok (.aload_n 0, 1) := by decide +kernel
theorem dX7_write_118 : decode cX7_write 118 = .ok (.getfield 38, 3) := by decide +kernel
theorem dX7_write_121 : decode cX7_write 121 = .ok (.iconst 0, 1) := by decide +kernel
theorem dX7_write_122 : decode cX7_write 122 = .ok (.iaload, 1) := by decide +kernel
theorem dX7_write_123 : decode cX7_write 123 = .ok (.iconst 1, 1) := by decide +kernel
theorem dX7_write_124 : decode cX7_write 124 = .ok (.if_icmp .ne 8, 3) := by decide +kernel
theorem dX7_write_127 : decode cX7_write 127 = .ok (.bipush 40, 2) := by decide +kernel
theorem dX7_write_129 : decode cX7_write 129 = .ok (.goto 5, 3) := by decide +kernel
theorem dX7_write_132 : decode cX7_write 132 = .ok (.bipush 56, 2) := by decide +kernel
theorem dX7_write_134 : decode cX7_write 134 = .ok (.iastore, 1) := by decide +kernel
theorem dX7_write_135 : decode cX7_write 135 = .ok (.aload_n 0, 1) := by decide +kernel
theorem dX7_write_136 : decode cX7_write 136 = .ok (.getfield 105, 3) := by decide +kernel
theorem dX7_write_139 : decode cX7_write 139 = .ok (.iconst 1, 1) := by decide +kernel
theorem dX7_write_140 : decode cX7_write 140 = .ok (.bipush 28, 2) := by decide +kernel
theorem dX7_write_142 : decode cX7_write 142 = .ok (.iastore, 1) := by decide +kernel
theorem dX7_write_143 : decode cX7_write 143 = .ok (.iconst 2, 1) := by decide +kernel
theorem dX7_write_144 : decode cX7_write 144 = .ok (.istore_n 2, 1) := by decide +kernel
theorem dX7_write_145 : decode cX7_write 145 = .ok (.iconst 2, 1) := by decide +kernel
theorem dX7_write_146 : decode cX7_write 146 = .ok (.istore_n 3, 1) := by decide +kernel
theorem dX7_write_147 : decode cX7_write 147 = .ok (.aload_n 0, 1) := by decide +kernel
theorem dX7_write_148 : decode cX7_write 148 = .ok (.iconst 1, 1) := by decide +kernel
theorem dX7_write_149 : decode cX7_write 149 = .ok (.putfield 157, 3) := by decide +kernel
theorem dX7_write_152 : decode cX7_write 152 = .ok (.aload_n 0, 1) := by decide +kernel
theorem dX7_write_153 : decode cX7_write 153 = .ok (.iconst 0, 1) := by decide +kernel
theorem dX7_write_154 : decode cX7_write 154 = .ok (.putfield 160, 3) := by decide +kernel
theorem dX7_write_157 : decode cX7_write 157 = .ok (.iconst 0, 1) := by decide +kernel
theorem dX7_write_158 : decode cX7_write 158 = .ok (.istore 4, 2) := by decide +kernel
theorem dX7_write_160 : decode cX7_write 160 = .ok (.iload 4, 2) := by decide +kernel
theorem dX7_write_162 : decode cX7_write 162 = .ok (.aload_n 0, 1) := by decide +kernel
theorem dX7_write_163 : decode cX7_write 163 = .ok (.getfield 32, 3) := by decide +kernel
theorem dX7_write_166 : decode cX7_write 166 = .ok (.iconst 0, 1) := by decide +kernel
theorem dX7_write_167 : decode cX7_write 167 = .ok (.iaload, 1) := by decide +kernel
theorem dX7_write_168 : decode cX7_write 168 = .ok (.if_icmp .ge 181, 3) := by decide +kernel
theorem dX7_write_171 : decode cX7_write 171 = .ok (.aload_n 0, 1) := by decide +kernel
theorem dX7_write_172 : decode cX7_write 172 = .ok (.getfield 160, 3) := by decide +kernel
theorem dX7_write_175 : decode cX7_write 175 = .ok (.istore 5, 2) := by decide +kernel
theorem dX7_write_177 : decode cX7_write 177 = .ok (.aload_n 0, 1) := by decide +kernel
theorem dX7_write_178 : decode cX7_write 178 = .ok (.iload 4, 2) := by decide +kernel
theorem dX7_write_180 : decode cX7_write 180 = .ok (.invokevirtual 246, 3) := by decide +kernel
theorem dX7_write_183 : decode cX7_write 183 = .ok (.iload 4, 2) := by decide +kernel
theorem dX7_write_185 : decode cX7_write 185 = .ok (.ifCond .ne 7, 3) := by decide +kernel
theorem dX7_write_188 : decode cX7_write 188 = .ok (.iconst 0, 1) := by decide +kernel
theorem dX7_write_189 : decode cX7_write 189 = .ok (.goto 4, 3) := by decide +kernel
theorem dX7_write_192 : decode cX7_write 192 = .ok (.iconst 1, 1) := by decide +kernel
theorem dX7_write_193 : decode cX7_write 193 = .ok (.istore 6, 2) := by decide +kernel
theorem dX7_write_195 : decode cX7_write 195 = .ok (.iconst 0, 1) := by decide +kernel
theorem dX7_write_196 : decode cX7_write 196 = .ok (.istore 7, 2) := by decide +kernel
theorem dX7_write_198 : decode cX7_write 198 = .ok (.iload 4, 2) := by decide +kernel
theorem dX7_write_200 : decode cX7_write 200 = .ok (.ifCond .le 40, 3) := by decide +kernel
theorem dX7_write_203 : decode cX7_write 203 = .ok (.iload_n 3, 1) := by decide +kernel
theorem dX7_write_204 : decode cX7_write 204 = .ok (.iconst 1, 1) := by decide +kernel
theorem dX7_write_205 : decode cX7_write 205 = .ok (.iadd, 1) := by decide +kernel
theorem dX7_write_206 : decode cX7_write 206 = .ok (.aload_n 0, 1) := by decide +kernel
theorem dX7_write_207 : decode cX7_write 207 = .ok (.getfield 228, 3) := by decide +kernel
theorem dX7_write_210 : decode cX7_write 210 = .ok (.iadd, 1) := by decide +kernel
theorem dX7_write_211 : decode cX7_write 211 = .ok (.iload_n 1, 1) := by decide +kernel
theorem dX7_write_212 : decode cX7_write 212 = .ok (.if_icmp .le 28, 3) := by decide +kernel
theorem dX7_write_215 : decode cX7_write 215 = .ok (.aload_n 0, 1) := by decide +kernel
theorem dX7_write_216 : decode cX7_write 216 = .ok (.iconst 1, 1) := by decide +kernel
theorem dX7_write_217 : decode cX7_write 217 = .ok (.putfield 157, 3) := by decide +kernel
theorem dX7_write_220 : decode cX7_write 220 = .ok (.aload_n 0, 1) := by decide +kernel
theorem dX7_write_221 : decode cX7_write 221 = .ok (.iload 5, 2) := by decide +kernel
theorem dX7_write_223 : decode cX7_write 223 = .ok (.putfield 160, 3) := by decide +kernel
theorem dX7_write_226 : decode cX7_write 226 = .ok (.aload_n 0, 1) := by decide +kernel
theorem dX7_write_227 : decode cX7_write 227 = .ok (.iload 4, 2) := by decide +kernel
theorem dX7_write_229 : decode cX7_write 229 = .ok (.invokevirtual 246, 3) := by decide +kernel
theorem dX7_write_232 : decode cX7_write 232 = .ok (.iconst 0, 1) := by decide +kernel
theorem dX7_write_233 : decode cX7_write 233 = .ok (.istore_n 3, 1) := by decide +kernel
theorem dX7_write_234 : decode cX7_write 234 = .ok (.iconst 0, 1) := by decide +kernel
theorem dX7_write_235 : decode cX7_write 235 = .ok (.istore 6, 2) := by decide +kernel
theorem dX7_write_237 : decode cX7_write 237 = .ok (.iconst 1, 1) := by decide +kernel
theorem dX7_write_238 : decode cX7_write 238 = .ok (.istore 7, 2) := by decide +kernel
theorem dX7_write_240 : decode cX7_write 240 = .ok (.iload_n 3, 1) := by decide +kernel
theorem dX7_write_241 : decode cX7_write 241 = .ok (.iload 6, 2) := by decide +kernel
theorem dX7_write_243 : decode cX7_write 243 = .ok (.iadd, 1) := by decide +kernel
theorem dX7_write_244 : decode cX7_write 244 = .ok (.aload_n 0, 1) := by decide +kernel
theorem dX7_write_245 : decode cX7_write 245 = .ok (.getfield 228, 3) := by decide +kernel
theorem dX7_write_248 : decode cX7_write 248 = .ok (.iadd, 1) := by decide +kernel
theorem dX7_write_249 : decode cX7_write 249 = .ok (.iload_n 1, 1) := by decide +kernel
theorem dX7_write_250 : decode cX7_write 250 = .ok (.if_icmp .le 9, 3) := by decide +kernel
theorem dX7_write_253 : decode cX7_write 253 = .ok (.bipush (-10), 2) := by decide +kernel
theorem dX7_write_255 : decode cX7_write 255 = .ok (.iload 4, 2) := by decide +kernel
theorem dX7_write_257 : decode cX7_write 257 = .ok (.isub, 1) := by decide +kernel
theorem dX7_write_258 : decode cX7_write 258 = .ok (.ireturn, 1) := by decide +kernel
theorem dX7_write_259 : decode cX7_write 259 = .ok (.iload 4, 2) := by decide +kernel
theorem dX7_write_261 : decode cX7_write 261 = .ok (.ifCond .le 31, 3) := by decide +kernel
theorem dX7_write_264 : decode cX7_write 264 = .ok (.iload_n 2, 1) := by decide +kernel
theorem dX7_write_265 : decode cX7_write 265 = .ok (.sipush 4000, 3) := by decide +kernel
theorem dX7_write_268 : decode cX7_write 268 = .ok (.if_icmp .ge 21, 3) := by decide +kernel
theorem dX7_write_271 : decode cX7_write 271 = .ok (.aload_n 0, 1) := by decide +kernel
theorem dX7_write_272 : decode cX7_write 272 = .ok (.getfield 105, 3) := by decide +kernel
theorem dX7_write_275 : decode cX7_write 275 = .ok (.iload_n 2, 1) := by decide +kernel
theorem dX7_write_276 : decode cX7_write 276 = .ok (.iload 7, 2) := by decide +kernel
theorem dX7_write_278 : decode cX7_write 278 = .ok (.iconst 1, 1) := by decide +kernel
theorem dX7_write_279 : decode cX7_write 279 = .ok (.if_icmp .ne 8, 3) := by decide +kernel
theorem dX7_write_282 : decode cX7_write 282 = .ok (.bipush 64, 2) := by decide +kernel
theorem dX7_write_284 : decode cX7_write 284 = .ok (.goto 4, 3) := by decide +kernel
theorem dX7_write_287 : decode cX7_write 287 = .ok (.iconst 0, 1) := by decide +kernel
theorem dX7_write_288 : decode cX7_write 288 = .ok (.iastore, 1) := by decide +kernel
theorem dX7_write_289 : decode cX7_write 289 = .ok (.iinc 2 1, 3) := by decide +kernel
theorem dX7_write_292 : decode cX7_write 292 = .ok (.iconst 0, 1) := by decide +kernel
theorem dX7_write_293 : decode cX7_write 293 = .ok (.istore 8, 2) := by decide +kernel
theorem dX7_write_295 : decode cX7_write 295 = .ok (.iload 8, 2) := by decide +kernel
theorem dX7_write_297 : decode cX7_write 297 = .ok (.aload_n 0, 1) := by decide +kernel
theorem dX7_write_298 : decode cX7_write 298 = .ok (.getfield 228, 3) := by decide +kernel
theorem dX7_write_301 : decode cX7_write 301 = .ok (.if_icmp .ge 32, 3) := by decide +kernel
theorem dX7_write_304 : decode cX7_write 304 = .ok (.iload_n 2, 1) := by decide +kernel
theorem dX7_write_305 : decode cX7_write 305 = .ok (.sipush 4000, 3) := by decide +kernel
theorem dX7_write_308 : decode cX7_write 308 = .ok (.if_icmp .ge 16, 3) := by decide +kernel
theorem dX7_write_311 : decode cX7_write 311 = .ok (.aload_n 0, 1) := by decide +kernel
theorem dX7_write_312 : decode cX7_write 312 = .ok (.getfield 105, 3) := by decide +kernel
theorem dX7_write_315 : decode cX7_write 315 = .ok (.iload_n 2, 1) := by decide +kernel
theorem dX7_write_316 : decode cX7_write 316 = .ok (.aload_n 0, 1) := by decide +kernel
theorem dX7_write_317 : decode cX7_write 317 = .ok (.getfield 102, 3) := by decide +kernel
theorem dX7_write_320 : decode cX7_write 320 = .ok (.iload 8, 2) := by decide +kernel
theorem dX7_write_322 : decode cX7_write 322 = .ok (.iaload, 1) := by decide +kernel
theorem dX7_write_323 : decode cX7_write 323 = .ok (.iastore, 1) := by decide +kernel
theorem dX7_write_324 : decode cX7_write 324 = .ok (.iinc 2 1, 3) := by decide +kernel
theorem dX7_write_327 : decode cX7_write 327 = .ok (.iinc 8 1, 3) := by decide +kernel
theorem dX7_write_330 : decode cX7_write 330 = .ok (.goto (-35), 3) := by decide +kernel
theorem dX7_write_333 : decode cX7_write 333 = .ok (.iload_n 3, 1) := by decide +kernel
theorem dX7_write_334 : decode cX7_write 334 = .ok (.iload 6, 2) := by decide +kernel
theorem dX7_write_336 : decode cX7_write 336 = .ok (.aload_n 0, 1) := by decide +kernel
theorem dX7_write_337 : decode cX7_write 337 = .ok (.getfield 228, 3) := by decide +kernel
theorem dX7_write_340 : decode cX7_write 340 = .ok (.iadd, 1) := by decide +kernel
theorem dX7_write_341 : decode cX7_write 341 = .ok (.iadd, 1) := by decide +kernel
theorem dX7_write_342 : decode cX7_write 342 = .ok (.istore_n 3, 1) := by decide +kernel
theorem dX7_write_343 : decode cX7_write 343 = .ok (.iinc 4 1, 3) := by decide +kernel
theorem dX7_write_346 : decode cX7_write 346 = .ok (.goto (-186), 3) := by decide +kernel
theorem dX7_write_349 : decode cX7_write 349 = .ok (.iload_n 2, 1) := by decide +kernel
theorem dX7_write_350 : decode cX7_write 350 = .ok (.sipush 4000, 3) := by decide +kernel
theorem dX7_write_353 : decode cX7_write 353 = .ok (.if_icmp .le 6, 3) := by decide +kernel
theorem dX7_write_356 : decode cX7_write 356 = .ok (.bipush (-4), 2) := by decide +kernel
theorem dX7_write_358 : decode cX7_write 358 = .ok (.ireturn, 1) := by decide +kernel
theorem dX7_write_359 : decode cX7_write 359 = .ok (.iconst 0, 1) := by decide +kernel
theorem dX7_write_360 : decode cX7_write 360 = .ok (.istore 4, 2) := by decide +kernel
theorem dX7_write_362 : decode cX7_write 362 = .ok (.iload 4, 2) := by decide +kernel
theorem dX7_write_364 : decode cX7_write 364 = .ok (.iload_n 2, 1) := by decide +kernel
theorem dX7_write_365 : decode cX7_write 365 = .ok (.if_icmp .ge 23, 3) := by decide +kernel
theorem dX7_write_368 : decode cX7_write 368 = .ok (.aload_n 0, 1) := by decide +kernel
theorem dX7_write_369 : decode cX7_write 369 = .ok (.getfield 25, 3) := by decide +kernel
theorem dX7_write_372 : decode cX7_write 372 = .ok (.iload 4, 2) := by decide +kernel
theorem dX7_write_374 : decode cX7_write 374 = .ok (.aload_n 0, 1) := by decide +kernel
theorem dX7_write_375 : decode cX7_write 375 = .ok (.getfield 105, 3) := by decide +kernel
theorem dX7_write_378 : decode cX7_write 378 = .ok (.iload 4, 2) := by decide +kernel
theorem dX7_write_380 : decode cX7_write 380 = .ok (.iaload, 1) := by decide +kernel
theorem dX7_write_381 : decode cX7_write 381 = .ok (.iastore, 1) := by decide +kernel
theorem dX7_write_382 : decode cX7_write 382 = .ok (.iinc 4 1, 3) := by decide +kernel
theorem dX7_write_385 : decode cX7_write 385 = .ok (.goto (-23), 3) := by decide +kernel
theorem dX7_write_388 : decode cX7_write 388 = .ok (.aload_n 0, 1) := by decide +kernel
theorem dX7_write_389 : decode cX7_write 389 = .ok (.iload_n 2, 1) := by decide +kernel
theorem dX7_write_390 : decode cX7_write 390 = .ok (.putfield 108, 3) := by decide +kernel
theorem dX7_write_393 : decode cX7_write 393 = .ok (.iload_n 2, 1) := by decide +kernel
theorem dX7_write_394 : decode cX7_write 394 = .ok (.ireturn, 1) := by decide +kernel
theorem dX7_wants_0 : decode cX7_wants 0 = .ok (.iload_n 1, 1) := by decide +kernel
theorem dX7_wants_1 : decode cX7_wants 1 = .ok (.bipush 7, 2) := by decide +kernel
theorem dX7_wants_3 : decode cX7_wants 3 = .ok (.if_icmp .lt 21, 3) := by decide +kernel
theorem dX7_wants_6 : decode cX7_wants 6 = .ok (.iload_n 1, 1) := by decide +kernel
theorem dX7_wants_7 : decode cX7_wants 7 = .ok (.bipush 55, 2) := by decide +kernel
theorem dX7_wants_9 : decode cX7_wants 9 = .ok (.if_icmp .gt 15, 3) := by decide +kernel
theorem dX7_wants_12 : decode cX7_wants 12 = .ok (.iload_n 2, 1) := by decide +kernel
theorem dX7_wants_13 : decode cX7_wants 13 = .ok (.bipush 7, 2) := by decide +kernel
theorem dX7_wants_15 : decode cX7_wants 15 = .ok (.if_icmp .lt 9, 3) := by decide +kernel
theorem dX7_wants_18 : decode cX7_wants 18 = .ok (.iload_n 2, 1) := by decide +kernel
theorem dX7_wants_19 : decode cX7_wants 19 = .ok (.bipush 55, 2) := by decide +kernel
theorem dX7_wants_21 : decode cX7_wants 21 = .ok (.if_icmp .le 8, 3) := by decide +kernel
theorem dX7_wants_24 : decode cX7_wants 24 = .ok (.bipush (-2), 2) := by decide +kernel
theorem dX7_wants_26 : decode cX7_wants 26 = .ok (.goto 16, 3) := by decide +kernel
theorem dX7_wants_29 : decode cX7_wants 29 = .ok (.iload_n 1, 1) := by decide +kernel
theorem dX7_wants_30 : decode cX7_wants 30 = .ok (.iload_n 2, 1) := by decide +kernel
theorem dX7_wants_31 : decode cX7_wants 31 = .ok (.invokestatic 163, 3) := by decide +kernel
theorem dX7_wants_34 : decode cX7_wants 34 = .ok (.ifCond .eq 7, 3) := by decide +kernel
theorem dX7_wants_37 : decode cX7_wants 37 = .ok (.iconst 1, 1) := by decide +kernel
theorem dX7_wants_38 : decode cX7_wants 38 = .ok (.goto 4, 3) := by decide +kernel
theorem dX7_wants_41 : decode cX7_wants 41 = .ok (.iconst 0, 1) := by decide +kernel
theorem dX7_wants_42 : decode cX7_wants 42 = .ok (.ireturn, 1) := by decide +kernel
theorem dX7_ways_0 : decode cX7_ways 0 = .ok (.aload_n 0, 1) := by decide +kernel
theorem dX7_ways_1 : decode cX7_ways 1 = .ok (.iload_n 1, 1) := by decide +kernel
theorem dX7_ways_2 : decode cX7_ways 2 = .ok (.iload_n 2, 1) := by decide +kernel
theorem dX7_ways_3 : decode cX7_ways 3 = .ok (.invokevirtual 249, 3) := by decide +kernel
theorem dX7_ways_6 : decode cX7_ways 6 = .ok (.ifCond .ne 5, 3) := by decide +kernel
theorem dX7_ways_9 : decode cX7_ways 9 = .ok (.iconst (-1), 1) := by decide +kernel
theorem dX7_ways_10 : decode cX7_ways 10 = .ok (.ireturn, 1) := by decide +kernel
theorem dX7_ways_11 : decode cX7_ways 11 = .ok (.aload_n 0, 1) := by decide +kernel
theorem dX7_ways_12 : decode cX7_ways 12 = .ok (.iconst 0, 1) := by decide +kernel
theorem dX7_ways_13 : decode cX7_ways 13 = .ok (.iload_n 1, 1) := by decide +kernel
theorem dX7_ways_14 : decode cX7_ways 14 = .ok (.iload_n 2, 1) := by decide +kernel
theorem dX7_ways_15 : decode cX7_ways 15 = .ok (.invokevirtual 218, 3) := by decide +kernel
theorem dX7_ways_18 : decode cX7_ways 18 = .ok (.istore_n 3, 1) := by decide +kernel
theorem dX7_ways_19 : decode cX7_ways 19 = .ok (.aload_n 0, 1) := by decide +kernel
theorem dX7_ways_20 : decode cX7_ways 20 = .ok (.iconst 0, 1) := by decide +kernel
theorem dX7_ways_21 : decode cX7_ways 21 = .ok (.iload_n 1, 1) := by decide +kernel
theorem dX7_ways_22 : decode cX7_ways 22 = .ok (.iload_n 2, 1) := by decide +kernel
theorem dX7_ways_23 : decode cX7_ways 23 = .ok (.invokevirtual 215, 3) := by decide +kernel
theorem dX7_ways_26 : decode cX7_ways 26 = .ok (.istore 4, 2) := by decide +kernel
theorem dX7_ways_28 : decode cX7_ways 28 = .ok (.iload 4, 2) := by decide +kernel
theorem dX7_ways_30 : decode cX7_ways 30 = .ok (.ifCond .ne 5, 3) := by decide +kernel
theorem dX7_ways_33 : decode cX7_ways 33 = .ok (.iconst 0, 1) := by decide +kernel
theorem dX7_ways_34 : decode cX7_ways 34 = .ok (.ireturn, 1) := by decide +kernel
theorem dX7_ways_35 : decode cX7_ways 35 = .ok (.aload_n 0, 1) := by decide +kernel
theorem dX7_ways_36 : decode cX7_ways 36 = .ok (.getfield 62, 3) := by decide +kernel
theorem dX7_ways_39 : decode cX7_ways 39 = .ok (.iload_n 3, 1) := by decide +kernel
theorem dX7_ways_40 : decode cX7_ways 40 = .ok (.iaload, 1) := by decide +kernel
theorem dX7_ways_41 : decode cX7_ways 41 = .ok (.iconst 2, 1) := by decide +kernel
theorem dX7_ways_42 : decode cX7_ways 42 = .ok (.if_icmp .ne 5, 3) := by decide +kernel
theorem dX7_ways_45 : decode cX7_ways 45 = .ok (.iconst 1, 1) := by decide +kernel
theorem dX7_ways_46 : decode cX7_ways 46 = .ok (.ireturn, 1) := by decide +kernel
theorem dX7_ways_47 : decode cX7_ways 47 = .ok (.iconst 0, 1) := by decide +kernel
theorem dX7_ways_48 : decode cX7_ways 48 = .ok (.istore 5, 2) := by decide +kernel
theorem dX7_ways_50 : decode cX7_ways 50 = .ok (.iload 5, 2) := by decide +kernel
theorem dX7_ways_52 : decode cX7_ways 52 = .ok (.aload_n 0, 1) := by decide +kernel
theorem dX7_ways_53 : decode cX7_ways 53 = .ok (.getfield 28, 3) := by decide +kernel
theorem dX7_ways_56 : decode cX7_ways 56 = .ok (.if_icmp .gt 26, 3) := by decide +kernel
theorem dX7_ways_59 : decode cX7_ways 59 = .ok (.aload_n 0, 1) := by decide +kernel
theorem dX7_ways_60 : decode cX7_ways 60 = .ok (.getfield 81, 3) := by decide +kernel
theorem dX7_ways_63 : decode cX7_ways 63 = .ok (.iload 5, 2) := by decide +kernel
theorem dX7_ways_65 : decode cX7_ways 65 = .ok (.iload 5, 2) := by decide +kernel
theorem dX7_ways_67 : decode cX7_ways 67 = .ok (.ifCond .ne 7, 3) := by decide +kernel
theorem dX7_ways_70 : decode cX7_ways 70 = .ok (.iconst 1, 1) := by decide +kernel
theorem dX7_ways_71 : decode cX7_ways 71 = .ok (.goto 4, 3) := by decide +kernel
theorem dX7_ways_74 : decode cX7_ways 74 = .ok (.iconst 0, 1) := by decide +kernel
theorem dX7_ways_75 : decode cX7_ways 75 = .ok (.iastore, 1) := by decide +kernel
theorem dX7_ways_76 : decode cX7_ways 76 = .ok (.iinc 5 1, 3) := by decide +kernel
theorem dX7_ways_79 : decode cX7_ways 79 = .ok (.goto (-29), 3) := by decide +kernel
theorem dX7_ways_82 : decode cX7_ways 82 = .ok (.iload_n 3, 1) := by decide +kernel
theorem dX7_ways_83 : decode cX7_ways 83 = .ok (.istore 5, 2) := by decide +kernel
theorem dX7_ways_85 : decode cX7_ways 85 = .ok (.iload 5, 2) := by decide +kernel
theorem dX7_ways_87 : decode cX7_ways 87 = .ok (.iload_n 3, 1) := by decide +kernel
theorem dX7_ways_88 : decode cX7_ways 88 = .ok (.iload 4, 2) := by decide +kernel
theorem dX7_ways_90 : decode cX7_ways 90 = .ok (.iadd, 1) := by decide +kernel
theorem dX7_ways_91 : decode cX7_ways 91 = .ok (.if_icmp .ge 130, 3) := by decide +kernel
theorem dX7_ways_94 : decode cX7_ways 94 = .ok (.aload_n 0, 1) := by decide +kernel
theorem dX7_ways_95 : decode cX7_ways 95 = .ok (.getfield 59, 3) := by decide +kernel
theorem dX7_ways_98 : decode cX7_ways 98 = .ok (.iload 5, 2) := by decide +kernel
theorem dX7_ways_100 : decode cX7_ways 100 = .ok (.iaload, 1) := by decide +kernel
theorem dX7_ways_101 : decode cX7_ways 101 = .ok (.iconst 0, 1) := by decide +kernel
theorem dX7_ways_102 : decode cX7_ways 102 = .ok (.aload_n 0, 1) := by decide +kernel
theorem dX7_ways_103 : decode cX7_ways 103 = .ok (.getfield 65, 3) := by decide +kernel
theorem dX7_ways_106 : decode cX7_ways 106 = .ok (.iload 5, 2) := by decide +kernel
theorem dX7_ways_108 : decode cX7_ways 108 = .ok (.iaload, 1) := by decide +kernel
theorem dX7_ways_109 : decode cX7_ways 109 = .ok (.invokestatic 111, 3) := by decide +kernel
theorem dX7_ways_112 : decode cX7_ways 112 = .ok (.istore 6, 2) := by decide +kernel
theorem dX7_ways_114 : decode cX7_ways 114 = .ok (.aload_n 0, 1) := by decide +kernel
theorem dX7_ways_115 : decode cX7_ways 115 = .ok (.getfield 59, 3) := by decide +kernel
theorem dX7_ways_118 : decode cX7_ways 118 = .ok (.iload 5, 2) := by decide +kernel
theorem dX7_ways_120 : decode cX7_ways 120 = .ok (.iaload, 1) := by decide +kernel
theorem dX7_ways_121 : decode cX7_ways 121 = .ok (.iconst 1, 1) := by decide +kernel
theorem dX7_ways_122 : decode cX7_ways 122 = .ok (.aload_n 0, 1) := by decide +kernel
theorem dX7_ways_123 : decode cX7_ways 123 = .ok (.getfield 65, 3) := by decide +kernel
theorem dX7_ways_126 : decode cX7_ways 126 = .ok (.iload 5, 2) := by decide +kernel
theorem dX7_ways_128 : decode cX7_ways 128 = .ok (.iaload, 1) := by decide +kernel
theorem dX7_ways_129 : decode cX7_ways 129 = .ok (.invokestatic 111, 3) := by decide +kernel
theorem dX7_ways_132 : decode cX7_ways 132 = .ok (.istore 7, 2) := by decide +kernel
theorem dX7_ways_134 : decode cX7_ways 134 = .ok (.aload_n 0, 1) := by decide +kernel
theorem dX7_ways_135 : decode cX7_ways 135 = .ok (.getfield 28, 3) := by decide +kernel
theorem dX7_ways_138 : decode cX7_ways 138 = .ok (.istore 8, 2) := by decide +kernel
theorem dX7_ways_140 : decode cX7_ways 140 = .ok (.iload 8, 2) := by decide +kernel
theorem dX7_ways_142 : decode cX7_ways 142 = .ok (.ifCond .lt 73, 3) := by decide +kernel
theorem dX7_ways_145 : decode cX7_ways 145 = .ok (.iload 8, 2) := by decide +kernel
theorem dX7_ways_147 : decode cX7_ways 147 = .ok (.iload 6, 2) := by decide +kernel
theorem dX7_ways_149 : decode cX7_ways 149 = .ok (.if_icmp .lt 16, 3) := by decide +kernel
theorem dX7_ways_152 : decode cX7_ways 152 = .ok (.aload_n 0, 1) := by decide +kernel
theorem dX7_ways_153 : decode cX7_ways 153 = .ok (.getfield 81, 3) := by decide +kernel
theorem dX7_ways_156 : decode cX7_ways 156 = .ok (.iload 8, 2) := by decide +kernel
theorem dX7_ways_158 : decode cX7_ways 158 = .ok (.iload 6, 2) := by decide +kernel
theorem dX7_ways_160 : decode cX7_ways 160 = .ok (.isub, 1) := by decide +kernel
theorem dX7_ways_161 : decode cX7_ways 161 = .ok (.iaload, 1) := by decide +kernel
theorem dX7_ways_162 : decode cX7_ways 162 = .ok (.goto 4, 3) := by decide +kernel
theorem dX7_ways_165 : decode cX7_ways 165 = .ok (.iconst 0, 1) := by decide +kernel
theorem dX7_ways_166 : decode cX7_ways 166 = .ok (.iload 8, 2) := by decide +kernel
theorem dX7_ways_168 : decode cX7_ways 168 = .ok (.iload 7, 2) := by decide +kernel
theorem dX7_ways_170 : decode cX7_ways 170 = .ok (.if_icmp .lt 16, 3) := by decide +kernel
theorem dX7_ways_173 : decode cX7_ways 173 = .ok (.aload_n 0, 1) := by decide +kernel
theorem dX7_ways_174 : decode cX7_ways 174 = .ok (.getfield 81, 3) := by decide +kernel
theorem dX7_ways_177 : decode cX7_ways 177 = .ok (.iload 8, 2) := by decide +kernel
theorem dX7_ways_179 : decode cX7_ways 179 = .ok (.iload 7, 2) := by decide +kernel
theorem dX7_ways_181 : decode cX7_ways 181 = .ok (.isub, 1) := by decide +kernel
theorem dX7_ways_182 : decode cX7_ways 182 = .ok (.iaload, 1) := by decide +kernel
theorem dX7_ways_183 : decode cX7_ways 183 = .ok (.goto 4, 3) := by decide +kernel
theorem dX7_ways_186 : decode cX7_ways 186 = .ok (.iconst 0, 1) := by decide +kernel
