theorem dX7_ways_187 : decode cX7_ways 187 = .ok (.iadd, 1) := by decide +kernel
theorem dX7_ways_188 : decode cX7_ways 188 = .ok (.istore 9, 2) := by decide +kernel
theorem dX7_ways_190 : decode cX7_ways 190 = .ok (.aload_n 0, 1) := by decide +kernel
theorem dX7_ways_191 : decode cX7_ways 191 = .ok (.getfield 81, 3) := by decide +kernel
theorem dX7_ways_194 : decode cX7_ways 194 = .ok (.iload 8, 2) := by decide +kernel
theorem dX7_ways_196 : decode cX7_ways 196 = .ok (.iload 9, 2) := by decide +kernel
theorem dX7_ways_198 : decode cX7_ways 198 = .ok (.iconst 2, 1) := by decide +kernel
theorem dX7_ways_199 : decode cX7_ways 199 = .ok (.if_icmp .le 7, 3) := by decide +kernel
theorem dX7_ways_202 : decode cX7_ways 202 = .ok (.iconst 2, 1) := by decide +kernel
theorem dX7_ways_203 : decode cX7_ways 203 = .ok (.goto 5, 3) := by decide +kernel
theorem dX7_ways_206 : decode cX7_ways 206 = .ok (.iload 9, 2) := by decide +kernel
theorem dX7_ways_208 : decode cX7_ways 208 = .ok (.iastore, 1) := by decide +kernel
theorem dX7_ways_209 : decode cX7_ways 209 = .ok (.iinc 8 (-1), 3) := by decide +kernel
theorem dX7_ways_212 : decode cX7_ways 212 = .ok (.goto (-72), 3) := by decide +kernel
theorem dX7_ways_215 : decode cX7_ways 215 = .ok (.iinc 5 1, 3) := by decide +kernel
theorem dX7_ways_218 : decode cX7_ways 218 = .ok (.goto (-133), 3) := by decide +kernel
theorem dX7_ways_221 : decode cX7_ways 221 = .ok (.aload_n 0, 1) := by decide +kernel
theorem dX7_ways_222 : decode cX7_ways 222 = .ok (.getfield 81, 3) := by decide +kernel
theorem dX7_ways_225 : decode cX7_ways 225 = .ok (.aload_n 0, 1) := by decide +kernel
theorem dX7_ways_226 : decode cX7_ways 226 = .ok (.getfield 28, 3) := by decide +kernel
theorem dX7_ways_229 : decode cX7_ways 229 = .ok (.iaload, 1) := by decide +kernel
theorem dX7_ways_230 : decode cX7_ways 230 = .ok (.ireturn, 1) := by decide +kernel
theorem dX7_signed_0 : decode cX7_signed 0 = .ok (.aload_n 0, 1) := by decide +kernel
theorem dX7_signed_1 : decode cX7_signed 1 = .ok (.iload_n 1, 1) := by decide +kernel
theorem dX7_signed_2 : decode cX7_signed 2 = .ok (.iload_n 2, 1) := by decide +kernel
theorem dX7_signed_3 : decode cX7_signed 3 = .ok (.invokevirtual 249, 3) := by decide +kernel
theorem dX7_signed_6 : decode cX7_signed 6 = .ok (.ifCond .ne 5, 3) := by decide +kernel
theorem dX7_signed_9 : decode cX7_signed 9 = .ok (.iconst (-1), 1) := by decide +kernel
theorem dX7_signed_10 : decode cX7_signed 10 = .ok (.ireturn, 1) := by decide +kernel
theorem dX7_signed_11 : decode cX7_signed 11 = .ok (.aload_n 0, 1) := by decide +kernel
theorem dX7_signed_12 : decode cX7_signed 12 = .ok (.iconst 0, 1) := by decide +kernel
theorem dX7_signed_13 : decode cX7_signed 13 = .ok (.iload_n 1, 1) := by decide +kernel
theorem dX7_signed_14 : decode cX7_signed 14 = .ok (.iload_n 2, 1) := by decide +kernel
theorem dX7_signed_15 : decode cX7_signed 15 = .ok (.invokevirtual 208, 3) := by decide +kernel
theorem dX7_signed_18 : decode cX7_signed 18 = .ok (.aload_n 0, 1) := by decide +kernel
theorem dX7_signed_19 : decode cX7_signed 19 = .ok (.getfield 28, 3) := by decide +kernel
theorem dX7_signed_22 : decode cX7_signed 22 = .ok (.if_icmp .eq 6, 3) := by decide +kernel
theorem dX7_signed_25 : decode cX7_signed 25 = .ok (.bipush (-3), 2) := by decide +kernel
theorem dX7_signed_27 : decode cX7_signed 27 = .ok (.ireturn, 1) := by decide +kernel
theorem dX7_signed_28 : decode cX7_signed 28 = .ok (.aload_n 0, 1) := by decide +kernel
theorem dX7_signed_29 : decode cX7_signed 29 = .ok (.iload_n 1, 1) := by decide +kernel
theorem dX7_signed_30 : decode cX7_signed 30 = .ok (.iload_n 2, 1) := by decide +kernel
theorem dX7_signed_31 : decode cX7_signed 31 = .ok (.invokevirtual 243, 3) := by decide +kernel
theorem dX7_signed_34 : decode cX7_signed 34 = .ok (.ifCond .eq 7, 3) := by decide +kernel
theorem dX7_signed_37 : decode cX7_signed 37 = .ok (.iconst 1, 1) := by decide +kernel
theorem dX7_signed_38 : decode cX7_signed 38 = .ok (.goto 4, 3) := by decide +kernel
theorem dX7_signed_41 : decode cX7_signed 41 = .ok (.iconst 0, 1) := by decide +kernel
theorem dX7_signed_42 : decode cX7_signed 42 = .ok (.ireturn, 1) := by decide +kernel
theorem dX7_barOf_0 : decode cX7_barOf 0 = .ok (.iload_n 1, 1) := by decide +kernel
theorem dX7_barOf_1 : decode cX7_barOf 1 = .ok (.ifCond .lt 13, 3) := by decide +kernel
theorem dX7_barOf_4 : decode cX7_barOf 4 = .ok (.iload_n 1, 1) := by decide +kernel
theorem dX7_barOf_5 : decode cX7_barOf 5 = .ok (.aload_n 0, 1) := by decide +kernel
theorem dX7_barOf_6 : decode cX7_barOf 6 = .ok (.getfield 32, 3) := by decide +kernel
theorem dX7_barOf_9 : decode cX7_barOf 9 = .ok (.iconst 0, 1) := by decide +kernel
theorem dX7_barOf_10 : decode cX7_barOf 10 = .ok (.iaload, 1) := by decide +kernel
theorem dX7_barOf_11 : decode cX7_barOf 11 = .ok (.if_icmp .lt 5, 3) := by decide +kernel
theorem dX7_barOf_14 : decode cX7_barOf 14 = .ok (.iconst (-1), 1) := by decide +kernel
theorem dX7_barOf_15 : decode cX7_barOf 15 = .ok (.ireturn, 1) := by decide +kernel
theorem dX7_barOf_16 : decode cX7_barOf 16 = .ok (.iload_n 2, 1) := by decide +kernel
theorem dX7_barOf_17 : decode cX7_barOf 17 = .ok (.ifCond .lt 8, 3) := by decide +kernel
theorem dX7_barOf_20 : decode cX7_barOf 20 = .ok (.iload_n 2, 1) := by decide +kernel
theorem dX7_barOf_21 : decode cX7_barOf 21 = .ok (.iconst 2, 1) := by decide +kernel
theorem dX7_barOf_22 : decode cX7_barOf 22 = .ok (.if_icmp .le 6, 3) := by decide +kernel
theorem dX7_barOf_25 : decode cX7_barOf 25 = .ok (.bipush (-2), 2) := by decide +kernel
theorem dX7_barOf_27 : decode cX7_barOf 27 = .ok (.ireturn, 1) := by decide +kernel
theorem dX7_barOf_28 : decode cX7_barOf 28 = .ok (.iconst 0, 1) := by decide +kernel
theorem dX7_barOf_29 : decode cX7_barOf 29 = .ok (.istore_n 3, 1) := by decide +kernel
theorem dX7_barOf_30 : decode cX7_barOf 30 = .ok (.iconst (-1), 1) := by decide +kernel
theorem dX7_barOf_31 : decode cX7_barOf 31 = .ok (.istore 4, 2) := by decide +kernel
theorem dX7_barOf_33 : decode cX7_barOf 33 = .ok (.aload_n 0, 1) := by decide +kernel
theorem dX7_barOf_34 : decode cX7_barOf 34 = .ok (.getfield 35, 3) := by decide +kernel
theorem dX7_barOf_37 : decode cX7_barOf 37 = .ok (.iconst 0, 1) := by decide +kernel
theorem dX7_barOf_38 : decode cX7_barOf 38 = .ok (.iaload, 1) := by decide +kernel
theorem dX7_barOf_39 : decode cX7_barOf 39 = .ok (.iconst 1, 1) := by decide +kernel
theorem dX7_barOf_40 : decode cX7_barOf 40 = .ok (.isub, 1) := by decide +kernel
theorem dX7_barOf_41 : decode cX7_barOf 41 = .ok (.istore 5, 2) := by decide +kernel
theorem dX7_barOf_43 : decode cX7_barOf 43 = .ok (.iload 5, 2) := by decide +kernel
theorem dX7_barOf_45 : decode cX7_barOf 45 = .ok (.ifCond .lt 27, 3) := by decide +kernel
theorem dX7_barOf_48 : decode cX7_barOf 48 = .ok (.aload_n 0, 1) := by decide +kernel
theorem dX7_barOf_49 : decode cX7_barOf 49 = .ok (.getfield 47, 3) := by decide +kernel
theorem dX7_barOf_52 : decode cX7_barOf 52 = .ok (.iload 5, 2) := by decide +kernel
theorem dX7_barOf_54 : decode cX7_barOf 54 = .ok (.iaload, 1) := by decide +kernel
theorem dX7_barOf_55 : decode cX7_barOf 55 = .ok (.iload_n 1, 1) := by decide +kernel
theorem dX7_barOf_56 : decode cX7_barOf 56 = .ok (.if_icmp .ne 10, 3) := by decide +kernel
theorem dX7_barOf_59 : decode cX7_barOf 59 = .ok (.iinc 3 1, 3) := by decide +kernel
theorem dX7_barOf_62 : decode cX7_barOf 62 = .ok (.iload 5, 2) := by decide +kernel
theorem dX7_barOf_64 : decode cX7_barOf 64 = .ok (.istore 4, 2) := by decide +kernel
theorem dX7_barOf_66 : decode cX7_barOf 66 = .ok (.iinc 5 (-1), 3) := by decide +kernel
theorem dX7_barOf_69 : decode cX7_barOf 69 = .ok (.goto (-26), 3) := by decide +kernel
theorem dX7_barOf_72 : decode cX7_barOf 72 = .ok (.iload_n 2, 1) := by decide +kernel
theorem dX7_barOf_73 : decode cX7_barOf 73 = .ok (.ifCond .ne 12, 3) := by decide +kernel
theorem dX7_barOf_76 : decode cX7_barOf 76 = .ok (.aload_n 0, 1) := by decide +kernel
theorem dX7_barOf_77 : decode cX7_barOf 77 = .ok (.getfield 44, 3) := by decide +kernel
theorem dX7_barOf_80 : decode cX7_barOf 80 = .ok (.iload_n 1, 1) := by decide +kernel
theorem dX7_barOf_81 : decode cX7_barOf 81 = .ok (.iaload, 1) := by decide +kernel
theorem dX7_barOf_82 : decode cX7_barOf 82 = .ok (.goto 14, 3) := by decide +kernel
theorem dX7_barOf_85 : decode cX7_barOf 85 = .ok (.iload_n 2, 1) := by decide +kernel
theorem dX7_barOf_86 : decode cX7_barOf 86 = .ok (.iconst 1, 1) := by decide +kernel
theorem dX7_barOf_87 : decode cX7_barOf 87 = .ok (.if_icmp .ne 8, 3) := by decide +kernel
theorem dX7_barOf_90 : decode cX7_barOf 90 = .ok (.iload 4, 2) := by decide +kernel
theorem dX7_barOf_92 : decode cX7_barOf 92 = .ok (.goto 4, 3) := by decide +kernel
theorem dX7_barOf_95 : decode cX7_barOf 95 = .ok (.iload_n 3, 1) := by decide +kernel
theorem dX7_barOf_96 : decode cX7_barOf 96 = .ok (.ireturn, 1) := by decide +kernel
theorem dX7_item_0 : decode cX7_item 0 = .ok (.iload_n 1, 1) := by decide +kernel
theorem dX7_item_1 : decode cX7_item 1 = .ok (.ifCond .lt 13, 3) := by decide +kernel
theorem dX7_item_4 : decode cX7_item 4 = .ok (.iload_n 1, 1) := by decide +kernel
theorem dX7_item_5 : decode cX7_item 5 = .ok (.aload_n 0, 1) := by decide +kernel
theorem dX7_item_6 : decode cX7_item 6 = .ok (.getfield 35, 3) := by decide +kernel
theorem dX7_item_9 : decode cX7_item 9 = .ok (.iconst 0, 1) := by decide +kernel
theorem dX7_item_10 : decode cX7_item 10 = .ok (.iaload, 1) := by decide +kernel
theorem dX7_item_11 : decode cX7_item 11 = .ok (.if_icmp .lt 5, 3) := by decide +kernel
theorem dX7_item_14 : decode cX7_item 14 = .ok (.iconst (-1), 1) := by decide +kernel
theorem dX7_item_15 : decode cX7_item 15 = .ok (.ireturn, 1) := by decide +kernel
theorem dX7_item_16 : decode cX7_item 16 = .ok (.iload_n 2, 1) := by decide +kernel
theorem dX7_item_17 : decode cX7_item 17 = .ok (.ifCond .lt 9, 3) := by decide +kernel
theorem dX7_item_20 : decode cX7_item 20 = .ok (.iload_n 2, 1) := by decide +kernel
theorem dX7_item_21 : decode cX7_item 21 = .ok (.bipush 14, 2) := by decide +kernel
theorem dX7_item_23 : decode cX7_item 23 = .ok (.if_icmp .le 6, 3) := by decide +kernel
theorem dX7_item_26 : decode cX7_item 26 = .ok (.bipush (-2), 2) := by decide +kernel
theorem dX7_item_28 : decode cX7_item 28 = .ok (.ireturn, 1) := by decide +kernel
theorem dX7_item_29 : decode cX7_item 29 = .ok (.iload_n 2, 1) := by decide +kernel
theorem dX7_item_30 : decode cX7_item 30 = .ok (.bipush 10, 2) := by decide +kernel
theorem dX7_item_32 : decode cX7_item 32 = .ok (.if_icmp .le 34, 3) := by decide +kernel
theorem dX7_item_35 : decode cX7_item 35 = .ok (.iload_n 2, 1) := by decide +kernel
theorem dX7_item_36 : decode cX7_item 36 = .ok (.bipush 11, 2) := by decide +kernel
theorem dX7_item_38 : decode cX7_item 38 = .ok (.isub, 1) := by decide +kernel
theorem dX7_item_39 : decode cX7_item 39 = .ok (.aload_n 0, 1) := by decide +kernel
theorem dX7_item_40 : decode cX7_item 40 = .ok (.getfield 74, 3) := by decide +kernel
theorem dX7_item_43 : decode cX7_item 43 = .ok (.iload_n 1, 1) := by decide +kernel
theorem dX7_item_44 : decode cX7_item 44 = .ok (.iaload, 1) := by decide +kernel
theorem dX7_item_45 : decode cX7_item 45 = .ok (.if_icmp .ge 19, 3) := by decide +kernel
theorem dX7_item_48 : decode cX7_item 48 = .ok (.aload_n 0, 1) := by decide +kernel
theorem dX7_item_49 : decode cX7_item 49 = .ok (.getfield 77, 3) := by decide +kernel
theorem dX7_item_52 : decode cX7_item 52 = .ok (.iconst 4, 1) := by decide +kernel
theorem dX7_item_53 : decode cX7_item 53 = .ok (.iload_n 1, 1) := by decide +kernel
theorem dX7_item_54 : decode cX7_item 54 = .ok (.imul, 1) := by decide +kernel
theorem dX7_item_55 : decode cX7_item 55 = .ok (.iload_n 2, 1) := by decide +kernel
theorem dX7_item_56 : decode cX7_item 56 = .ok (.iadd, 1) := by decide +kernel
theorem dX7_item_57 : decode cX7_item 57 = .ok (.bipush 11, 2) := by decide +kernel
theorem dX7_item_59 : decode cX7_item 59 = .ok (.isub, 1) := by decide +kernel
theorem dX7_item_60 : decode cX7_item 60 = .ok (.iaload, 1) := by decide +kernel
theorem dX7_item_61 : decode cX7_item 61 = .ok (.goto 4, 3) := by decide +kernel
theorem dX7_item_64 : decode cX7_item 64 = .ok (.iconst 0, 1) := by decide +kernel
theorem dX7_item_65 : decode cX7_item 65 = .ok (.ireturn, 1) := by decide +kernel
theorem dX7_item_66 : decode cX7_item 66 = .ok (.bipush 11, 2) := by decide +kernel
theorem dX7_item_68 : decode cX7_item 68 = .ok (.newarray .int, 2) := by decide +kernel
theorem dX7_item_70 : decode cX7_item 70 = .ok (.dup, 1) := by decide +kernel
theorem dX7_item_71 : decode cX7_item 71 = .ok (.iconst 0, 1) := by decide +kernel
theorem dX7_item_72 : decode cX7_item 72 = .ok (.aload_n 0, 1) := by decide +kernel
theorem dX7_item_73 : decode cX7_item 73 = .ok (.getfield 47, 3) := by decide +kernel
theorem dX7_item_76 : decode cX7_item 76 = .ok (.iload_n 1, 1) := by decide +kernel
theorem dX7_item_77 : decode cX7_item 77 = .ok (.iaload, 1) := by decide +kernel
theorem dX7_item_78 : decode cX7_item 78 = .ok (.iastore, 1) := by decide +kernel
theorem dX7_item_79 : decode cX7_item 79 = .ok (.dup, 1) := by decide +kernel
theorem dX7_item_80 : decode cX7_item 80 = .ok (.iconst 1, 1) := by decide +kernel
theorem dX7_item_81 : decode cX7_item 81 = .ok (.aload_n 0, 1) := by decide +kernel
theorem dX7_item_82 : decode cX7_item 82 = .ok (.getfield 50, 3) := by decide +kernel
theorem dX7_item_85 : decode cX7_item 85 = .ok (.iload_n 1, 1) := by decide +kernel
theorem dX7_item_86 : decode cX7_item 86 = .ok (.iaload, 1) := by decide +kernel
theorem dX7_item_87 : decode cX7_item 87 = .ok (.iastore, 1) := by decide +kernel
theorem dX7_item_88 : decode cX7_item 88 = .ok (.dup, 1) := by decide +kernel
theorem dX7_item_89 : decode cX7_item 89 = .ok (.iconst 2, 1) := by decide +kernel
theorem dX7_item_90 : decode cX7_item 90 = .ok (.aload_n 0, 1) := by decide +kernel
theorem dX7_item_91 : decode cX7_item 91 = .ok (.getfield 53, 3) := by decide +kernel
theorem dX7_item_94 : decode cX7_item 94 = .ok (.iload_n 1, 1) := by decide +kernel
theorem dX7_item_95 : decode cX7_item 95 = .ok (.iaload, 1) := by decide +kernel
theorem dX7_item_96 : decode cX7_item 96 = .ok (.iastore, 1) := by decide +kernel
theorem dX7_item_97 : decode cX7_item 97 = .ok (.dup, 1) := by decide +kernel
theorem dX7_item_98 : decode cX7_item 98 = .ok (.iconst 3, 1) := by decide +kernel
theorem dX7_item_99 : decode cX7_item 99 = .ok (.aload_n 0, 1) := by decide +kernel
theorem dX7_item_100 : decode cX7_item 100 = .ok (.getfield 56, 3) := by decide +kernel
theorem dX7_item_103 : decode cX7_item 103 = .ok (.iload_n 1, 1) := by decide +kernel
theorem dX7_item_104 : decode cX7_item 104 = .ok (.iaload, 1) := by decide +kernel
theorem dX7_item_105 : decode cX7_item 105 = .ok (.iastore, 1) := by decide +kernel
theorem dX7_item_106 : decode cX7_item 106 = .ok (.dup, 1) := by decide +kernel
theorem dX7_item_107 : decode cX7_item 107 = .ok (.iconst 4, 1) := by decide +kernel
theorem dX7_item_108 : decode cX7_item 108 = .ok (.aload_n 0, 1) := by decide +kernel
theorem dX7_item_109 : decode cX7_item 109 = .ok (.getfield 59, 3) := by decide +kernel
theorem dX7_item_112 : decode cX7_item 112 = .ok (.iload_n 1, 1) := by decide +kernel
theorem dX7_item_113 : decode cX7_item 113 = .ok (.iaload, 1) := by decide +kernel
theorem dX7_item_114 : decode cX7_item 114 = .ok (.iastore, 1) := by decide +kernel
theorem dX7_item_115 : decode cX7_item 115 = .ok (.dup, 1) := by decide +kernel
theorem dX7_item_116 : decode cX7_item 116 = .ok (.iconst 5, 1) := by decide +kernel
theorem dX7_item_117 : decode cX7_item 117 = .ok (.aload_n 0, 1) := by decide +kernel
theorem dX7_item_118 : decode cX7_item 118 = .ok (.getfield 62, 3) := by decide +kernel
theorem dX7_item_121 : decode cX7_item 121 = .ok (.iload_n 1, 1) := by decide +kernel
theorem dX7_item_122 : decode cX7_item 122 = .ok (.iaload, 1) := by decide +kernel
theorem dX7_item_123 : decode cX7_item 123 = .ok (.iastore, 1) := by decide +kernel
theorem dX7_item_124 : decode cX7_item 124 = .ok (.dup, 1) := by decide +kernel
theorem dX7_item_125 : decode cX7_item 125 = .ok (.bipush 6, 2) := by decide +kernel
theorem dX7_item_127 : decode cX7_item 127 = .ok (.aload_n 0, 1) := by decide +kernel
theorem dX7_item_128 : decode cX7_item 128 = .ok (.getfield 65, 3) := by decide +kernel
theorem dX7_item_131 : decode cX7_item 131 = .ok (.iload_n 1, 1) := by decide +kernel
theorem dX7_item_132 : decode cX7_item 132 = .ok (.iaload, 1) := by decide +kernel
theorem dX7_item_133 : decode cX7_item 133 = .ok (.iastore, 1) := by decide +kernel
theorem dX7_item_134 : decode cX7_item 134 = .ok (.dup, 1) := by decide +kernel
theorem dX7_item_135 : decode cX7_item 135 = .ok (.bipush 7, 2) := by decide +kernel
theorem dX7_item_137 : decode cX7_item 137 = .ok (.aload_n 0, 1) := by decide +kernel
theorem dX7_item_138 : decode cX7_item 138 = .ok (.iload_n 1, 1) := by decide +kernel
theorem dX7_item_139 : decode cX7_item 139 = .ok (.invokevirtual 115, 3) := by decide +kernel
theorem dX7_item_142 : decode cX7_item 142 = .ok (.iastore, 1) := by decide +kernel
theorem dX7_item_143 : decode cX7_item 143 = .ok (.dup, 1) := by decide +kernel
theorem dX7_item_144 : decode cX7_item 144 = .ok (.bipush 8, 2) := by decide +kernel
theorem dX7_item_146 : decode cX7_item 146 = .ok (.aload_n 0, 1) := by decide +kernel
theorem dX7_item_147 : decode cX7_item 147 = .ok (.getfield 68, 3) := by decide +kernel
theorem dX7_item_150 : decode cX7_item 150 = .ok (.iload_n 1, 1) := by decide +kernel
theorem dX7_item_151 : decode cX7_item 151 = .ok (.iaload, 1) := by decide +kernel
theorem dX7_item_152 : decode cX7_item 152 = .ok (.iastore, 1) := by decide +kernel
theorem dX7_item_153 : decode cX7_item 153 = .ok (.dup, 1) := by decide +kernel
theorem dX7_item_154 : decode cX7_item 154 = .ok (.bipush 9, 2) := by decide +kernel
theorem dX7_item_156 : decode cX7_item 156 = .ok (.aload_n 0, 1) := by decide +kernel
theorem dX7_item_157 : decode cX7_item 157 = .ok (.getfield 71, 3) := by decide +kernel
theorem dX7_item_160 : decode cX7_item 160 = .ok (.iload_n 1, 1) := by decide +kernel
theorem dX7_item_161 : decode cX7_item 161 = .ok (.iaload, 1) := by decide +kernel
theorem dX7_item_162 : decode cX7_item 162 = .ok (.iastore, 1) := by decide +kernel
theorem dX7_item_163 : decode cX7_item 163 = .ok (.dup, 1) := by decide +kernel
theorem dX7_item_164 : decode cX7_item 164 = .ok (.bipush 10, 2) := by decide +kernel
theorem dX7_item_166 : decode cX7_item 166 = .ok (.aload_n 0, 1) := by decide +kernel
theorem dX7_item_167 : decode cX7_item 167 = .ok (.getfield 74, 3) := by decide +kernel
theorem dX7_item_170 : decode cX7_item 170 = .ok (.iload_n 1, 1) := by decide +kernel
theorem dX7_item_171 : decode cX7_item 171 = .ok (.iaload, 1) := by decide +kernel
theorem dX7_item_172 : decode cX7_item 172 = .ok (.iastore, 1) := by decide +kernel
theorem dX7_item_173 : decode cX7_item 173 = .ok (.astore_n 3, 1) := by decide +kernel
theorem dX7_item_174 : decode cX7_item 174 = .ok (.aload_n 3, 1) := by decide +kernel
theorem dX7_item_175 : decode cX7_item 175 = .ok (.iload_n 2, 1) := by decide +kernel
theorem dX7_item_176 : decode cX7_item 176 = .ok (.iaload, 1) := by decide +kernel
theorem dX7_item_177 : decode cX7_item 177 = .ok (.ireturn, 1) := by decide +kernel
theorem dX7_loose_0 : decode cX7_loose 0 = .ok (.iconst 0, 1) := by decide +kernel
theorem dX7_loose_1 : decode cX7_loose 1 = .ok (.istore_n 1, 1) := by decide +kernel
theorem dX7_loose_2 : decode cX7_loose 2 = .ok (.iconst 0, 1) := by decide +kernel
theorem dX7_loose_3 : decode cX7_loose 3 = .ok (.istore_n 2, 1) := by decide +kernel
theorem dX7_loose_4 : decode cX7_loose 4 = .ok (.iload_n 2, 1) := by decide +kernel
theorem dX7_loose_5 : decode cX7_loose 5 = .ok (.aload_n 0, 1) := by decide +kernel
theorem dX7_loose_6 : decode cX7_loose 6 = .ok (.getfield 35, 3) := by decide +kernel
theorem dX7_loose_9 : decode cX7_loose 9 = .ok (.iconst 0, 1) := by decide +kernel
theorem dX7_loose_10 : decode cX7_loose 10 = .ok (.iaload, 1) := by decide +kernel
theorem dX7_loose_11 : decode cX7_loose 11 = .ok (.if_icmp .ge 56, 3) := by decide +kernel
theorem dX7_loose_14 : decode cX7_loose 14 = .ok (.iload_n 1, 1) := by decide +kernel
theorem dX7_loose_15 : decode cX7_loose 15 = .ok (.aload_n 0, 1) := by decide +kernel
theorem dX7_loose_16 : decode cX7_loose 16 = .ok (.getfield 68, 3) := by decide +kernel
theorem dX7_loose_19 : decode cX7_loose 19 = .ok (.iload_n 2, 1) := by decide +kernel
theorem dX7_loose_20 : decode cX7_loose 20 = .ok (.iaload, 1) := by decide +kernel
theorem dX7_loose_21 : decode cX7_loose 21 = .ok (.iconst 1, 1) := by decide +kernel
theorem dX7_loose_22 : decode cX7_loose 22 = .ok (.if_icmp .ne 36, 3) := by decide +kernel
theorem dX7_loose_25 : decode cX7_loose 25 = .ok (.iload_n 2, 1) := by decide +kernel
theorem dX7_loose_26 : decode cX7_loose 26 = .ok (.iconst 1, 1) := by decide +kernel
theorem dX7_loose_27 : decode cX7_loose 27 = .ok (.iadd, 1) := by decide +kernel
theorem dX7_loose_28 : decode cX7_loose 28 = .ok (.aload_n 0, 1) := by decide +kernel
theorem dX7_loose_29 : decode cX7_loose 29 = .ok (.getfield 35, 3) := by decide +kernel
theorem dX7_loose_32 : decode cX7_loose 32 = .ok (.iconst 0, 1) := by decide +kernel
theorem dX7_loose_33 : decode cX7_loose 33 = .ok (.iaload, 1) := by decide +kernel
theorem dX7_loose_34 : decode cX7_loose 34 = .ok (.if_icmp .eq 20, 3) := by decide +kernel
theorem dX7_loose_37 : decode cX7_loose 37 = .ok (.aload_n 0, 1) := by decide +kernel
theorem dX7_loose_38 : decode cX7_loose 38 = .ok (.getfield 53, 3) := by decide +kernel
theorem dX7_loose_41 : decode cX7_loose 41 = .ok (.iload_n 2, 1) := by decide +kernel
theorem dX7_loose_42 : decode cX7_loose 42 = .ok (.iconst 1, 1) := by decide +kernel
theorem dX7_loose_43 : decode cX7_loose 43 = .ok (.iadd, 1) := by decide +kernel
theorem dX7_loose_44 : decode cX7_loose 44 = .ok (.iaload, 1) := by decide +kernel
theorem dX7_loose_45 : decode cX7_loose 45 = .ok (.aload_n 0, 1) := by decide +kernel
theorem dX7_loose_46 : decode cX7_loose 46 = .ok (.getfield 53, 3) := by decide +kernel
theorem dX7_loose_49 : decode cX7_loose 49 = .ok (.iload_n 2, 1) := by decide +kernel
theorem dX7_loose_50 : decode cX7_loose 50 = .ok (.iaload, 1) := by decide +kernel
theorem dX7_loose_51 : decode cX7_loose 51 = .ok (.if_icmp .eq 7, 3) := by decide +kernel
theorem dX7_loose_54 : decode cX7_loose 54 = .ok (.iconst 1, 1) := by decide +kernel
theorem dX7_loose_55 : decode cX7_loose 55 = .ok (.goto 4, 3) := by decide +kernel
theorem dX7_loose_58 : decode cX7_loose 58 = .ok (.iconst 0, 1) := by decide +kernel
theorem dX7_loose_59 : decode cX7_loose 59 = .ok (.iadd, 1) := by decide +kernel
theorem dX7_loose_60 : decode cX7_loose 60 = .ok (.istore_n 1, 1) := by decide +kernel
theorem dX7_loose_61 : decode cX7_loose 61 = .ok (.iinc 2 1, 3) := by decide +kernel
theorem dX7_loose_64 : decode cX7_loose 64 = .ok (.goto (-60), 3) := by decide +kernel
theorem dX7_loose_67 : decode cX7_loose 67 = .ok (.iload_n 1, 1) := by decide +kernel
theorem dX7_loose_68 : decode cX7_loose 68 = .ok (.ireturn, 1) := by decide +kernel
theorem dX7_told_0 : decode cX7_told 0 = .ok (.iload_n 1, 1) := by decide +kernel
theorem dX7_told_1 : decode cX7_told 1 = .ok (.ifCond .lt 8, 3) := by decide +kernel
theorem dX7_told_4 : decode cX7_told 4 = .ok (.iload_n 1, 1) := by decide +kernel
theorem dX7_told_5 : decode cX7_told 5 = .ok (.iconst 5, 1) := by decide +kernel
theorem dX7_told_6 : decode cX7_told 6 = .ok (.if_icmp .le 6, 3) := by decide +kernel
theorem dX7_told_9 : decode cX7_told 9 = .ok (.bipush (-2), 2) := by decide +kernel
theorem dX7_told_11 : decode cX7_told 11 = .ok (.ireturn, 1) := by decide +kernel
theorem dX7_told_12 : decode cX7_told 12 = .ok (.aload_n 0, 1) := by decide +kernel
theorem dX7_told_13 : decode cX7_told 13 = .ok (.getfield 32, 3) := by decide +kernel
theorem dX7_told_16 : decode cX7_told 16 = .ok (.iconst 0, 1) := by decide +kernel
theorem dX7_told_17 : decode cX7_told 17 = .ok (.iaload, 1) := by decide +kernel
theorem dX7_told_18 : decode cX7_told 18 = .ok (.iconst 1, 1) := by decide +kernel
theorem dX7_told_19 : decode cX7_told 19 = .ok (.isub, 1) := by decide +kernel
theorem dX7_told_20 : decode cX7_told 20 = .ok (.istore_n 2, 1) := by decide +kernel
theorem dX7_told_21 : decode cX7_told 21 = .ok (.iload_n 2, 1) := by decide +kernel
theorem dX7_told_22 : decode cX7_told 22 = .ok (.ifCond .lt 13, 3) := by decide +kernel
theorem dX7_told_25 : decode cX7_told 25 = .ok (.aload_n 0, 1) := by decide +kernel
theorem dX7_told_26 : decode cX7_told 26 = .ok (.getfield 41, 3) := by decide +kernel
theorem dX7_told_29 : decode cX7_told 29 = .ok (.iload_n 2, 1) := by decide +kernel
theorem dX7_told_30 : decode cX7_told 30 = .ok (.iaload, 1) := by decide +kernel
theorem dX7_told_31 : decode cX7_told 31 = .ok (.iconst 1, 1) := by decide +kernel
theorem dX7_told_32 : decode cX7_told 32 = .ok (.if_icmp .ne 7, 3) := by decide +kernel
theorem dX7_told_35 : decode cX7_told 35 = .ok (.iconst 0, 1) := by decide +kernel
theorem dX7_told_36 : decode cX7_told 36 = .ok (.goto 17, 3) := by decide +kernel
theorem dX7_told_39 : decode cX7_told 39 = .ok (.aload_n 0, 1) := by decide +kernel
theorem dX7_told_40 : decode cX7_told 40 = .ok (.iconst 0, 1) := by decide +kernel
theorem dX7_told_41 : decode cX7_told 41 = .ok (.iload_n 2, 1) := by decide +kernel
theorem dX7_told_42 : decode cX7_told 42 = .ok (.aload_n 0, 1) := by decide +kernel
theorem dX7_told_43 : decode cX7_told 43 = .ok (.getfield 44, 3) := by decide +kernel
theorem dX7_told_46 : decode cX7_told 46 = .ok (.iload_n 2, 1) := by decide +kernel
theorem dX7_told_47 : decode cX7_told 47 = .ok (.iaload, 1) := by decide +kernel
theorem dX7_told_48 : decode cX7_told 48 = .ok (.iconst 1, 1) := by decide +kernel
theorem dX7_told_49 : decode cX7_told 49 = .ok (.isub, 1) := by decide +kernel
theorem dX7_told_50 : decode cX7_told 50 = .ok (.invokevirtual 208, 3) := by decide +kernel
theorem dX7_told_53 : decode cX7_told 53 = .ok (.istore_n 3, 1) := by decide +kernel
theorem dX7_told_54 : decode cX7_told 54 = .ok (.iload_n 1, 1) := by decide +kernel
theorem dX7_told_55 : decode cX7_told 55 = .ok (.ifCond .ne 12, 3) := by decide +kernel
theorem dX7_told_58 : decode cX7_told 58 = .ok (.aload_n 0, 1) := by decide +kernel
theorem dX7_told_59 : decode cX7_told 59 = .ok (.getfield 32, 3) := by decide +kernel
theorem dX7_told_62 : decode cX7_told 62 = .ok (.iconst 0, 1) := by decide +kernel
theorem dX7_told_63 : decode cX7_told 63 = .ok (.iaload, 1) := by decide +kernel
theorem dX7_told_64 : decode cX7_told 64 = .ok (.goto 56, 3) := by decide +kernel
theorem dX7_told_67 : decode cX7_told 67 = .ok (.iload_n 1, 1) := by decide +kernel
theorem dX7_told_68 : decode cX7_told 68 = .ok (.iconst 1, 1) := by decide +kernel
theorem dX7_told_69 : decode cX7_told 69 = .ok (.if_icmp .ne 12, 3) := by decide +kernel
theorem dX7_told_72 : decode cX7_told 72 = .ok (.aload_n 0, 1) := by decide +kernel
theorem dX7_told_73 : decode cX7_told 73 = .ok (.getfield 35, 3) := by decide +kernel
theorem dX7_told_76 : decode cX7_told 76 = .ok (.iconst 0, 1) := by decide +kernel
theorem dX7_told_77 : decode cX7_told 77 = .ok (.iaload, 1) := by decide +kernel
theorem dX7_told_78 : decode cX7_told 78 = .ok (.goto 42, 3) := by decide +kernel
theorem dX7_told_81 : decode cX7_told 81 = .ok (.iload_n 1, 1) := by decide +kernel
theorem dX7_told_82 : decode cX7_told 82 = .ok (.iconst 2, 1) := by decide +kernel
theorem dX7_told_83 : decode cX7_told 83 = .ok (.if_icmp .ne 10, 3) := by decide +kernel
theorem dX7_told_86 : decode cX7_told 86 = .ok (.aload_n 0, 1) := by decide +kernel
theorem dX7_told_87 : decode cX7_told 87 = .ok (.getfield 28, 3) := by decide +kernel
theorem dX7_told_90 : decode cX7_told 90 = .ok (.goto 30, 3) := by decide +kernel
theorem dX7_told_93 : decode cX7_told 93 = .ok (.iload_n 1, 1) := by decide +kernel
theorem dX7_told_94 : decode cX7_told 94 = .ok (.iconst 3, 1) := by decide +kernel
theorem dX7_told_95 : decode cX7_told 95 = .ok (.if_icmp .ne 10, 3) := by decide +kernel
theorem dX7_told_98 : decode cX7_told 98 = .ok (.aload_n 0, 1) := by decide +kernel
theorem dX7_told_99 : decode cX7_told 99 = .ok (.getfield 108, 3) := by decide +kernel
theorem dX7_told_102 : decode cX7_told 102 = .ok (.goto 18, 3) := by decide +kernel
theorem dX7_told_105 : decode cX7_told 105 = .ok (.iload_n 1, 1) := by decide +kernel
theorem dX7_told_106 : decode cX7_told 106 = .ok (.iconst 4, 1) := by decide +kernel
theorem dX7_told_107 : decode cX7_told 107 = .ok (.if_icmp .ne 12, 3) := by decide +kernel
theorem dX7_told_110 : decode cX7_told 110 = .ok (.aload_n 0, 1) := by decide +kernel
theorem dX7_told_111 : decode cX7_told 111 = .ok (.getfield 38, 3) := by decide +kernel
theorem dX7_told_114 : decode cX7_told 114 = .ok (.iconst 0, 1) := by decide +kernel
theorem dX7_told_115 : decode cX7_told 115 = .ok (.iaload, 1) := by decide +kernel
theorem dX7_told_116 : decode cX7_told 116 = .ok (.goto 4, 3) := by decide +kernel
theorem dX7_told_119 : decode cX7_told 119 = .ok (.iload_n 3, 1) := by decide +kernel
theorem dX7_told_120 : decode cX7_told 120 = .ok (.ireturn, 1) := by decide +kernel
