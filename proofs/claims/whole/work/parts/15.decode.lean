theorem dX7_noteOf_55 : decode cX7_noteOf 55 = .ok (.iinc 3 1, 3) := by decide +kernel
theorem dX7_noteOf_58 : decode cX7_noteOf 58 = .ok (.goto (-54), 3) := by decide +kernel
theorem dX7_noteOf_61 : decode cX7_noteOf 61 = .ok (.iload_n 2, 1) := by decide +kernel
theorem dX7_noteOf_62 : decode cX7_noteOf 62 = .ok (.ireturn, 1) := by decide +kernel
theorem dX7_signOf_0 : decode cX7_signOf 0 = .ok (.iload_n 0, 1) := by decide +kernel
theorem dX7_signOf_1 : decode cX7_signOf 1 = .ok (.bipush 41, 2) := by decide +kernel
theorem dX7_signOf_3 : decode cX7_signOf 3 = .ok (.if_icmp .ne 7, 3) := by decide +kernel
theorem dX7_signOf_6 : decode cX7_signOf 6 = .ok (.iconst 1, 1) := by decide +kernel
theorem dX7_signOf_7 : decode cX7_signOf 7 = .ok (.goto 24, 3) := by decide +kernel
theorem dX7_signOf_10 : decode cX7_signOf 10 = .ok (.iload_n 0, 1) := by decide +kernel
theorem dX7_signOf_11 : decode cX7_signOf 11 = .ok (.bipush 35, 2) := by decide +kernel
theorem dX7_signOf_13 : decode cX7_signOf 13 = .ok (.if_icmp .ne 7, 3) := by decide +kernel
theorem dX7_signOf_16 : decode cX7_signOf 16 = .ok (.iconst 2, 1) := by decide +kernel
theorem dX7_signOf_17 : decode cX7_signOf 17 = .ok (.goto 14, 3) := by decide +kernel
theorem dX7_signOf_20 : decode cX7_signOf 20 = .ok (.iload_n 0, 1) := by decide +kernel
theorem dX7_signOf_21 : decode cX7_signOf 21 = .ok (.bipush 33, 2) := by decide +kernel
theorem dX7_signOf_23 : decode cX7_signOf 23 = .ok (.if_icmp .ne 7, 3) := by decide +kernel
theorem dX7_signOf_26 : decode cX7_signOf 26 = .ok (.iconst 3, 1) := by decide +kernel
theorem dX7_signOf_27 : decode cX7_signOf 27 = .ok (.goto 4, 3) := by decide +kernel
theorem dX7_signOf_30 : decode cX7_signOf 30 = .ok (.iconst 0, 1) := by decide +kernel
theorem dX7_signOf_31 : decode cX7_signOf 31 = .ok (.ireturn, 1) := by decide +kernel
theorem dX7_isNote_0 : decode cX7_isNote 0 = .ok (.aload_n 0, 1) := by decide +kernel
theorem dX7_isNote_1 : decode cX7_isNote 1 = .ok (.iload_n 1, 1) := by decide +kernel
theorem dX7_isNote_2 : decode cX7_isNote 2 = .ok (.invokevirtual 123, 3) := by decide +kernel
theorem dX7_isNote_5 : decode cX7_isNote 5 = .ok (.ifCond .lt 7, 3) := by decide +kernel
theorem dX7_isNote_8 : decode cX7_isNote 8 = .ok (.iconst 1, 1) := by decide +kernel
theorem dX7_isNote_9 : decode cX7_isNote 9 = .ok (.goto 4, 3) := by decide +kernel
theorem dX7_isNote_12 : decode cX7_isNote 12 = .ok (.iconst 0, 1) := by decide +kernel
theorem dX7_isNote_13 : decode cX7_isNote 13 = .ok (.ireturn, 1) := by decide +kernel
theorem dX7_isOctave_0 : decode cX7_isOctave 0 = .ok (.aload_n 0, 1) := by decide +kernel
theorem dX7_isOctave_1 : decode cX7_isOctave 1 = .ok (.getfield 19, 3) := by decide +kernel
theorem dX7_isOctave_4 : decode cX7_isOctave 4 = .ok (.iload_n 1, 1) := by decide +kernel
theorem dX7_isOctave_5 : decode cX7_isOctave 5 = .ok (.invokestatic 126, 3) := by decide +kernel
theorem dX7_isOctave_8 : decode cX7_isOctave 8 = .ok (.ifCond .lt 7, 3) := by decide +kernel
theorem dX7_isOctave_11 : decode cX7_isOctave 11 = .ok (.iconst 1, 1) := by decide +kernel
theorem dX7_isOctave_12 : decode cX7_isOctave 12 = .ok (.goto 4, 3) := by decide +kernel
theorem dX7_isOctave_15 : decode cX7_isOctave 15 = .ok (.iconst 0, 1) := by decide +kernel
theorem dX7_isOctave_16 : decode cX7_isOctave 16 = .ok (.ireturn, 1) := by decide +kernel
theorem dX7_wantsSign_0 : decode cX7_wantsSign 0 = .ok (.iload_n 0, 1) := by decide +kernel
theorem dX7_wantsSign_1 : decode cX7_wantsSign 1 = .ok (.iload_n 1, 1) := by decide +kernel
theorem dX7_wantsSign_2 : decode cX7_wantsSign 2 = .ok (.if_icmp .le 9, 3) := by decide +kernel
theorem dX7_wantsSign_5 : decode cX7_wantsSign 5 = .ok (.iload_n 0, 1) := by decide +kernel
theorem dX7_wantsSign_6 : decode cX7_wantsSign 6 = .ok (.iload_n 1, 1) := by decide +kernel
theorem dX7_wantsSign_7 : decode cX7_wantsSign 7 = .ok (.isub, 1) := by decide +kernel
theorem dX7_wantsSign_8 : decode cX7_wantsSign 8 = .ok (.goto 6, 3) := by decide +kernel
theorem dX7_wantsSign_11 : decode cX7_wantsSign 11 = .ok (.iload_n 1, 1) := by decide +kernel
theorem dX7_wantsSign_12 : decode cX7_wantsSign 12 = .ok (.iload_n 0, 1) := by decide +kernel
theorem dX7_wantsSign_13 : decode cX7_wantsSign 13 = .ok (.isub, 1) := by decide +kernel
theorem dX7_wantsSign_14 : decode cX7_wantsSign 14 = .ok (.istore_n 2, 1) := by decide +kernel
theorem dX7_wantsSign_15 : decode cX7_wantsSign 15 = .ok (.iload_n 2, 1) := by decide +kernel
theorem dX7_wantsSign_16 : decode cX7_wantsSign 16 = .ok (.iconst 4, 1) := by decide +kernel
theorem dX7_wantsSign_17 : decode cX7_wantsSign 17 = .ok (.if_icmp .gt 19, 3) := by decide +kernel
theorem dX7_wantsSign_20 : decode cX7_wantsSign 20 = .ok (.iload_n 2, 1) := by decide +kernel
theorem dX7_wantsSign_21 : decode cX7_wantsSign 21 = .ok (.iconst 2, 1) := by decide +kernel
theorem dX7_wantsSign_22 : decode cX7_wantsSign 22 = .ok (.if_icmp .le 18, 3) := by decide +kernel
theorem dX7_wantsSign_25 : decode cX7_wantsSign 25 = .ok (.iload_n 0, 1) := by decide +kernel
theorem dX7_wantsSign_26 : decode cX7_wantsSign 26 = .ok (.bipush 7, 2) := by decide +kernel
theorem dX7_wantsSign_28 : decode cX7_wantsSign 28 = .ok (.idiv, 1) := by decide +kernel
theorem dX7_wantsSign_29 : decode cX7_wantsSign 29 = .ok (.iload_n 1, 1) := by decide +kernel
theorem dX7_wantsSign_30 : decode cX7_wantsSign 30 = .ok (.bipush 7, 2) := by decide +kernel
theorem dX7_wantsSign_32 : decode cX7_wantsSign 32 = .ok (.idiv, 1) := by decide +kernel
theorem dX7_wantsSign_33 : decode cX7_wantsSign 33 = .ok (.if_icmp .eq 7, 3) := by decide +kernel
theorem dX7_wantsSign_36 : decode cX7_wantsSign 36 = .ok (.iconst 1, 1) := by decide +kernel
theorem dX7_wantsSign_37 : decode cX7_wantsSign 37 = .ok (.goto 4, 3) := by decide +kernel
theorem dX7_wantsSign_40 : decode cX7_wantsSign 40 = .ok (.iconst 0, 1) := by decide +kernel
theorem dX7_wantsSign_41 : decode cX7_wantsSign 41 = .ok (.ireturn, 1) := by decide +kernel
theorem dX7_begins_0 : decode cX7_begins 0 = .ok (.aload_n 0, 1) := by decide +kernel
theorem dX7_begins_1 : decode cX7_begins 1 = .ok (.aload_n 0, 1) := by decide +kernel
theorem dX7_begins_2 : decode cX7_begins 2 = .ok (.getfield 130, 3) := by decide +kernel
theorem dX7_begins_5 : decode cX7_begins 5 = .ok (.invokevirtual 133, 3) := by decide +kernel
theorem dX7_begins_8 : decode cX7_begins 8 = .ok (.istore_n 2, 1) := by decide +kernel
theorem dX7_begins_9 : decode cX7_begins 9 = .ok (.aload_n 0, 1) := by decide +kernel
theorem dX7_begins_10 : decode cX7_begins 10 = .ok (.aload_n 0, 1) := by decide +kernel
theorem dX7_begins_11 : decode cX7_begins 11 = .ok (.getfield 130, 3) := by decide +kernel
theorem dX7_begins_14 : decode cX7_begins 14 = .ok (.iconst 1, 1) := by decide +kernel
theorem dX7_begins_15 : decode cX7_begins 15 = .ok (.iadd, 1) := by decide +kernel
theorem dX7_begins_16 : decode cX7_begins 16 = .ok (.invokevirtual 133, 3) := by decide +kernel
theorem dX7_begins_19 : decode cX7_begins 19 = .ok (.istore_n 3, 1) := by decide +kernel
theorem dX7_begins_20 : decode cX7_begins 20 = .ok (.aload_n 0, 1) := by decide +kernel
theorem dX7_begins_21 : decode cX7_begins 21 = .ok (.getfield 16, 3) := by decide +kernel
theorem dX7_begins_24 : decode cX7_begins 24 = .ok (.iload_n 2, 1) := by decide +kernel
theorem dX7_begins_25 : decode cX7_begins 25 = .ok (.invokestatic 126, 3) := by decide +kernel
theorem dX7_begins_28 : decode cX7_begins 28 = .ok (.ifCond .ge 11, 3) := by decide +kernel
theorem dX7_begins_31 : decode cX7_begins 31 = .ok (.aload_n 0, 1) := by decide +kernel
theorem dX7_begins_32 : decode cX7_begins 32 = .ok (.iload_n 2, 1) := by decide +kernel
theorem dX7_begins_33 : decode cX7_begins 33 = .ok (.invokevirtual 136, 3) := by decide +kernel
theorem dX7_begins_36 : decode cX7_begins 36 = .ok (.ifCond .eq 5, 3) := by decide +kernel
theorem dX7_begins_39 : decode cX7_begins 39 = .ok (.iconst 1, 1) := by decide +kernel
theorem dX7_begins_40 : decode cX7_begins 40 = .ok (.ireturn, 1) := by decide +kernel
theorem dX7_begins_41 : decode cX7_begins 41 = .ok (.aload_n 0, 1) := by decide +kernel
theorem dX7_begins_42 : decode cX7_begins 42 = .ok (.iload_n 3, 1) := by decide +kernel
theorem dX7_begins_43 : decode cX7_begins 43 = .ok (.invokevirtual 136, 3) := by decide +kernel
theorem dX7_begins_46 : decode cX7_begins 46 = .ok (.istore 4, 2) := by decide +kernel
theorem dX7_begins_48 : decode cX7_begins 48 = .ok (.iconst 0, 1) := by decide +kernel
theorem dX7_begins_49 : decode cX7_begins 49 = .ok (.istore 5, 2) := by decide +kernel
theorem dX7_begins_51 : decode cX7_begins 51 = .ok (.iload_n 2, 1) := by decide +kernel
theorem dX7_begins_52 : decode cX7_begins 52 = .ok (.invokestatic 140, 3) := by decide +kernel
theorem dX7_begins_55 : decode cX7_begins 55 = .ok (.ifCond .le 31, 3) := by decide +kernel
theorem dX7_begins_58 : decode cX7_begins 58 = .ok (.iload 4, 2) := by decide +kernel
theorem dX7_begins_60 : decode cX7_begins 60 = .ok (.aload_n 0, 1) := by decide +kernel
theorem dX7_begins_61 : decode cX7_begins 61 = .ok (.iload_n 3, 1) := by decide +kernel
theorem dX7_begins_62 : decode cX7_begins 62 = .ok (.invokevirtual 143, 3) := by decide +kernel
theorem dX7_begins_65 : decode cX7_begins 65 = .ok (.ior, 1) := by decide +kernel
theorem dX7_begins_66 : decode cX7_begins 66 = .ok (.istore 4, 2) := by decide +kernel
theorem dX7_begins_68 : decode cX7_begins 68 = .ok (.iload_n 2, 1) := by decide +kernel
theorem dX7_begins_69 : decode cX7_begins 69 = .ok (.bipush 35, 2) := by decide +kernel
theorem dX7_begins_71 : decode cX7_begins 71 = .ok (.if_icmp .ne 79, 3) := by decide +kernel
theorem dX7_begins_74 : decode cX7_begins 74 = .ok (.iload_n 3, 1) := by decide +kernel
theorem dX7_begins_75 : decode cX7_begins 75 = .ok (.bipush 28, 2) := by decide +kernel
theorem dX7_begins_77 : decode cX7_begins 77 = .ok (.if_icmp .ne 73, 3) := by decide +kernel
theorem dX7_begins_80 : decode cX7_begins 80 = .ok (.iload_n 1, 1) := by decide +kernel
theorem dX7_begins_81 : decode cX7_begins 81 = .ok (.ifCond .eq 69, 3) := by decide +kernel
theorem dX7_begins_84 : decode cX7_begins 84 = .ok (.iconst 0, 1) := by decide +kernel
theorem dX7_begins_85 : decode cX7_begins 85 = .ok (.ireturn, 1) := by decide +kernel
theorem dX7_begins_86 : decode cX7_begins 86 = .ok (.aload_n 0, 1) := by decide +kernel
theorem dX7_begins_87 : decode cX7_begins 87 = .ok (.iload_n 2, 1) := by decide +kernel
theorem dX7_begins_88 : decode cX7_begins 88 = .ok (.invokevirtual 143, 3) := by decide +kernel
theorem dX7_begins_91 : decode cX7_begins 91 = .ok (.ifCond .eq 57, 3) := by decide +kernel
theorem dX7_begins_94 : decode cX7_begins 94 = .ok (.iload_n 2, 1) := by decide +kernel
theorem dX7_begins_95 : decode cX7_begins 95 = .ok (.bipush 24, 2) := by decide +kernel
theorem dX7_begins_97 : decode cX7_begins 97 = .ok (.if_icmp .eq 9, 3) := by decide +kernel
theorem dX7_begins_100 : decode cX7_begins 100 = .ok (.iload_n 2, 1) := by decide +kernel
theorem dX7_begins_101 : decode cX7_begins 101 = .ok (.bipush 32, 2) := by decide +kernel
theorem dX7_begins_103 : decode cX7_begins 103 = .ok (.if_icmp .ne 13, 3) := by decide +kernel
theorem dX7_begins_106 : decode cX7_begins 106 = .ok (.iload_n 3, 1) := by decide +kernel
theorem dX7_begins_107 : decode cX7_begins 107 = .ok (.bipush 35, 2) := by decide +kernel
theorem dX7_begins_109 : decode cX7_begins 109 = .ok (.if_icmp .ne 7, 3) := by decide +kernel
theorem dX7_begins_112 : decode cX7_begins 112 = .ok (.iconst 1, 1) := by decide +kernel
theorem dX7_begins_113 : decode cX7_begins 113 = .ok (.goto 4, 3) := by decide +kernel
theorem dX7_begins_116 : decode cX7_begins 116 = .ok (.iconst 0, 1) := by decide +kernel
theorem dX7_begins_117 : decode cX7_begins 117 = .ok (.istore 5, 2) := by decide +kernel
theorem dX7_begins_119 : decode cX7_begins 119 = .ok (.iload 4, 2) := by decide +kernel
theorem dX7_begins_121 : decode cX7_begins 121 = .ok (.iload 5, 2) := by decide +kernel
theorem dX7_begins_123 : decode cX7_begins 123 = .ok (.ifCond .ne 14, 3) := by decide +kernel
theorem dX7_begins_126 : decode cX7_begins 126 = .ok (.iload_n 2, 1) := by decide +kernel
theorem dX7_begins_127 : decode cX7_begins 127 = .ok (.bipush 48, 2) := by decide +kernel
theorem dX7_begins_129 : decode cX7_begins 129 = .ok (.if_icmp .ne 12, 3) := by decide +kernel
theorem dX7_begins_132 : decode cX7_begins 132 = .ok (.iload_n 3, 1) := by decide +kernel
theorem dX7_begins_133 : decode cX7_begins 133 = .ok (.iconst 3, 1) := by decide +kernel
theorem dX7_begins_134 : decode cX7_begins 134 = .ok (.if_icmp .ne 7, 3) := by decide +kernel
theorem dX7_begins_137 : decode cX7_begins 137 = .ok (.iconst 1, 1) := by decide +kernel
theorem dX7_begins_138 : decode cX7_begins 138 = .ok (.goto 4, 3) := by decide +kernel
theorem dX7_begins_141 : decode cX7_begins 141 = .ok (.iconst 0, 1) := by decide +kernel
theorem dX7_begins_142 : decode cX7_begins 142 = .ok (.ior, 1) := by decide +kernel
theorem dX7_begins_143 : decode cX7_begins 143 = .ok (.istore 4, 2) := by decide +kernel
theorem dX7_begins_145 : decode cX7_begins 145 = .ok (.goto 5, 3) := by decide +kernel
theorem dX7_begins_148 : decode cX7_begins 148 = .ok (.iconst 0, 1) := by decide +kernel
theorem dX7_begins_149 : decode cX7_begins 149 = .ok (.ireturn, 1) := by decide +kernel
theorem dX7_begins_150 : decode cX7_begins 150 = .ok (.iload 4, 2) := by decide +kernel
theorem dX7_begins_152 : decode cX7_begins 152 = .ok (.ifCond .ne 16, 3) := by decide +kernel
theorem dX7_begins_155 : decode cX7_begins 155 = .ok (.aload_n 0, 1) := by decide +kernel
theorem dX7_begins_156 : decode cX7_begins 156 = .ok (.aload_n 0, 1) := by decide +kernel
theorem dX7_begins_157 : decode cX7_begins 157 = .ok (.getfield 130, 3) := by decide +kernel
theorem dX7_begins_160 : decode cX7_begins 160 = .ok (.iconst 1, 1) := by decide +kernel
theorem dX7_begins_161 : decode cX7_begins 161 = .ok (.iadd, 1) := by decide +kernel
theorem dX7_begins_162 : decode cX7_begins 162 = .ok (.invokevirtual 146, 3) := by decide +kernel
theorem dX7_begins_165 : decode cX7_begins 165 = .ok (.goto 32, 3) := by decide +kernel
theorem dX7_begins_168 : decode cX7_begins 168 = .ok (.iload 5, 2) := by decide +kernel
theorem dX7_begins_170 : decode cX7_begins 170 = .ok (.ifCond .eq 27, 3) := by decide +kernel
theorem dX7_begins_173 : decode cX7_begins 173 = .ok (.aload_n 0, 1) := by decide +kernel
theorem dX7_begins_174 : decode cX7_begins 174 = .ok (.aload_n 0, 1) := by decide +kernel
theorem dX7_begins_175 : decode cX7_begins 175 = .ok (.getfield 130, 3) := by decide +kernel
theorem dX7_begins_178 : decode cX7_begins 178 = .ok (.iconst 2, 1) := by decide +kernel
theorem dX7_begins_179 : decode cX7_begins 179 = .ok (.iadd, 1) := by decide +kernel
theorem dX7_begins_180 : decode cX7_begins 180 = .ok (.invokevirtual 133, 3) := by decide +kernel
theorem dX7_begins_183 : decode cX7_begins 183 = .ok (.iconst 2, 1) := by decide +kernel
theorem dX7_begins_184 : decode cX7_begins 184 = .ok (.if_icmp .eq 13, 3) := by decide +kernel
theorem dX7_begins_187 : decode cX7_begins 187 = .ok (.aload_n 0, 1) := by decide +kernel
theorem dX7_begins_188 : decode cX7_begins 188 = .ok (.aload_n 0, 1) := by decide +kernel
theorem dX7_begins_189 : decode cX7_begins 189 = .ok (.getfield 130, 3) := by decide +kernel
theorem dX7_begins_192 : decode cX7_begins 192 = .ok (.iconst 2, 1) := by decide +kernel
theorem dX7_begins_193 : decode cX7_begins 193 = .ok (.iadd, 1) := by decide +kernel
theorem dX7_begins_194 : decode cX7_begins 194 = .ok (.invokevirtual 146, 3) := by decide +kernel
theorem dX7_begins_197 : decode cX7_begins 197 = .ok (.aload_n 0, 1) := by decide +kernel
theorem dX7_begins_198 : decode cX7_begins 198 = .ok (.getfield 120, 3) := by decide +kernel
theorem dX7_begins_201 : decode cX7_begins 201 = .ok (.ifCond .ge 7, 3) := by decide +kernel
theorem dX7_begins_204 : decode cX7_begins 204 = .ok (.iconst 1, 1) := by decide +kernel
theorem dX7_begins_205 : decode cX7_begins 205 = .ok (.goto 4, 3) := by decide +kernel
theorem dX7_begins_208 : decode cX7_begins 208 = .ok (.iconst (-1), 1) := by decide +kernel
theorem dX7_begins_209 : decode cX7_begins 209 = .ok (.ireturn, 1) := by decide +kernel
theorem dX7_ahead_0 : decode cX7_ahead 0 = .ok (.aload_n 0, 1) := by decide +kernel
theorem dX7_ahead_1 : decode cX7_ahead 1 = .ok (.aload_n 0, 1) := by decide +kernel
theorem dX7_ahead_2 : decode cX7_ahead 2 = .ok (.getfield 130, 3) := by decide +kernel
theorem dX7_ahead_5 : decode cX7_ahead 5 = .ok (.invokevirtual 133, 3) := by decide +kernel
theorem dX7_ahead_8 : decode cX7_ahead 8 = .ok (.istore_n 1, 1) := by decide +kernel
theorem dX7_ahead_9 : decode cX7_ahead 9 = .ok (.iload_n 1, 1) := by decide +kernel
theorem dX7_ahead_10 : decode cX7_ahead 10 = .ok (.bipush 24, 2) := by decide +kernel
theorem dX7_ahead_12 : decode cX7_ahead 12 = .ok (.if_icmp .eq 9, 3) := by decide +kernel
theorem dX7_ahead_15 : decode cX7_ahead 15 = .ok (.iload_n 1, 1) := by decide +kernel
theorem dX7_ahead_16 : decode cX7_ahead 16 = .ok (.bipush 32, 2) := by decide +kernel
theorem dX7_ahead_18 : decode cX7_ahead 18 = .ok (.if_icmp .ne 43, 3) := by decide +kernel
theorem dX7_ahead_21 : decode cX7_ahead 21 = .ok (.aload_n 0, 1) := by decide +kernel
theorem dX7_ahead_22 : decode cX7_ahead 22 = .ok (.aload_n 0, 1) := by decide +kernel
theorem dX7_ahead_23 : decode cX7_ahead 23 = .ok (.getfield 130, 3) := by decide +kernel
theorem dX7_ahead_26 : decode cX7_ahead 26 = .ok (.iconst 1, 1) := by decide +kernel
theorem dX7_ahead_27 : decode cX7_ahead 27 = .ok (.iadd, 1) := by decide +kernel
theorem dX7_ahead_28 : decode cX7_ahead 28 = .ok (.invokevirtual 133, 3) := by decide +kernel
theorem dX7_ahead_31 : decode cX7_ahead 31 = .ok (.bipush 35, 2) := by decide +kernel
theorem dX7_ahead_33 : decode cX7_ahead 33 = .ok (.if_icmp .ne 28, 3) := by decide +kernel
theorem dX7_ahead_36 : decode cX7_ahead 36 = .ok (.aload_n 0, 1) := by decide +kernel
theorem dX7_ahead_37 : decode cX7_ahead 37 = .ok (.iload_n 1, 1) := by decide +kernel
theorem dX7_ahead_38 : decode cX7_ahead 38 = .ok (.bipush 24, 2) := by decide +kernel
theorem dX7_ahead_40 : decode cX7_ahead 40 = .ok (.if_icmp .ne 7, 3) := by decide +kernel
theorem dX7_ahead_43 : decode cX7_ahead 43 = .ok (.iconst 0, 1) := by decide +kernel
theorem dX7_ahead_44 : decode cX7_ahead 44 = .ok (.goto 4, 3) := by decide +kernel
theorem dX7_ahead_47 : decode cX7_ahead 47 = .ok (.iconst 1, 1) := by decide +kernel
theorem dX7_ahead_48 : decode cX7_ahead 48 = .ok (.putfield 150, 3) := by decide +kernel
theorem dX7_ahead_51 : decode cX7_ahead 51 = .ok (.aload_n 0, 1) := by decide +kernel
theorem dX7_ahead_52 : decode cX7_ahead 52 = .ok (.dup, 1) := by decide +kernel
theorem dX7_ahead_53 : decode cX7_ahead 53 = .ok (.getfield 130, 3) := by decide +kernel
theorem dX7_ahead_56 : decode cX7_ahead 56 = .ok (.iconst 3, 1) := by decide +kernel
theorem dX7_ahead_57 : decode cX7_ahead 57 = .ok (.iadd, 1) := by decide +kernel
theorem dX7_ahead_58 : decode cX7_ahead 58 = .ok (.putfield 130, 3) := by decide +kernel
theorem dX7_ahead_61 : decode cX7_ahead 61 = .ok (.aload_n 0, 1) := by decide +kernel
theorem dX7_ahead_62 : decode cX7_ahead 62 = .ok (.aload_n 0, 1) := by decide +kernel
theorem dX7_ahead_63 : decode cX7_ahead 63 = .ok (.getfield 130, 3) := by decide +kernel
theorem dX7_ahead_66 : decode cX7_ahead 66 = .ok (.invokevirtual 133, 3) := by decide +kernel
theorem dX7_ahead_69 : decode cX7_ahead 69 = .ok (.bipush 48, 2) := by decide +kernel
theorem dX7_ahead_71 : decode cX7_ahead 71 = .ok (.if_icmp .ne 49, 3) := by decide +kernel
theorem dX7_ahead_74 : decode cX7_ahead 74 = .ok (.aload_n 0, 1) := by decide +kernel
theorem dX7_ahead_75 : decode cX7_ahead 75 = .ok (.aload_n 0, 1) := by decide +kernel
theorem dX7_ahead_76 : decode cX7_ahead 76 = .ok (.getfield 130, 3) := by decide +kernel
theorem dX7_ahead_79 : decode cX7_ahead 79 = .ok (.iconst 1, 1) := by decide +kernel
theorem dX7_ahead_80 : decode cX7_ahead 80 = .ok (.iadd, 1) := by decide +kernel
theorem dX7_ahead_81 : decode cX7_ahead 81 = .ok (.invokevirtual 133, 3) := by decide +kernel
theorem dX7_ahead_84 : decode cX7_ahead 84 = .ok (.iconst 3, 1) := by decide +kernel
theorem dX7_ahead_85 : decode cX7_ahead 85 = .ok (.if_icmp .ne 35, 3) := by decide +kernel
theorem dX7_ahead_88 : decode cX7_ahead 88 = .ok (.aload_n 0, 1) := by decide +kernel
theorem dX7_ahead_89 : decode cX7_ahead 89 = .ok (.getfield 153, 3) := by decide +kernel
theorem dX7_ahead_92 : decode cX7_ahead 92 = .ok (.ifCond .eq 13, 3) := by decide +kernel
theorem dX7_ahead_95 : decode cX7_ahead 95 = .ok (.aload_n 0, 1) := by decide +kernel
theorem dX7_ahead_96 : decode cX7_ahead 96 = .ok (.aload_n 0, 1) := by decide +kernel
theorem dX7_ahead_97 : decode cX7_ahead 97 = .ok (.getfield 130, 3) := by decide +kernel
theorem dX7_ahead_100 : decode cX7_ahead 100 = .ok (.iconst 1, 1) := by decide +kernel
theorem dX7_ahead_101 : decode cX7_ahead 101 = .ok (.iadd, 1) := by decide +kernel
theorem dX7_ahead_102 : decode cX7_ahead 102 = .ok (.invokevirtual 146, 3) := by decide +kernel
theorem dX7_ahead_105 : decode cX7_ahead 105 = .ok (.aload_n 0, 1) := by decide +kernel
theorem dX7_ahead_106 : decode cX7_ahead 106 = .ok (.iconst 1, 1) := by decide +kernel
theorem dX7_ahead_107 : decode cX7_ahead 107 = .ok (.putfield 153, 3) := by decide +kernel
theorem dX7_ahead_110 : decode cX7_ahead 110 = .ok (.aload_n 0, 1) := by decide +kernel
theorem dX7_ahead_111 : decode cX7_ahead 111 = .ok (.dup, 1) := by decide +kernel
theorem dX7_ahead_112 : decode cX7_ahead 112 = .ok (.getfield 130, 3) := by decide +kernel
theorem dX7_ahead_115 : decode cX7_ahead 115 = .ok (.iconst 2, 1) := by decide +kernel
theorem dX7_ahead_116 : decode cX7_ahead 116 = .ok (.iadd, 1) := by decide +kernel
theorem dX7_ahead_117 : decode cX7_ahead 117 = .ok (.putfield 130, 3) := by decide +kernel
theorem dX7_ahead_120 : decode cX7_ahead 120 = .ok (.return_, 1) := by decide +kernel
theorem dX7_readNote_0 : decode cX7_readNote 0 = .ok (.aload_n 0, 1) := by decide +kernel
theorem dX7_readNote_1 : decode cX7_readNote 1 = .ok (.getfield 56, 3) := by decide +kernel
theorem dX7_readNote_4 : decode cX7_readNote 4 = .ok (.iload_n 1, 1) := by decide +kernel
theorem dX7_readNote_5 : decode cX7_readNote 5 = .ok (.aload_n 0, 1) := by decide +kernel
theorem dX7_readNote_6 : decode cX7_readNote 6 = .ok (.aload_n 0, 1) := by decide +kernel
theorem dX7_readNote_7 : decode cX7_readNote 7 = .ok (.getfield 130, 3) := by decide +kernel
theorem dX7_readNote_10 : decode cX7_readNote 10 = .ok (.invokevirtual 133, 3) := by decide +kernel
theorem dX7_readNote_13 : decode cX7_readNote 13 = .ok (.invokestatic 140, 3) := by decide +kernel
theorem dX7_readNote_16 : decode cX7_readNote 16 = .ok (.iastore, 1) := by decide +kernel
theorem dX7_readNote_17 : decode cX7_readNote 17 = .ok (.aload_n 0, 1) := by decide +kernel
theorem dX7_readNote_18 : decode cX7_readNote 18 = .ok (.dup, 1) := by decide +kernel
theorem dX7_readNote_19 : decode cX7_readNote 19 = .ok (.getfield 130, 3) := by decide +kernel
theorem dX7_readNote_22 : decode cX7_readNote 22 = .ok (.aload_n 0, 1) := by decide +kernel
theorem dX7_readNote_23 : decode cX7_readNote 23 = .ok (.getfield 56, 3) := by decide +kernel
theorem dX7_readNote_26 : decode cX7_readNote 26 = .ok (.iload_n 1, 1) := by decide +kernel
theorem dX7_readNote_27 : decode cX7_readNote 27 = .ok (.iaload, 1) := by decide +kernel
theorem dX7_readNote_28 : decode cX7_readNote 28 = .ok (.ifCond .le 7, 3) := by decide +kernel
theorem dX7_readNote_31 : decode cX7_readNote 31 = .ok (.iconst 1, 1) := by decide +kernel
theorem dX7_readNote_32 : decode cX7_readNote 32 = .ok (.goto 4, 3) := by decide +kernel
theorem dX7_readNote_35 : decode cX7_readNote 35 = .ok (.iconst 0, 1) := by decide +kernel
theorem dX7_readNote_36 : decode cX7_readNote 36 = .ok (.iadd, 1) := by decide +kernel
theorem dX7_readNote_37 : decode cX7_readNote 37 = .ok (.putfield 130, 3) := by decide +kernel
theorem dX7_readNote_40 : decode cX7_readNote 40 = .ok (.aload_n 0, 1) := by decide +kernel
theorem dX7_readNote_41 : decode cX7_readNote 41 = .ok (.getfield 19, 3) := by decide +kernel
theorem dX7_readNote_44 : decode cX7_readNote 44 = .ok (.aload_n 0, 1) := by decide +kernel
theorem dX7_readNote_45 : decode cX7_readNote 45 = .ok (.aload_n 0, 1) := by decide +kernel
theorem dX7_readNote_46 : decode cX7_readNote 46 = .ok (.getfield 130, 3) := by decide +kernel
theorem dX7_readNote_49 : decode cX7_readNote 49 = .ok (.invokevirtual 133, 3) := by decide +kernel
theorem dX7_readNote_52 : decode cX7_readNote 52 = .ok (.invokestatic 126, 3) := by decide +kernel
theorem dX7_readNote_55 : decode cX7_readNote 55 = .ok (.istore_n 2, 1) := by decide +kernel
theorem dX7_readNote_56 : decode cX7_readNote 56 = .ok (.aload_n 0, 1) := by decide +kernel
theorem dX7_readNote_57 : decode cX7_readNote 57 = .ok (.dup, 1) := by decide +kernel
theorem dX7_readNote_58 : decode cX7_readNote 58 = .ok (.getfield 130, 3) := by decide +kernel
theorem dX7_readNote_61 : decode cX7_readNote 61 = .ok (.iload_n 2, 1) := by decide +kernel
theorem dX7_readNote_62 : decode cX7_readNote 62 = .ok (.ifCond .lt 7, 3) := by decide +kernel
theorem dX7_readNote_65 : decode cX7_readNote 65 = .ok (.iconst 1, 1) := by decide +kernel
theorem dX7_readNote_66 : decode cX7_readNote 66 = .ok (.goto 4, 3) := by decide +kernel
theorem dX7_readNote_69 : decode cX7_readNote 69 = .ok (.iconst 0, 1) := by decide +kernel
theorem dX7_readNote_70 : decode cX7_readNote 70 = .ok (.iadd, 1) := by decide +kernel
theorem dX7_readNote_71 : decode cX7_readNote 71 = .ok (.putfield 130, 3) := by decide +kernel
theorem dX7_readNote_74 : decode cX7_readNote 74 = .ok (.aload_n 0, 1) := by decide +kernel
theorem dX7_readNote_75 : decode cX7_readNote 75 = .ok (.aload_n 0, 1) := by decide +kernel
theorem dX7_readNote_76 : decode cX7_readNote 76 = .ok (.aload_n 0, 1) := by decide +kernel
theorem dX7_readNote_77 : decode cX7_readNote 77 = .ok (.getfield 130, 3) := by decide +kernel
theorem dX7_readNote_80 : decode cX7_readNote 80 = .ok (.invokevirtual 133, 3) := by decide +kernel
theorem dX7_readNote_83 : decode cX7_readNote 83 = .ok (.invokevirtual 123, 3) := by decide +kernel
theorem dX7_readNote_86 : decode cX7_readNote 86 = .ok (.istore_n 3, 1) := by decide +kernel
theorem dX7_readNote_87 : decode cX7_readNote 87 = .ok (.iload_n 3, 1) := by decide +kernel
theorem dX7_readNote_88 : decode cX7_readNote 88 = .ok (.ifCond .ge 12, 3) := by decide +kernel
theorem dX7_readNote_91 : decode cX7_readNote 91 = .ok (.aload_n 0, 1) := by decide +kernel
theorem dX7_readNote_92 : decode cX7_readNote 92 = .ok (.aload_n 0, 1) := by decide +kernel
theorem dX7_readNote_93 : decode cX7_readNote 93 = .ok (.getfield 130, 3) := by decide +kernel
theorem dX7_readNote_96 : decode cX7_readNote 96 = .ok (.invokevirtual 146, 3) := by decide +kernel
theorem dX7_readNote_99 : decode cX7_readNote 99 = .ok (.return_, 1) := by decide +kernel
theorem dX7_readNote_100 : decode cX7_readNote 100 = .ok (.aload_n 0, 1) := by decide +kernel
theorem dX7_readNote_101 : decode cX7_readNote 101 = .ok (.getfield 59, 3) := by decide +kernel
theorem dX7_readNote_104 : decode cX7_readNote 104 = .ok (.iload_n 1, 1) := by decide +kernel
theorem dX7_readNote_105 : decode cX7_readNote 105 = .ok (.iload_n 3, 1) := by decide +kernel
theorem dX7_readNote_106 : decode cX7_readNote 106 = .ok (.bipush 7, 2) := by decide +kernel
theorem dX7_readNote_108 : decode cX7_readNote 108 = .ok (.idiv, 1) := by decide +kernel
theorem dX7_readNote_109 : decode cX7_readNote 109 = .ok (.iastore, 1) := by decide +kernel
theorem dX7_readNote_110 : decode cX7_readNote 110 = .ok (.iload_n 3, 1) := by decide +kernel
theorem dX7_readNote_111 : decode cX7_readNote 111 = .ok (.bipush 7, 2) := by decide +kernel
theorem dX7_readNote_113 : decode cX7_readNote 113 = .ok (.irem, 1) := by decide +kernel
theorem dX7_readNote_114 : decode cX7_readNote 114 = .ok (.istore 4, 2) := by decide +kernel
theorem dX7_readNote_116 : decode cX7_readNote 116 = .ok (.iload_n 2, 1) := by decide +kernel
theorem dX7_readNote_117 : decode cX7_readNote 117 = .ok (.ifCond .lt 21, 3) := by decide +kernel
theorem dX7_readNote_120 : decode cX7_readNote 120 = .ok (.aload_n 0, 1) := by decide +kernel
theorem dX7_readNote_121 : decode cX7_readNote 121 = .ok (.getfield 53, 3) := by decide +kernel
theorem dX7_readNote_124 : decode cX7_readNote 124 = .ok (.iload_n 1, 1) := by decide +kernel
theorem dX7_readNote_125 : decode cX7_readNote 125 = .ok (.bipush 7, 2) := by decide +kernel
theorem dX7_readNote_127 : decode cX7_readNote 127 = .ok (.iload_n 2, 1) := by decide +kernel
theorem dX7_readNote_128 : decode cX7_readNote 128 = .ok (.iconst 1, 1) := by decide +kernel
theorem dX7_readNote_129 : decode cX7_readNote 129 = .ok (.iadd, 1) := by decide +kernel
theorem dX7_readNote_130 : decode cX7_readNote 130 = .ok (.imul, 1) := by decide +kernel
theorem dX7_readNote_131 : decode cX7_readNote 131 = .ok (.iload 4, 2) := by decide +kernel
theorem dX7_readNote_133 : decode cX7_readNote 133 = .ok (.iadd, 1) := by decide +kernel
theorem dX7_readNote_134 : decode cX7_readNote 134 = .ok (.iastore, 1) := by decide +kernel
theorem dX7_readNote_135 : decode cX7_readNote 135 = .ok (.goto 116, 3) := by decide +kernel
theorem dX7_readNote_138 : decode cX7_readNote 138 = .ok (.aload_n 0, 1) := by decide +kernel
theorem dX7_readNote_139 : decode cX7_readNote 139 = .ok (.getfield 157, 3) := by decide +kernel
theorem dX7_readNote_142 : decode cX7_readNote 142 = .ok (.ifCond .eq 14, 3) := by decide +kernel
theorem dX7_readNote_145 : decode cX7_readNote 145 = .ok (.aload_n 0, 1) := by decide +kernel
theorem dX7_readNote_146 : decode cX7_readNote 146 = .ok (.aload_n 0, 1) := by decide +kernel
theorem dX7_readNote_147 : decode cX7_readNote 147 = .ok (.getfield 130, 3) := by decide +kernel
theorem dX7_readNote_150 : decode cX7_readNote 150 = .ok (.invokevirtual 146, 3) := by decide +kernel
theorem dX7_readNote_153 : decode cX7_readNote 153 = .ok (.goto 98, 3) := by decide +kernel
theorem dX7_readNote_156 : decode cX7_readNote 156 = .ok (.iconst (-1), 1) := by decide +kernel
theorem dX7_readNote_157 : decode cX7_readNote 157 = .ok (.istore 5, 2) := by decide +kernel
theorem dX7_readNote_159 : decode cX7_readNote 159 = .ok (.bipush (-4), 2) := by decide +kernel
theorem dX7_readNote_161 : decode cX7_readNote 161 = .ok (.istore 6, 2) := by decide +kernel
theorem dX7_readNote_163 : decode cX7_readNote 163 = .ok (.iload 6, 2) := by decide +kernel
theorem dX7_readNote_165 : decode cX7_readNote 165 = .ok (.iconst 4, 1) := by decide +kernel
theorem dX7_readNote_166 : decode cX7_readNote 166 = .ok (.if_icmp .gt 55, 3) := by decide +kernel
theorem dX7_readNote_169 : decode cX7_readNote 169 = .ok (.aload_n 0, 1) := by decide +kernel
theorem dX7_readNote_170 : decode cX7_readNote 170 = .ok (.getfield 160, 3) := by decide +kernel
theorem dX7_readNote_173 : decode cX7_readNote 173 = .ok (.iload 6, 2) := by decide +kernel
theorem dX7_readNote_175 : decode cX7_readNote 175 = .ok (.iadd, 1) := by decide +kernel
theorem dX7_readNote_176 : decode cX7_readNote 176 = .ok (.bipush 7, 2) := by decide +kernel
theorem dX7_readNote_178 : decode cX7_readNote 178 = .ok (.irem, 1) := by decide +kernel
theorem dX7_readNote_179 : decode cX7_readNote 179 = .ok (.iload 4, 2) := by decide +kernel
theorem dX7_readNote_181 : decode cX7_readNote 181 = .ok (.if_icmp .ne 30, 3) := by decide +kernel
theorem dX7_readNote_184 : decode cX7_readNote 184 = .ok (.aload_n 0, 1) := by decide +kernel
theorem dX7_readNote_185 : decode cX7_readNote 185 = .ok (.getfield 160, 3) := by decide +kernel
theorem dX7_readNote_188 : decode cX7_readNote 188 = .ok (.aload_n 0, 1) := by decide +kernel
theorem dX7_readNote_189 : decode cX7_readNote 189 = .ok (.getfield 160, 3) := by decide +kernel
theorem dX7_readNote_192 : decode cX7_readNote 192 = .ok (.iload 6, 2) := by decide +kernel
theorem dX7_readNote_194 : decode cX7_readNote 194 = .ok (.iadd, 1) := by decide +kernel
theorem dX7_readNote_195 : decode cX7_readNote 195 = .ok (.invokestatic 163, 3) := by decide +kernel
theorem dX7_readNote_198 : decode cX7_readNote 198 = .ok (.ifCond .ne 13, 3) := by decide +kernel
theorem dX7_readNote_201 : decode cX7_readNote 201 = .ok (.aload_n 0, 1) := by decide +kernel
theorem dX7_readNote_202 : decode cX7_readNote 202 = .ok (.getfield 160, 3) := by decide +kernel
theorem dX7_readNote_205 : decode cX7_readNote 205 = .ok (.iload 6, 2) := by decide +kernel
theorem dX7_readNote_207 : decode cX7_readNote 207 = .ok (.iadd, 1) := by decide +kernel
theorem dX7_readNote_208 : decode cX7_readNote 208 = .ok (.goto 5, 3) := by decide +kernel
theorem dX7_readNote_211 : decode cX7_readNote 211 = .ok (.iload 5, 2) := by decide +kernel
theorem dX7_readNote_213 : decode cX7_readNote 213 = .ok (.istore 5, 2) := by decide +kernel
theorem dX7_readNote_215 : decode cX7_readNote 215 = .ok (.iinc 6 1, 3) := by decide +kernel
theorem dX7_readNote_218 : decode cX7_readNote 218 = .ok (.goto (-55), 3) := by decide +kernel
theorem dX7_readNote_221 : decode cX7_readNote 221 = .ok (.aload_n 0, 1) := by decide +kernel
theorem dX7_readNote_222 : decode cX7_readNote 222 = .ok (.getfield 53, 3) := by decide +kernel
theorem dX7_readNote_225 : decode cX7_readNote 225 = .ok (.iload_n 1, 1) := by decide +kernel
theorem dX7_readNote_226 : decode cX7_readNote 226 = .ok (.iload 5, 2) := by decide +kernel
theorem dX7_readNote_228 : decode cX7_readNote 228 = .ok (.iastore, 1) := by decide +kernel
theorem dX7_readNote_229 : decode cX7_readNote 229 = .ok (.iload 5, 2) := by decide +kernel
theorem dX7_readNote_231 : decode cX7_readNote 231 = .ok (.bipush 7, 2) := by decide +kernel
theorem dX7_readNote_233 : decode cX7_readNote 233 = .ok (.if_icmp .lt 10, 3) := by decide +kernel
theorem dX7_readNote_236 : decode cX7_readNote 236 = .ok (.iload 5, 2) := by decide +kernel
theorem dX7_readNote_238 : decode cX7_readNote 238 = .ok (.bipush 55, 2) := by decide +kernel
theorem dX7_readNote_240 : decode cX7_readNote 240 = .ok (.if_icmp .le 11, 3) := by decide +kernel
theorem dX7_readNote_243 : decode cX7_readNote 243 = .ok (.aload_n 0, 1) := by decide +kernel
theorem dX7_readNote_244 : decode cX7_readNote 244 = .ok (.aload_n 0, 1) := by decide +kernel
theorem dX7_readNote_245 : decode cX7_readNote 245 = .ok (.getfield 130, 3) := by decide +kernel
theorem dX7_readNote_248 : decode cX7_readNote 248 = .ok (.invokevirtual 146, 3) := by decide +kernel
theorem dX7_readNote_251 : decode cX7_readNote 251 = .ok (.aload_n 0, 1) := by decide +kernel
theorem dX7_readNote_252 : decode cX7_readNote 252 = .ok (.iconst 0, 1) := by decide +kernel
theorem dX7_readNote_253 : decode cX7_readNote 253 = .ok (.putfield 157, 3) := by decide +kernel
theorem dX7_readNote_256 : decode cX7_readNote 256 = .ok (.aload_n 0, 1) := by decide +kernel
theorem dX7_readNote_257 : decode cX7_readNote 257 = .ok (.aload_n 0, 1) := by decide +kernel
theorem dX7_readNote_258 : decode cX7_readNote 258 = .ok (.getfield 53, 3) := by decide +kernel
theorem dX7_readNote_261 : decode cX7_readNote 261 = .ok (.iload_n 1, 1) := by decide +kernel
theorem dX7_readNote_262 : decode cX7_readNote 262 = .ok (.iaload, 1) := by decide +kernel
theorem dX7_readNote_263 : decode cX7_readNote 263 = .ok (.putfield 160, 3) := by decide +kernel
theorem dX7_readNote_266 : decode cX7_readNote 266 = .ok (.aload_n 0, 1) := by decide +kernel
theorem dX7_readNote_267 : decode cX7_readNote 267 = .ok (.dup, 1) := by decide +kernel
theorem dX7_readNote_268 : decode cX7_readNote 268 = .ok (.getfield 130, 3) := by decide +kernel
theorem dX7_readNote_271 : decode cX7_readNote 271 = .ok (.iconst 1, 1) := by decide +kernel
theorem dX7_readNote_272 : decode cX7_readNote 272 = .ok (.iadd, 1) := by decide +kernel
theorem dX7_readNote_273 : decode cX7_readNote 273 = .ok (.putfield 130, 3) := by decide +kernel
theorem dX7_readNote_276 : decode cX7_readNote 276 = .ok (.return_, 1) := by decide +kernel
theorem dX7_dotted_0 : decode cX7_dotted 0 = .ok (.aload_n 0, 1) := by decide +kernel
theorem dX7_dotted_1 : decode cX7_dotted 1 = .ok (.aload_n 0, 1) := by decide +kernel
theorem dX7_dotted_2 : decode cX7_dotted 2 = .ok (.getfield 130, 3) := by decide +kernel
theorem dX7_dotted_5 : decode cX7_dotted 5 = .ok (.invokevirtual 133, 3) := by decide +kernel
theorem dX7_dotted_8 : decode cX7_dotted 8 = .ok (.iconst 4, 1) := by decide +kernel
theorem dX7_dotted_9 : decode cX7_dotted 9 = .ok (.if_icmp .ne 36, 3) := by decide +kernel
theorem dX7_dotted_12 : decode cX7_dotted 12 = .ok (.aload_n 0, 1) := by decide +kernel
theorem dX7_dotted_13 : decode cX7_dotted 13 = .ok (.getfield 65, 3) := by decide +kernel
theorem dX7_dotted_16 : decode cX7_dotted 16 = .ok (.iload_n 1, 1) := by decide +kernel
theorem dX7_dotted_17 : decode cX7_dotted 17 = .ok (.iaload, 1) := by decide +kernel
theorem dX7_dotted_18 : decode cX7_dotted 18 = .ok (.iconst 2, 1) := by decide +kernel
theorem dX7_dotted_19 : decode cX7_dotted 19 = .ok (.if_icmp .ge 26, 3) := by decide +kernel
theorem dX7_dotted_22 : decode cX7_dotted 22 = .ok (.aload_n 0, 1) := by decide +kernel
theorem dX7_dotted_23 : decode cX7_dotted 23 = .ok (.getfield 65, 3) := by decide +kernel
theorem dX7_dotted_26 : decode cX7_dotted 26 = .ok (.iload_n 1, 1) := by decide +kernel
theorem dX7_dotted_27 : decode cX7_dotted 27 = .ok (.dup2, 1) := by decide +kernel
theorem dX7_dotted_28 : decode cX7_dotted 28 = .ok (.iaload, 1) := by decide +kernel
theorem dX7_dotted_29 : decode cX7_dotted 29 = .ok (.iconst 1, 1) := by decide +kernel
theorem dX7_dotted_30 : decode cX7_dotted 30 = .ok (.iadd, 1) := by decide +kernel
theorem dX7_dotted_31 : decode cX7_dotted 31 = .ok (.iastore, 1) := by decide +kernel
theorem dX7_dotted_32 : decode cX7_dotted 32 = .ok (.aload_n 0, 1) := by decide +kernel
theorem dX7_dotted_33 : decode cX7_dotted 33 = .ok (.dup, 1) := by decide +kernel
theorem dX7_dotted_34 : decode cX7_dotted 34 = .ok (.getfield 130, 3) := by decide +kernel
theorem dX7_dotted_37 : decode cX7_dotted 37 = .ok (.iconst 1, 1) := by decide +kernel
theorem dX7_dotted_38 : decode cX7_dotted 38 = .ok (.iadd, 1) := by decide +kernel
theorem dX7_dotted_39 : decode cX7_dotted 39 = .ok (.putfield 130, 3) := by decide +kernel
theorem dX7_dotted_42 : decode cX7_dotted 42 = .ok (.goto (-42), 3) := by decide +kernel
theorem dX7_dotted_45 : decode cX7_dotted 45 = .ok (.return_, 1) := by decide +kernel
theorem dX7_intervals_0 : decode cX7_intervals 0 = .ok (.iconst 1, 1) := by decide +kernel
theorem dX7_intervals_1 : decode cX7_intervals 1 = .ok (.istore_n 2, 1) := by decide +kernel
theorem dX7_intervals_2 : decode cX7_intervals 2 = .ok (.iload_n 2, 1) := by decide +kernel
theorem dX7_intervals_3 : decode cX7_intervals 3 = .ok (.ifCond .eq 198, 3) := by decide +kernel
theorem dX7_intervals_6 : decode cX7_intervals 6 = .ok (.aload_n 0, 1) := by decide +kernel
theorem dX7_intervals_7 : decode cX7_intervals 7 = .ok (.getfield 74, 3) := by decide +kernel
theorem dX7_intervals_10 : decode cX7_intervals 10 = .ok (.iload_n 1, 1) := by decide +kernel
theorem dX7_intervals_11 : decode cX7_intervals 11 = .ok (.iaload, 1) := by decide +kernel
theorem dX7_intervals_12 : decode cX7_intervals 12 = .ok (.iconst 4, 1) := by decide +kernel
theorem dX7_intervals_13 : decode cX7_intervals 13 = .ok (.if_icmp .ge 188, 3) := by decide +kernel
theorem dX7_intervals_16 : decode cX7_intervals 16 = .ok (.aload_n 0, 1) := by decide +kernel
theorem dX7_intervals_17 : decode cX7_intervals 17 = .ok (.getfield 120, 3) := by decide +kernel
theorem dX7_intervals_20 : decode cX7_intervals 20 = .ok (.ifCond .ge 181, 3) := by decide +kernel
theorem dX7_intervals_23 : decode cX7_intervals 23 = .ok (.aload_n 0, 1) := by decide +kernel
theorem dX7_intervals_24 : decode cX7_intervals 24 = .ok (.aload_n 0, 1) := by decide +kernel
theorem dX7_intervals_25 : decode cX7_intervals 25 = .ok (.getfield 130, 3) := by decide +kernel
theorem dX7_intervals_28 : decode cX7_intervals 28 = .ok (.invokevirtual 133, 3) := by decide +kernel
theorem dX7_intervals_31 : decode cX7_intervals 31 = .ok (.invokestatic 140, 3) := by decide +kernel
theorem dX7_intervals_34 : decode cX7_intervals 34 = .ok (.istore_n 3, 1) := by decide +kernel
theorem dX7_intervals_35 : decode cX7_intervals 35 = .ok (.aload_n 0, 1) := by decide +kernel
theorem dX7_intervals_36 : decode cX7_intervals 36 = .ok (.getfield 22, 3) := by decide +kernel
theorem dX7_intervals_39 : decode cX7_intervals 39 = .ok (.aload_n 0, 1) := by decide +kernel
theorem dX7_intervals_40 : decode cX7_intervals 40 = .ok (.aload_n 0, 1) := by decide +kernel
theorem dX7_intervals_41 : decode cX7_intervals 41 = .ok (.getfield 130, 3) := by decide +kernel
theorem dX7_intervals_44 : decode cX7_intervals 44 = .ok (.iload_n 3, 1) := by decide +kernel
theorem dX7_intervals_45 : decode cX7_intervals 45 = .ok (.ifCond .le 7, 3) := by decide +kernel
theorem dX7_intervals_48 : decode cX7_intervals 48 = .ok (.iconst 1, 1) := by decide +kernel
theorem dX7_intervals_49 : decode cX7_intervals 49 = .ok (.goto 4, 3) := by decide +kernel
theorem dX7_intervals_52 : decode cX7_intervals 52 = .ok (.iconst 0, 1) := by decide +kernel
theorem dX7_intervals_53 : decode cX7_intervals 53 = .ok (.iadd, 1) := by decide +kernel
theorem dX7_intervals_54 : decode cX7_intervals 54 = .ok (.invokevirtual 133, 3) := by decide +kernel
theorem dX7_intervals_57 : decode cX7_intervals 57 = .ok (.invokestatic 126, 3) := by decide +kernel
theorem dX7_intervals_60 : decode cX7_intervals 60 = .ok (.istore 4, 2) := by decide +kernel
theorem dX7_intervals_62 : decode cX7_intervals 62 = .ok (.iload 4, 2) := by decide +kernel
theorem dX7_intervals_64 : decode cX7_intervals 64 = .ok (.ifCond .lt 7, 3) := by decide +kernel
theorem dX7_intervals_67 : decode cX7_intervals 67 = .ok (.iconst 1, 1) := by decide +kernel
theorem dX7_intervals_68 : decode cX7_intervals 68 = .ok (.goto 4, 3) := by decide +kernel
theorem dX7_intervals_71 : decode cX7_intervals 71 = .ok (.iconst 0, 1) := by decide +kernel
theorem dX7_intervals_72 : decode cX7_intervals 72 = .ok (.istore_n 2, 1) := by decide +kernel
theorem dX7_intervals_73 : decode cX7_intervals 73 = .ok (.iload_n 2, 1) := by decide +kernel
theorem dX7_intervals_74 : decode cX7_intervals 74 = .ok (.ifCond .eq 124, 3) := by decide +kernel
theorem dX7_intervals_77 : decode cX7_intervals 77 = .ok (.aload_n 0, 1) := by decide +kernel
theorem dX7_intervals_78 : decode cX7_intervals 78 = .ok (.dup, 1) := by decide +kernel
theorem dX7_intervals_79 : decode cX7_intervals 79 = .ok (.getfield 130, 3) := by decide +kernel
theorem dX7_intervals_82 : decode cX7_intervals 82 = .ok (.iload_n 3, 1) := by decide +kernel
theorem dX7_intervals_83 : decode cX7_intervals 83 = .ok (.ifCond .le 7, 3) := by decide +kernel
theorem dX7_intervals_86 : decode cX7_intervals 86 = .ok (.iconst 1, 1) := by decide +kernel
theorem dX7_intervals_87 : decode cX7_intervals 87 = .ok (.goto 4, 3) := by decide +kernel
theorem dX7_intervals_90 : decode cX7_intervals 90 = .ok (.iconst 0, 1) := by decide +kernel
theorem dX7_intervals_91 : decode cX7_intervals 91 = .ok (.iadd, 1) := by decide +kernel
theorem dX7_intervals_92 : decode cX7_intervals 92 = .ok (.putfield 130, 3) := by decide +kernel
theorem dX7_intervals_95 : decode cX7_intervals 95 = .ok (.aload_n 0, 1) := by decide +kernel
theorem dX7_intervals_96 : decode cX7_intervals 96 = .ok (.getfield 38, 3) := by decide +kernel
theorem dX7_intervals_99 : decode cX7_intervals 99 = .ok (.iconst 1, 1) := by decide +kernel
theorem dX7_intervals_100 : decode cX7_intervals 100 = .ok (.iaload, 1) := by decide +kernel
theorem dX7_intervals_101 : decode cX7_intervals 101 = .ok (.iconst 2, 1) := by decide +kernel
theorem dX7_intervals_102 : decode cX7_intervals 102 = .ok (.if_icmp .ne 17, 3) := by decide +kernel
theorem dX7_intervals_105 : decode cX7_intervals 105 = .ok (.aload_n 0, 1) := by decide +kernel
theorem dX7_intervals_106 : decode cX7_intervals 106 = .ok (.getfield 53, 3) := by decide +kernel
theorem dX7_intervals_109 : decode cX7_intervals 109 = .ok (.iload_n 1, 1) := by decide +kernel
theorem dX7_intervals_110 : decode cX7_intervals 110 = .ok (.iaload, 1) := by decide +kernel
theorem dX7_intervals_111 : decode cX7_intervals 111 = .ok (.iload 4, 2) := by decide +kernel
theorem dX7_intervals_113 : decode cX7_intervals 113 = .ok (.iadd, 1) := by decide +kernel
theorem dX7_intervals_114 : decode cX7_intervals 114 = .ok (.iconst 1, 1) := by decide +kernel
theorem dX7_intervals_115 : decode cX7_intervals 115 = .ok (.iadd, 1) := by decide +kernel
theorem dX7_intervals_116 : decode cX7_intervals 116 = .ok (.goto 14, 3) := by decide +kernel
theorem dX7_intervals_119 : decode cX7_intervals 119 = .ok (.aload_n 0, 1) := by decide +kernel
theorem dX7_intervals_120 : decode cX7_intervals 120 = .ok (.getfield 53, 3) := by decide +kernel
theorem dX7_intervals_123 : decode cX7_intervals 123 = .ok (.iload_n 1, 1) := by decide +kernel
theorem dX7_intervals_124 : decode cX7_intervals 124 = .ok (.iaload, 1) := by decide +kernel
theorem dX7_intervals_125 : decode cX7_intervals 125 = .ok (.iload 4, 2) := by decide +kernel
theorem dX7_intervals_127 : decode cX7_intervals 127 = .ok (.isub, 1) := by decide +kernel
theorem dX7_intervals_128 : decode cX7_intervals 128 = .ok (.iconst 1, 1) := by decide +kernel
theorem dX7_intervals_129 : decode cX7_intervals 129 = .ok (.isub, 1) := by decide +kernel
theorem dX7_intervals_130 : decode cX7_intervals 130 = .ok (.istore 5, 2) := by decide +kernel
theorem dX7_intervals_132 : decode cX7_intervals 132 = .ok (.iload 5, 2) := by decide +kernel
theorem dX7_intervals_134 : decode cX7_intervals 134 = .ok (.bipush 7, 2) := by decide +kernel
theorem dX7_intervals_136 : decode cX7_intervals 136 = .ok (.if_icmp .lt 10, 3) := by decide +kernel
theorem dX7_intervals_139 : decode cX7_intervals 139 = .ok (.iload 5, 2) := by decide +kernel
theorem dX7_intervals_141 : decode cX7_intervals 141 = .ok (.bipush 55, 2) := by decide +kernel
theorem dX7_intervals_143 : decode cX7_intervals 143 = .ok (.if_icmp .le 11, 3) := by decide +kernel
theorem dX7_intervals_146 : decode cX7_intervals 146 = .ok (.aload_n 0, 1) := by decide +kernel
theorem dX7_intervals_147 : decode cX7_intervals 147 = .ok (.aload_n 0, 1) := by decide +kernel
theorem dX7_intervals_148 : decode cX7_intervals 148 = .ok (.getfield 130, 3) := by decide +kernel
theorem dX7_intervals_151 : decode cX7_intervals 151 = .ok (.invokevirtual 146, 3) := by decide +kernel
theorem dX7_intervals_154 : decode cX7_intervals 154 = .ok (.aload_n 0, 1) := by decide +kernel
theorem dX7_intervals_155 : decode cX7_intervals 155 = .ok (.getfield 77, 3) := by decide +kernel
theorem dX7_intervals_158 : decode cX7_intervals 158 = .ok (.iconst 4, 1) := by decide +kernel
theorem dX7_intervals_159 : decode cX7_intervals 159 = .ok (.iload_n 1, 1) := by decide +kernel
theorem dX7_intervals_160 : decode cX7_intervals 160 = .ok (.imul, 1) := by decide +kernel
theorem dX7_intervals_161 : decode cX7_intervals 161 = .ok (.aload_n 0, 1) := by decide +kernel
theorem dX7_intervals_162 : decode cX7_intervals 162 = .ok (.getfield 74, 3) := by decide +kernel
theorem dX7_intervals_165 : decode cX7_intervals 165 = .ok (.iload_n 1, 1) := by decide +kernel
theorem dX7_intervals_166 : decode cX7_intervals 166 = .ok (.iaload, 1) := by decide +kernel
theorem dX7_intervals_167 : decode cX7_intervals 167 = .ok (.iadd, 1) := by decide +kernel
theorem dX7_intervals_168 : decode cX7_intervals 168 = .ok (.iload 4, 2) := by decide +kernel
theorem dX7_intervals_170 : decode cX7_intervals 170 = .ok (.iconst 2, 1) := by decide +kernel
theorem dX7_intervals_171 : decode cX7_intervals 171 = .ok (.iadd, 1) := by decide +kernel
theorem dX7_intervals_172 : decode cX7_intervals 172 = .ok (.bipush 16, 2) := by decide +kernel
theorem dX7_intervals_174 : decode cX7_intervals 174 = .ok (.iload_n 3, 1) := by decide +kernel
theorem dX7_intervals_175 : decode cX7_intervals 175 = .ok (.imul, 1) := by decide +kernel
theorem dX7_intervals_176 : decode cX7_intervals 176 = .ok (.iadd, 1) := by decide +kernel
theorem dX7_intervals_177 : decode cX7_intervals 177 = .ok (.iastore, 1) := by decide +kernel
theorem dX7_intervals_178 : decode cX7_intervals 178 = .ok (.aload_n 0, 1) := by decide +kernel
theorem dX7_intervals_179 : decode cX7_intervals 179 = .ok (.getfield 74, 3) := by decide +kernel
theorem dX7_intervals_182 : decode cX7_intervals 182 = .ok (.iload_n 1, 1) := by decide +kernel
theorem dX7_intervals_183 : decode cX7_intervals 183 = .ok (.dup2, 1) := by decide +kernel
theorem dX7_intervals_184 : decode cX7_intervals 184 = .ok (.iaload, 1) := by decide +kernel
theorem dX7_intervals_185 : decode cX7_intervals 185 = .ok (.iconst 1, 1) := by decide +kernel
theorem dX7_intervals_186 : decode cX7_intervals 186 = .ok (.iadd, 1) := by decide +kernel
theorem dX7_intervals_187 : decode cX7_intervals 187 = .ok (.iastore, 1) := by decide +kernel
theorem dX7_intervals_188 : decode cX7_intervals 188 = .ok (.aload_n 0, 1) := by decide +kernel
theorem dX7_intervals_189 : decode cX7_intervals 189 = .ok (.dup, 1) := by decide +kernel
theorem dX7_intervals_190 : decode cX7_intervals 190 = .ok (.getfield 130, 3) := by decide +kernel
theorem dX7_intervals_193 : decode cX7_intervals 193 = .ok (.iconst 1, 1) := by decide +kernel
theorem dX7_intervals_194 : decode cX7_intervals 194 = .ok (.iadd, 1) := by decide +kernel
theorem dX7_intervals_195 : decode cX7_intervals 195 = .ok (.putfield 130, 3) := by decide +kernel
theorem dX7_intervals_198 : decode cX7_intervals 198 = .ok (.goto (-196), 3) := by decide +kernel
theorem dX7_intervals_201 : decode cX7_intervals 201 = .ok (.return_, 1) := by decide +kernel
theorem dX7_readItem_0 : decode cX7_readItem 0 = .ok (.sipush 600, 3) := by decide +kernel
theorem dX7_readItem_3 : decode cX7_readItem 3 = .ok (.aload_n 0, 1) := by decide +kernel
theorem dX7_readItem_4 : decode cX7_readItem 4 = .ok (.getfield 35, 3) := by decide +kernel
theorem dX7_readItem_7 : decode cX7_readItem 7 = .ok (.iconst 1, 1) := by decide +kernel
theorem dX7_readItem_8 : decode cX7_readItem 8 = .ok (.iaload, 1) := by decide +kernel
theorem dX7_readItem_9 : decode cX7_readItem 9 = .ok (.iadd, 1) := by decide +kernel
theorem dX7_readItem_10 : decode cX7_readItem 10 = .ok (.istore_n 3, 1) := by decide +kernel
theorem dX7_readItem_11 : decode cX7_readItem 11 = .ok (.aload_n 0, 1) := by decide +kernel
theorem dX7_readItem_12 : decode cX7_readItem 12 = .ok (.getfield 47, 3) := by decide +kernel
theorem dX7_readItem_15 : decode cX7_readItem 15 = .ok (.iload_n 3, 1) := by decide +kernel
theorem dX7_readItem_16 : decode cX7_readItem 16 = .ok (.iload_n 1, 1) := by decide +kernel
theorem dX7_readItem_17 : decode cX7_readItem 17 = .ok (.iastore, 1) := by decide +kernel
theorem dX7_readItem_18 : decode cX7_readItem 18 = .ok (.aload_n 0, 1) := by decide +kernel
theorem dX7_readItem_19 : decode cX7_readItem 19 = .ok (.getfield 50, 3) := by decide +kernel
theorem dX7_readItem_22 : decode cX7_readItem 22 = .ok (.iload_n 3, 1) := by decide +kernel
theorem dX7_readItem_23 : decode cX7_readItem 23 = .ok (.iload_n 2, 1) := by decide +kernel
theorem dX7_readItem_24 : decode cX7_readItem 24 = .ok (.iastore, 1) := by decide +kernel
theorem dX7_readItem_25 : decode cX7_readItem 25 = .ok (.aload_n 0, 1) := by decide +kernel
theorem dX7_readItem_26 : decode cX7_readItem 26 = .ok (.getfield 53, 3) := by decide +kernel
theorem dX7_readItem_29 : decode cX7_readItem 29 = .ok (.iload_n 3, 1) := by decide +kernel
theorem dX7_readItem_30 : decode cX7_readItem 30 = .ok (.iconst (-1), 1) := by decide +kernel
theorem dX7_readItem_31 : decode cX7_readItem 31 = .ok (.iastore, 1) := by decide +kernel
theorem dX7_readItem_32 : decode cX7_readItem 32 = .ok (.aload_n 0, 1) := by decide +kernel
theorem dX7_readItem_33 : decode cX7_readItem 33 = .ok (.getfield 56, 3) := by decide +kernel
theorem dX7_readItem_36 : decode cX7_readItem 36 = .ok (.iload_n 3, 1) := by decide +kernel
theorem dX7_readItem_37 : decode cX7_readItem 37 = .ok (.iconst 0, 1) := by decide +kernel
theorem dX7_readItem_38 : decode cX7_readItem 38 = .ok (.iastore, 1) := by decide +kernel
theorem dX7_readItem_39 : decode cX7_readItem 39 = .ok (.aload_n 0, 1) := by decide +kernel
theorem dX7_readItem_40 : decode cX7_readItem 40 = .ok (.getfield 65, 3) := by decide +kernel
theorem dX7_readItem_43 : decode cX7_readItem 43 = .ok (.iload_n 3, 1) := by decide +kernel
theorem dX7_readItem_44 : decode cX7_readItem 44 = .ok (.iconst 0, 1) := by decide +kernel
theorem dX7_readItem_45 : decode cX7_readItem 45 = .ok (.iastore, 1) := by decide +kernel
theorem dX7_readItem_46 : decode cX7_readItem 46 = .ok (.aload_n 0, 1) := by decide +kernel
theorem dX7_readItem_47 : decode cX7_readItem 47 = .ok (.getfield 68, 3) := by decide +kernel
theorem dX7_readItem_50 : decode cX7_readItem 50 = .ok (.iload_n 3, 1) := by decide +kernel
theorem dX7_readItem_51 : decode cX7_readItem 51 = .ok (.iconst 0, 1) := by decide +kernel
theorem dX7_readItem_52 : decode cX7_readItem 52 = .ok (.iastore, 1) := by decide +kernel
theorem dX7_readItem_53 : decode cX7_readItem 53 = .ok (.aload_n 0, 1) := by decide +kernel
theorem dX7_readItem_54 : decode cX7_readItem 54 = .ok (.getfield 71, 3) := by decide +kernel
theorem dX7_readItem_57 : decode cX7_readItem 57 = .ok (.iload_n 3, 1) := by decide +kernel
theorem dX7_readItem_58 : decode cX7_readItem 58 = .ok (.iconst 0, 1) := by decide +kernel
theorem dX7_readItem_59 : decode cX7_readItem 59 = .ok (.iastore, 1) := by decide +kernel
theorem dX7_readItem_60 : decode cX7_readItem 60 = .ok (.aload_n 0, 1) := by decide +kernel
theorem dX7_readItem_61 : decode cX7_readItem 61 = .ok (.getfield 74, 3) := by decide +kernel
theorem dX7_readItem_64 : decode cX7_readItem 64 = .ok (.iload_n 3, 1) := by decide +kernel
theorem dX7_readItem_65 : decode cX7_readItem 65 = .ok (.iconst 0, 1) := by decide +kernel
theorem dX7_readItem_66 : decode cX7_readItem 66 = .ok (.iastore, 1) := by decide +kernel
theorem dX7_readItem_67 : decode cX7_readItem 67 = .ok (.aload_n 0, 1) := by decide +kernel
theorem dX7_readItem_68 : decode cX7_readItem 68 = .ok (.invokevirtual 167, 3) := by decide +kernel
theorem dX7_readItem_71 : decode cX7_readItem 71 = .ok (.aload_n 0, 1) := by decide +kernel
theorem dX7_readItem_72 : decode cX7_readItem 72 = .ok (.getfield 120, 3) := by decide +kernel
theorem dX7_readItem_75 : decode cX7_readItem 75 = .ok (.ifCond .lt 4, 3) := by decide +kernel
theorem dX7_readItem_78 : decode cX7_readItem 78 = .ok (.return_, 1) := by decide +kernel
theorem dX7_readItem_79 : decode cX7_readItem 79 = .ok (.aload_n 0, 1) := by decide +kernel
theorem dX7_readItem_80 : decode cX7_readItem 80 = .ok (.getfield 62, 3) := by decide +kernel
theorem dX7_readItem_83 : decode cX7_readItem 83 = .ok (.iload_n 3, 1) := by decide +kernel
theorem dX7_readItem_84 : decode cX7_readItem 84 = .ok (.aload_n 0, 1) := by decide +kernel
theorem dX7_readItem_85 : decode cX7_readItem 85 = .ok (.getfield 150, 3) := by decide +kernel
theorem dX7_readItem_88 : decode cX7_readItem 88 = .ok (.iastore, 1) := by decide +kernel
theorem dX7_readItem_89 : decode cX7_readItem 89 = .ok (.aload_n 0, 1) := by decide +kernel
theorem dX7_readItem_90 : decode cX7_readItem 90 = .ok (.getfield 16, 3) := by decide +kernel
theorem dX7_readItem_93 : decode cX7_readItem 93 = .ok (.aload_n 0, 1) := by decide +kernel
theorem dX7_readItem_94 : decode cX7_readItem 94 = .ok (.aload_n 0, 1) := by decide +kernel
theorem dX7_readItem_95 : decode cX7_readItem 95 = .ok (.getfield 130, 3) := by decide +kernel
theorem dX7_readItem_98 : decode cX7_readItem 98 = .ok (.invokevirtual 133, 3) := by decide +kernel
theorem dX7_readItem_101 : decode cX7_readItem 101 = .ok (.invokestatic 126, 3) := by decide +kernel
theorem dX7_readItem_104 : decode cX7_readItem 104 = .ok (.istore 4, 2) := by decide +kernel
theorem dX7_readItem_106 : decode cX7_readItem 106 = .ok (.iload 4, 2) := by decide +kernel
theorem dX7_readItem_108 : decode cX7_readItem 108 = .ok (.ifCond .lt 29, 3) := by decide +kernel
theorem dX7_readItem_111 : decode cX7_readItem 111 = .ok (.aload_n 0, 1) := by decide +kernel
theorem dX7_readItem_112 : decode cX7_readItem 112 = .ok (.getfield 59, 3) := by decide +kernel
theorem dX7_readItem_115 : decode cX7_readItem 115 = .ok (.iload_n 3, 1) := by decide +kernel
theorem dX7_readItem_116 : decode cX7_readItem 116 = .ok (.iload 4, 2) := by decide +kernel
theorem dX7_readItem_118 : decode cX7_readItem 118 = .ok (.iastore, 1) := by decide +kernel
theorem dX7_readItem_119 : decode cX7_readItem 119 = .ok (.aload_n 0, 1) := by decide +kernel
theorem dX7_readItem_120 : decode cX7_readItem 120 = .ok (.dup, 1) := by decide +kernel
theorem dX7_readItem_121 : decode cX7_readItem 121 = .ok (.getfield 130, 3) := by decide +kernel
theorem dX7_readItem_124 : decode cX7_readItem 124 = .ok (.iconst 1, 1) := by decide +kernel
theorem dX7_readItem_125 : decode cX7_readItem 125 = .ok (.iadd, 1) := by decide +kernel
theorem dX7_readItem_126 : decode cX7_readItem 126 = .ok (.putfield 130, 3) := by decide +kernel
theorem dX7_readItem_129 : decode cX7_readItem 129 = .ok (.aload_n 0, 1) := by decide +kernel
theorem dX7_readItem_130 : decode cX7_readItem 130 = .ok (.iload_n 3, 1) := by decide +kernel
theorem dX7_readItem_131 : decode cX7_readItem 131 = .ok (.invokevirtual 170, 3) := by decide +kernel
theorem dX7_readItem_134 : decode cX7_readItem 134 = .ok (.goto 77, 3) := by decide +kernel
theorem dX7_readItem_137 : decode cX7_readItem 137 = .ok (.aload_n 0, 1) := by decide +kernel
theorem dX7_readItem_138 : decode cX7_readItem 138 = .ok (.iload_n 3, 1) := by decide +kernel
theorem dX7_readItem_139 : decode cX7_readItem 139 = .ok (.invokevirtual 173, 3) := by decide +kernel
theorem dX7_readItem_142 : decode cX7_readItem 142 = .ok (.aload_n 0, 1) := by decide +kernel
theorem dX7_readItem_143 : decode cX7_readItem 143 = .ok (.getfield 120, 3) := by decide +kernel
theorem dX7_readItem_146 : decode cX7_readItem 146 = .ok (.ifCond .ge 13, 3) := by decide +kernel
theorem dX7_readItem_149 : decode cX7_readItem 149 = .ok (.aload_n 0, 1) := by decide +kernel
theorem dX7_readItem_150 : decode cX7_readItem 150 = .ok (.iload_n 3, 1) := by decide +kernel
theorem dX7_readItem_151 : decode cX7_readItem 151 = .ok (.invokevirtual 170, 3) := by decide +kernel
theorem dX7_readItem_154 : decode cX7_readItem 154 = .ok (.aload_n 0, 1) := by decide +kernel
theorem dX7_readItem_155 : decode cX7_readItem 155 = .ok (.iload_n 3, 1) := by decide +kernel
theorem dX7_readItem_156 : decode cX7_readItem 156 = .ok (.invokevirtual 176, 3) := by decide +kernel
theorem dX7_readItem_159 : decode cX7_readItem 159 = .ok (.aload_n 0, 1) := by decide +kernel
theorem dX7_readItem_160 : decode cX7_readItem 160 = .ok (.getfield 120, 3) := by decide +kernel
theorem dX7_readItem_163 : decode cX7_readItem 163 = .ok (.ifCond .ge 48, 3) := by decide +kernel
theorem dX7_readItem_166 : decode cX7_readItem 166 = .ok (.aload_n 0, 1) := by decide +kernel
theorem dX7_readItem_167 : decode cX7_readItem 167 = .ok (.aload_n 0, 1) := by decide +kernel
theorem dX7_readItem_168 : decode cX7_readItem 168 = .ok (.getfield 130, 3) := by decide +kernel
theorem dX7_readItem_171 : decode cX7_readItem 171 = .ok (.invokevirtual 133, 3) := by decide +kernel
theorem dX7_readItem_174 : decode cX7_readItem 174 = .ok (.bipush 8, 2) := by decide +kernel
theorem dX7_readItem_176 : decode cX7_readItem 176 = .ok (.if_icmp .ne 35, 3) := by decide +kernel
theorem dX7_readItem_179 : decode cX7_readItem 179 = .ok (.aload_n 0, 1) := by decide +kernel
theorem dX7_readItem_180 : decode cX7_readItem 180 = .ok (.aload_n 0, 1) := by decide +kernel
theorem dX7_readItem_181 : decode cX7_readItem 181 = .ok (.getfield 130, 3) := by decide +kernel
theorem dX7_readItem_184 : decode cX7_readItem 184 = .ok (.iconst 1, 1) := by decide +kernel
theorem dX7_readItem_185 : decode cX7_readItem 185 = .ok (.iadd, 1) := by decide +kernel
theorem dX7_readItem_186 : decode cX7_readItem 186 = .ok (.invokevirtual 133, 3) := by decide +kernel
theorem dX7_readItem_189 : decode cX7_readItem 189 = .ok (.bipush 9, 2) := by decide +kernel
theorem dX7_readItem_191 : decode cX7_readItem 191 = .ok (.if_icmp .ne 20, 3) := by decide +kernel
theorem dX7_readItem_194 : decode cX7_readItem 194 = .ok (.aload_n 0, 1) := by decide +kernel
theorem dX7_readItem_195 : decode cX7_readItem 195 = .ok (.getfield 68, 3) := by decide +kernel
theorem dX7_readItem_198 : decode cX7_readItem 198 = .ok (.iload_n 3, 1) := by decide +kernel
theorem dX7_readItem_199 : decode cX7_readItem 199 = .ok (.iconst 1, 1) := by decide +kernel
theorem dX7_readItem_200 : decode cX7_readItem 200 = .ok (.iastore, 1) := by decide +kernel
theorem dX7_readItem_201 : decode cX7_readItem 201 = .ok (.aload_n 0, 1) := by decide +kernel
theorem dX7_readItem_202 : decode cX7_readItem 202 = .ok (.dup, 1) := by decide +kernel
theorem dX7_readItem_203 : decode cX7_readItem 203 = .ok (.getfield 130, 3) := by decide +kernel
theorem dX7_readItem_206 : decode cX7_readItem 206 = .ok (.iconst 2, 1) := by decide +kernel
theorem dX7_readItem_207 : decode cX7_readItem 207 = .ok (.iadd, 1) := by decide +kernel
theorem dX7_readItem_208 : decode cX7_readItem 208 = .ok (.putfield 130, 3) := by decide +kernel
theorem dX7_readItem_211 : decode cX7_readItem 211 = .ok (.aload_n 0, 1) := by decide +kernel
theorem dX7_readItem_212 : decode cX7_readItem 212 = .ok (.getfield 120, 3) := by decide +kernel
theorem dX7_readItem_215 : decode cX7_readItem 215 = .ok (.ifCond .ge 8, 3) := by decide +kernel
theorem dX7_readItem_218 : decode cX7_readItem 218 = .ok (.aload_n 0, 1) := by decide +kernel
theorem dX7_readItem_219 : decode cX7_readItem 219 = .ok (.iload_n 3, 1) := by decide +kernel
theorem dX7_readItem_220 : decode cX7_readItem 220 = .ok (.invokevirtual 179, 3) := by decide +kernel
theorem dX7_readItem_223 : decode cX7_readItem 223 = .ok (.aload_n 0, 1) := by decide +kernel
theorem dX7_readItem_224 : decode cX7_readItem 224 = .ok (.getfield 35, 3) := by decide +kernel
theorem dX7_readItem_227 : decode cX7_readItem 227 = .ok (.iconst 1, 1) := by decide +kernel
theorem dX7_readItem_228 : decode cX7_readItem 228 = .ok (.dup2, 1) := by decide +kernel
theorem dX7_readItem_229 : decode cX7_readItem 229 = .ok (.iaload, 1) := by decide +kernel
theorem dX7_readItem_230 : decode cX7_readItem 230 = .ok (.iconst 1, 1) := by decide +kernel
theorem dX7_readItem_231 : decode cX7_readItem 231 = .ok (.iadd, 1) := by decide +kernel
theorem dX7_readItem_232 : decode cX7_readItem 232 = .ok (.iastore, 1) := by decide +kernel
theorem dX7_readItem_233 : decode cX7_readItem 233 = .ok (.return_, 1) := by decide +kernel
theorem dX7_readSlur_0 : decode cX7_readSlur 0 = .ok (.aload_n 0, 1) := by decide +kernel
theorem dX7_readSlur_1 : decode cX7_readSlur 1 = .ok (.aload_n 0, 1) := by decide +kernel
theorem dX7_readSlur_2 : decode cX7_readSlur 2 = .ok (.getfield 130, 3) := by decide +kernel
theorem dX7_readSlur_5 : decode cX7_readSlur 5 = .ok (.invokevirtual 133, 3) := by decide +kernel
theorem dX7_readSlur_8 : decode cX7_readSlur 8 = .ok (.bipush 9, 2) := by decide +kernel
theorem dX7_readSlur_10 : decode cX7_readSlur 10 = .ok (.if_icmp .ne 35, 3) := by decide +kernel
theorem dX7_readSlur_13 : decode cX7_readSlur 13 = .ok (.aload_n 0, 1) := by decide +kernel
theorem dX7_readSlur_14 : decode cX7_readSlur 14 = .ok (.getfield 153, 3) := by decide +kernel
theorem dX7_readSlur_17 : decode cX7_readSlur 17 = .ok (.ifCond .eq 11, 3) := by decide +kernel
theorem dX7_readSlur_20 : decode cX7_readSlur 20 = .ok (.aload_n 0, 1) := by decide +kernel
theorem dX7_readSlur_21 : decode cX7_readSlur 21 = .ok (.aload_n 0, 1) := by decide +kernel
theorem dX7_readSlur_22 : decode cX7_readSlur 22 = .ok (.getfield 130, 3) := by decide +kernel
theorem dX7_readSlur_25 : decode cX7_readSlur 25 = .ok (.invokevirtual 146, 3) := by decide +kernel
theorem dX7_readSlur_28 : decode cX7_readSlur 28 = .ok (.aload_n 0, 1) := by decide +kernel
theorem dX7_readSlur_29 : decode cX7_readSlur 29 = .ok (.getfield 71, 3) := by decide +kernel
theorem dX7_readSlur_32 : decode cX7_readSlur 32 = .ok (.iload_n 1, 1) := by decide +kernel
theorem dX7_readSlur_33 : decode cX7_readSlur 33 = .ok (.iconst 1, 1) := by decide +kernel
theorem dX7_readSlur_34 : decode cX7_readSlur 34 = .ok (.iastore, 1) := by decide +kernel
theorem dX7_readSlur_35 : decode cX7_readSlur 35 = .ok (.aload_n 0, 1) := by decide +kernel
theorem dX7_readSlur_36 : decode cX7_readSlur 36 = .ok (.dup, 1) := by decide +kernel
theorem dX7_readSlur_37 : decode cX7_readSlur 37 = .ok (.getfield 130, 3) := by decide +kernel
theorem dX7_readSlur_40 : decode cX7_readSlur 40 = .ok (.iconst 1, 1) := by decide +kernel
theorem dX7_readSlur_41 : decode cX7_readSlur 41 = .ok (.iadd, 1) := by decide +kernel
theorem dX7_readSlur_42 : decode cX7_readSlur 42 = .ok (.putfield 130, 3) := by decide +kernel
theorem dX7_readSlur_45 : decode cX7_readSlur 45 = .ok (.aload_n 0, 1) := by decide +kernel
theorem dX7_readSlur_46 : decode cX7_readSlur 46 = .ok (.getfield 153, 3) := by decide +kernel
theorem dX7_readSlur_49 : decode cX7_readSlur 49 = .ok (.ifCond .eq 49, 3) := by decide +kernel
theorem dX7_readSlur_52 : decode cX7_readSlur 52 = .ok (.aload_n 0, 1) := by decide +kernel
theorem dX7_readSlur_53 : decode cX7_readSlur 53 = .ok (.aload_n 0, 1) := by decide +kernel
theorem dX7_readSlur_54 : decode cX7_readSlur 54 = .ok (.getfield 130, 3) := by decide +kernel
theorem dX7_readSlur_57 : decode cX7_readSlur 57 = .ok (.invokevirtual 133, 3) := by decide +kernel
theorem dX7_readSlur_60 : decode cX7_readSlur 60 = .ok (.bipush 24, 2) := by decide +kernel
theorem dX7_readSlur_62 : decode cX7_readSlur 62 = .ok (.if_icmp .ne 36, 3) := by decide +kernel
theorem dX7_readSlur_65 : decode cX7_readSlur 65 = .ok (.aload_n 0, 1) := by decide +kernel
theorem dX7_readSlur_66 : decode cX7_readSlur 66 = .ok (.aload_n 0, 1) := by decide +kernel
theorem dX7_readSlur_67 : decode cX7_readSlur 67 = .ok (.getfield 130, 3) := by decide +kernel
theorem dX7_readSlur_70 : decode cX7_readSlur 70 = .ok (.iconst 1, 1) := by decide +kernel
theorem dX7_readSlur_71 : decode cX7_readSlur 71 = .ok (.iadd, 1) := by decide +kernel
theorem dX7_readSlur_72 : decode cX7_readSlur 72 = .ok (.invokevirtual 133, 3) := by decide +kernel
theorem dX7_readSlur_75 : decode cX7_readSlur 75 = .ok (.bipush 6, 2) := by decide +kernel
theorem dX7_readSlur_77 : decode cX7_readSlur 77 = .ok (.if_icmp .ne 21, 3) := by decide +kernel
theorem dX7_readSlur_80 : decode cX7_readSlur 80 = .ok (.aload_n 0, 1) := by decide +kernel
theorem dX7_readSlur_81 : decode cX7_readSlur 81 = .ok (.iconst 0, 1) := by decide +kernel
theorem dX7_readSlur_82 : decode cX7_readSlur 82 = .ok (.putfield 153, 3) := by decide +kernel
theorem dX7_readSlur_85 : decode cX7_readSlur 85 = .ok (.aload_n 0, 1) := by decide +kernel
theorem dX7_readSlur_86 : decode cX7_readSlur 86 = .ok (.dup, 1) := by decide +kernel
theorem dX7_readSlur_87 : decode cX7_readSlur 87 = .ok (.getfield 130, 3) := by decide +kernel
theorem dX7_readSlur_90 : decode cX7_readSlur 90 = .ok (.iconst 2, 1) := by decide +kernel
theorem dX7_readSlur_91 : decode cX7_readSlur 91 = .ok (.iadd, 1) := by decide +kernel
theorem dX7_readSlur_92 : decode cX7_readSlur 92 = .ok (.putfield 130, 3) := by decide +kernel
theorem dX7_readSlur_95 : decode cX7_readSlur 95 = .ok (.goto 17, 3) := by decide +kernel
theorem dX7_readSlur_98 : decode cX7_readSlur 98 = .ok (.aload_n 0, 1) := by decide +kernel
theorem dX7_readSlur_99 : decode cX7_readSlur 99 = .ok (.getfield 153, 3) := by decide +kernel
theorem dX7_readSlur_102 : decode cX7_readSlur 102 = .ok (.ifCond .eq 10, 3) := by decide +kernel
theorem dX7_readSlur_105 : decode cX7_readSlur 105 = .ok (.aload_n 0, 1) := by decide +kernel
theorem dX7_readSlur_106 : decode cX7_readSlur 106 = .ok (.getfield 71, 3) := by decide +kernel
theorem dX7_readSlur_109 : decode cX7_readSlur 109 = .ok (.iload_n 1, 1) := by decide +kernel
theorem dX7_readSlur_110 : decode cX7_readSlur 110 = .ok (.iconst 1, 1) := by decide +kernel
theorem dX7_readSlur_111 : decode cX7_readSlur 111 = .ok (.iastore, 1) := by decide +kernel
theorem dX7_readSlur_112 : decode cX7_readSlur 112 = .ok (.return_, 1) := by decide +kernel
theorem dX7_readVoice_0 : decode cX7_readVoice 0 = .ok (.sipush 600, 3) := by decide +kernel
theorem dX7_readVoice_3 : decode cX7_readVoice 3 = .ok (.aload_n 0, 1) := by decide +kernel
theorem dX7_readVoice_4 : decode cX7_readVoice 4 = .ok (.getfield 35, 3) := by decide +kernel
theorem dX7_readVoice_7 : decode cX7_readVoice 7 = .ok (.iconst 1, 1) := by decide +kernel
theorem dX7_readVoice_8 : decode cX7_readVoice 8 = .ok (.iaload, 1) := by decide +kernel
theorem dX7_readVoice_9 : decode cX7_readVoice 9 = .ok (.iadd, 1) := by decide +kernel
theorem dX7_readVoice_10 : decode cX7_readVoice 10 = .ok (.istore_n 3, 1) := by decide +kernel
theorem dX7_readVoice_11 : decode cX7_readVoice 11 = .ok (.iconst 0, 1) := by decide +kernel
theorem dX7_readVoice_12 : decode cX7_readVoice 12 = .ok (.istore 4, 2) := by decide +kernel
theorem dX7_readVoice_14 : decode cX7_readVoice 14 = .ok (.aload_n 0, 1) := by decide +kernel
theorem dX7_readVoice_15 : decode cX7_readVoice 15 = .ok (.iconst (-1), 1) := by decide +kernel
theorem dX7_readVoice_16 : decode cX7_readVoice 16 = .ok (.putfield 150, 3) := by decide +kernel
theorem dX7_readVoice_19 : decode cX7_readVoice 19 = .ok (.iconst 1, 1) := by decide +kernel
theorem dX7_readVoice_20 : decode cX7_readVoice 20 = .ok (.istore 5, 2) := by decide +kernel
theorem dX7_readVoice_22 : decode cX7_readVoice 22 = .ok (.iload 5, 2) := by decide +kernel
theorem dX7_readVoice_24 : decode cX7_readVoice 24 = .ok (.ifCond .eq 90, 3) := by decide +kernel
theorem dX7_readVoice_27 : decode cX7_readVoice 27 = .ok (.aload_n 0, 1) := by decide +kernel
theorem dX7_readVoice_28 : decode cX7_readVoice 28 = .ok (.getfield 120, 3) := by decide +kernel
theorem dX7_readVoice_31 : decode cX7_readVoice 31 = .ok (.ifCond .ge 83, 3) := by decide +kernel
theorem dX7_readVoice_34 : decode cX7_readVoice 34 = .ok (.iload 4, 2) := by decide +kernel
theorem dX7_readVoice_36 : decode cX7_readVoice 36 = .ok (.bipush 40, 2) := by decide +kernel
theorem dX7_readVoice_38 : decode cX7_readVoice 38 = .ok (.if_icmp .eq 15, 3) := by decide +kernel
theorem dX7_readVoice_41 : decode cX7_readVoice 41 = .ok (.aload_n 0, 1) := by decide +kernel
theorem dX7_readVoice_42 : decode cX7_readVoice 42 = .ok (.getfield 35, 3) := by decide +kernel
theorem dX7_readVoice_45 : decode cX7_readVoice 45 = .ok (.iconst 1, 1) := by decide +kernel
theorem dX7_readVoice_46 : decode cX7_readVoice 46 = .ok (.iaload, 1) := by decide +kernel
theorem dX7_readVoice_47 : decode cX7_readVoice 47 = .ok (.sipush 600, 3) := by decide +kernel
theorem dX7_readVoice_50 : decode cX7_readVoice 50 = .ok (.if_icmp .ne 15, 3) := by decide +kernel
theorem dX7_readVoice_53 : decode cX7_readVoice 53 = .ok (.iconst 0, 1) := by decide +kernel
theorem dX7_readVoice_54 : decode cX7_readVoice 54 = .ok (.istore 5, 2) := by decide +kernel
theorem dX7_readVoice_56 : decode cX7_readVoice 56 = .ok (.aload_n 0, 1) := by decide +kernel
theorem dX7_readVoice_57 : decode cX7_readVoice 57 = .ok (.iload 4, 2) := by decide +kernel
theorem dX7_readVoice_59 : decode cX7_readVoice 59 = .ok (.invokevirtual 182, 3) := by decide +kernel
theorem dX7_readVoice_62 : decode cX7_readVoice 62 = .ok (.goto (-40), 3) := by decide +kernel
theorem dX7_readVoice_65 : decode cX7_readVoice 65 = .ok (.aload_n 0, 1) := by decide +kernel
theorem dX7_readVoice_66 : decode cX7_readVoice 66 = .ok (.iload 4, 2) := by decide +kernel
theorem dX7_readVoice_68 : decode cX7_readVoice 68 = .ok (.ifCond .le 14, 3) := by decide +kernel
theorem dX7_readVoice_71 : decode cX7_readVoice 71 = .ok (.aload_n 0, 1) := by decide +kernel
theorem dX7_readVoice_72 : decode cX7_readVoice 72 = .ok (.getfield 153, 3) := by decide +kernel
theorem dX7_readVoice_75 : decode cX7_readVoice 75 = .ok (.ifCond .ne 7, 3) := by decide +kernel
theorem dX7_readVoice_78 : decode cX7_readVoice 78 = .ok (.iconst 1, 1) := by decide +kernel
theorem dX7_readVoice_79 : decode cX7_readVoice 79 = .ok (.goto 4, 3) := by decide +kernel
theorem dX7_readVoice_82 : decode cX7_readVoice 82 = .ok (.iconst 0, 1) := by decide +kernel
theorem dX7_readVoice_83 : decode cX7_readVoice 83 = .ok (.invokevirtual 185, 3) := by decide +kernel
theorem dX7_readVoice_86 : decode cX7_readVoice 86 = .ok (.iconst 1, 1) := by decide +kernel
theorem dX7_readVoice_87 : decode cX7_readVoice 87 = .ok (.if_icmp .ne 7, 3) := by decide +kernel
theorem dX7_readVoice_90 : decode cX7_readVoice 90 = .ok (.iconst 1, 1) := by decide +kernel
theorem dX7_readVoice_91 : decode cX7_readVoice 91 = .ok (.goto 4, 3) := by decide +kernel
theorem dX7_readVoice_94 : decode cX7_readVoice 94 = .ok (.iconst 0, 1) := by decide +kernel
theorem dX7_readVoice_95 : decode cX7_readVoice 95 = .ok (.istore 5, 2) := by decide +kernel
theorem dX7_readVoice_97 : decode cX7_readVoice 97 = .ok (.iload 5, 2) := by decide +kernel
theorem dX7_readVoice_99 : decode cX7_readVoice 99 = .ok (.ifCond .eq (-77), 3) := by decide +kernel
theorem dX7_readVoice_102 : decode cX7_readVoice 102 = .ok (.aload_n 0, 1) := by decide +kernel
theorem dX7_readVoice_103 : decode cX7_readVoice 103 = .ok (.iload_n 1, 1) := by decide +kernel
theorem dX7_readVoice_104 : decode cX7_readVoice 104 = .ok (.iload_n 2, 1) := by decide +kernel
theorem dX7_readVoice_105 : decode cX7_readVoice 105 = .ok (.invokevirtual 189, 3) := by decide +kernel
theorem dX7_readVoice_108 : decode cX7_readVoice 108 = .ok (.iinc 4 1, 3) := by decide +kernel
theorem dX7_readVoice_111 : decode cX7_readVoice 111 = .ok (.goto (-89), 3) := by decide +kernel
theorem dX7_readVoice_114 : decode cX7_readVoice 114 = .ok (.aload_n 0, 1) := by decide +kernel
theorem dX7_readVoice_115 : decode cX7_readVoice 115 = .ok (.getfield 120, 3) := by decide +kernel
theorem dX7_readVoice_118 : decode cX7_readVoice 118 = .ok (.ifCond .ge 26, 3) := by decide +kernel
theorem dX7_readVoice_121 : decode cX7_readVoice 121 = .ok (.iload 4, 2) := by decide +kernel
theorem dX7_readVoice_123 : decode cX7_readVoice 123 = .ok (.ifCond .eq 13, 3) := by decide +kernel
theorem dX7_readVoice_126 : decode cX7_readVoice 126 = .ok (.aload_n 0, 1) := by decide +kernel
theorem dX7_readVoice_127 : decode cX7_readVoice 127 = .ok (.iload_n 3, 1) := by decide +kernel
theorem dX7_readVoice_128 : decode cX7_readVoice 128 = .ok (.iload 4, 2) := by decide +kernel
theorem dX7_readVoice_130 : decode cX7_readVoice 130 = .ok (.invokevirtual 193, 3) := by decide +kernel
theorem dX7_readVoice_133 : decode cX7_readVoice 133 = .ok (.ifCond .ne 11, 3) := by decide +kernel
theorem dX7_readVoice_136 : decode cX7_readVoice 136 = .ok (.aload_n 0, 1) := by decide +kernel
theorem dX7_readVoice_137 : decode cX7_readVoice 137 = .ok (.aload_n 0, 1) := by decide +kernel
theorem dX7_readVoice_138 : decode cX7_readVoice 138 = .ok (.getfield 130, 3) := by decide +kernel
theorem dX7_readVoice_141 : decode cX7_readVoice 141 = .ok (.invokevirtual 146, 3) := by decide +kernel
theorem dX7_readVoice_144 : decode cX7_readVoice 144 = .ok (.return_, 1) := by decide +kernel
theorem dX7_full_0 : decode cX7_full 0 = .ok (.aload_n 0, 1) := by decide +kernel
theorem dX7_full_1 : decode cX7_full 1 = .ok (.aload_n 0, 1) := by decide +kernel
theorem dX7_full_2 : decode cX7_full 2 = .ok (.getfield 130, 3) := by decide +kernel
theorem dX7_full_5 : decode cX7_full 5 = .ok (.invokevirtual 133, 3) := by decide +kernel
theorem dX7_full_8 : decode cX7_full 8 = .ok (.istore_n 2, 1) := by decide +kernel
theorem dX7_full_9 : decode cX7_full 9 = .ok (.iload_n 2, 1) := by decide +kernel
theorem dX7_full_10 : decode cX7_full 10 = .ok (.bipush 35, 2) := by decide +kernel
theorem dX7_full_12 : decode cX7_full 12 = .ok (.if_icmp .ne 22, 3) := by decide +kernel
theorem dX7_full_15 : decode cX7_full 15 = .ok (.aload_n 0, 1) := by decide +kernel
theorem dX7_full_16 : decode cX7_full 16 = .ok (.aload_n 0, 1) := by decide +kernel
theorem dX7_full_17 : decode cX7_full 17 = .ok (.getfield 130, 3) := by decide +kernel
theorem dX7_full_20 : decode cX7_full 20 = .ok (.iconst 1, 1) := by decide +kernel
theorem dX7_full_21 : decode cX7_full 21 = .ok (.iadd, 1) := by decide +kernel
theorem dX7_full_22 : decode cX7_full 22 = .ok (.invokevirtual 133, 3) := by decide +kernel
theorem dX7_full_25 : decode cX7_full 25 = .ok (.bipush 28, 2) := by decide +kernel
theorem dX7_full_27 : decode cX7_full 27 = .ok (.if_icmp .ne 7, 3) := by decide +kernel
theorem dX7_full_30 : decode cX7_full 30 = .ok (.iconst 1, 1) := by decide +kernel
theorem dX7_full_31 : decode cX7_full 31 = .ok (.goto 4, 3) := by decide +kernel
theorem dX7_full_34 : decode cX7_full 34 = .ok (.iconst 0, 1) := by decide +kernel
theorem dX7_full_35 : decode cX7_full 35 = .ok (.istore_n 3, 1) := by decide +kernel
theorem dX7_full_36 : decode cX7_full 36 = .ok (.iload_n 1, 1) := by decide +kernel
theorem dX7_full_37 : decode cX7_full 37 = .ok (.ifCond .eq 22, 3) := by decide +kernel
theorem dX7_full_40 : decode cX7_full 40 = .ok (.iload_n 3, 1) := by decide +kernel
theorem dX7_full_41 : decode cX7_full 41 = .ok (.ifCond .ne 29, 3) := by decide +kernel
theorem dX7_full_44 : decode cX7_full 44 = .ok (.iload_n 2, 1) := by decide +kernel
theorem dX7_full_45 : decode cX7_full 45 = .ok (.ifCond .eq 25, 3) := by decide +kernel
theorem dX7_full_48 : decode cX7_full 48 = .ok (.iload_n 2, 1) := by decide +kernel
theorem dX7_full_49 : decode cX7_full 49 = .ok (.bipush 64, 2) := by decide +kernel
theorem dX7_full_51 : decode cX7_full 51 = .ok (.if_icmp .eq 19, 3) := by decide +kernel
theorem dX7_full_54 : decode cX7_full 54 = .ok (.iload_n 2, 1) := by decide +kernel
theorem dX7_full_55 : decode cX7_full 55 = .ok (.iconst (-1), 1) := by decide +kernel
theorem dX7_full_56 : decode cX7_full 56 = .ok (.if_icmp .eq 14, 3) := by decide +kernel
theorem dX7_full_59 : decode cX7_full 59 = .ok (.aload_n 0, 1) := by decide +kernel
theorem dX7_full_60 : decode cX7_full 60 = .ok (.aload_n 0, 1) := by decide +kernel
theorem dX7_full_61 : decode cX7_full 61 = .ok (.getfield 130, 3) := by decide +kernel
theorem dX7_full_64 : decode cX7_full 64 = .ok (.invokevirtual 146, 3) := by decide +kernel
theorem dX7_full_67 : decode cX7_full 67 = .ok (.goto 24, 3) := by decide +kernel
theorem dX7_full_70 : decode cX7_full 70 = .ok (.iload_n 3, 1) := by decide +kernel
theorem dX7_full_71 : decode cX7_full 71 = .ok (.ifCond .eq 20, 3) := by decide +kernel
theorem dX7_full_74 : decode cX7_full 74 = .ok (.aload_n 0, 1) := by decide +kernel
theorem dX7_full_75 : decode cX7_full 75 = .ok (.getfield 153, 3) := by decide +kernel
theorem dX7_full_78 : decode cX7_full 78 = .ok (.ifCond .eq 13, 3) := by decide +kernel
theorem dX7_full_81 : decode cX7_full 81 = .ok (.aload_n 0, 1) := by decide +kernel
theorem dX7_full_82 : decode cX7_full 82 = .ok (.aload_n 0, 1) := by decide +kernel
theorem dX7_full_83 : decode cX7_full 83 = .ok (.getfield 130, 3) := by decide +kernel
theorem dX7_full_86 : decode cX7_full 86 = .ok (.iconst 1, 1) := by decide +kernel
theorem dX7_full_87 : decode cX7_full 87 = .ok (.iadd, 1) := by decide +kernel
theorem dX7_full_88 : decode cX7_full 88 = .ok (.invokevirtual 146, 3) := by decide +kernel
theorem dX7_full_91 : decode cX7_full 91 = .ok (.return_, 1) := by decide +kernel
theorem dX7_whole_0 : decode cX7_whole 0 = .ok (.iload_n 2, 1) := by decide +kernel
theorem dX7_whole_1 : decode cX7_whole 1 = .ok (.iconst 1, 1) := by decide +kernel
theorem dX7_whole_2 : decode cX7_whole 2 = .ok (.if_icmp .ne 48, 3) := by decide +kernel
theorem dX7_whole_5 : decode cX7_whole 5 = .ok (.aload_n 0, 1) := by decide +kernel
theorem dX7_whole_6 : decode cX7_whole 6 = .ok (.getfield 53, 3) := by decide +kernel
theorem dX7_whole_9 : decode cX7_whole 9 = .ok (.iload_n 1, 1) := by decide +kernel
theorem dX7_whole_10 : decode cX7_whole 10 = .ok (.iaload, 1) := by decide +kernel
theorem dX7_whole_11 : decode cX7_whole 11 = .ok (.ifCond .ge 39, 3) := by decide +kernel
theorem dX7_whole_14 : decode cX7_whole 14 = .ok (.aload_n 0, 1) := by decide +kernel
theorem dX7_whole_15 : decode cX7_whole 15 = .ok (.getfield 59, 3) := by decide +kernel
theorem dX7_whole_18 : decode cX7_whole 18 = .ok (.iload_n 1, 1) := by decide +kernel
theorem dX7_whole_19 : decode cX7_whole 19 = .ok (.iaload, 1) := by decide +kernel
theorem dX7_whole_20 : decode cX7_whole 20 = .ok (.ifCond .ne 30, 3) := by decide +kernel
theorem dX7_whole_23 : decode cX7_whole 23 = .ok (.aload_n 0, 1) := by decide +kernel
theorem dX7_whole_24 : decode cX7_whole 24 = .ok (.getfield 65, 3) := by decide +kernel
theorem dX7_whole_27 : decode cX7_whole 27 = .ok (.iload_n 1, 1) := by decide +kernel
theorem dX7_whole_28 : decode cX7_whole 28 = .ok (.iaload, 1) := by decide +kernel
theorem dX7_whole_29 : decode cX7_whole 29 = .ok (.ifCond .ne 21, 3) := by decide +kernel
theorem dX7_whole_32 : decode cX7_whole 32 = .ok (.aload_n 0, 1) := by decide +kernel
theorem dX7_whole_33 : decode cX7_whole 33 = .ok (.getfield 62, 3) := by decide +kernel
theorem dX7_whole_36 : decode cX7_whole 36 = .ok (.iload_n 1, 1) := by decide +kernel
theorem dX7_whole_37 : decode cX7_whole 37 = .ok (.iaload, 1) := by decide +kernel
theorem dX7_whole_38 : decode cX7_whole 38 = .ok (.ifCond .ge 12, 3) := by decide +kernel
theorem dX7_whole_41 : decode cX7_whole 41 = .ok (.aload_n 0, 1) := by decide +kernel
theorem dX7_whole_42 : decode cX7_whole 42 = .ok (.getfield 62, 3) := by decide +kernel
theorem dX7_whole_45 : decode cX7_whole 45 = .ok (.iload_n 1, 1) := by decide +kernel
theorem dX7_whole_46 : decode cX7_whole 46 = .ok (.iconst 2, 1) := by decide +kernel
theorem dX7_whole_47 : decode cX7_whole 47 = .ok (.iastore, 1) := by decide +kernel
theorem dX7_whole_48 : decode cX7_whole 48 = .ok (.iconst 1, 1) := by decide +kernel
theorem dX7_whole_49 : decode cX7_whole 49 = .ok (.ireturn, 1) := by decide +kernel
theorem dX7_whole_50 : decode cX7_whole 50 = .ok (.iconst 0, 1) := by decide +kernel
theorem dX7_whole_51 : decode cX7_whole 51 = .ok (.istore_n 3, 1) := by decide +kernel
theorem dX7_whole_52 : decode cX7_whole 52 = .ok (.iload_n 3, 1) := by decide +kernel
theorem dX7_whole_53 : decode cX7_whole 53 = .ok (.iload_n 2, 1) := by decide +kernel
theorem dX7_whole_54 : decode cX7_whole 54 = .ok (.if_icmp .ge 23, 3) := by decide +kernel
theorem dX7_whole_57 : decode cX7_whole 57 = .ok (.aload_n 0, 1) := by decide +kernel
theorem dX7_whole_58 : decode cX7_whole 58 = .ok (.getfield 84, 3) := by decide +kernel
theorem dX7_whole_61 : decode cX7_whole 61 = .ok (.iload_n 3, 1) := by decide +kernel
theorem dX7_whole_62 : decode cX7_whole 62 = .ok (.aload_n 0, 1) := by decide +kernel
theorem dX7_whole_63 : decode cX7_whole 63 = .ok (.getfield 62, 3) := by decide +kernel
theorem dX7_whole_66 : decode cX7_whole 66 = .ok (.iload_n 1, 1) := by decide +kernel
theorem dX7_whole_67 : decode cX7_whole 67 = .ok (.iload_n 3, 1) := by decide +kernel
theorem dX7_whole_68 : decode cX7_whole 68 = .ok (.iadd, 1) := by decide +kernel
theorem dX7_whole_69 : decode cX7_whole 69 = .ok (.iaload, 1) := by decide +kernel
theorem dX7_whole_70 : decode cX7_whole 70 = .ok (.iastore, 1) := by decide +kernel
theorem dX7_whole_71 : decode cX7_whole 71 = .ok (.iinc 3 1, 3) := by decide +kernel
theorem dX7_whole_74 : decode cX7_whole 74 = .ok (.goto (-22), 3) := by decide +kernel
theorem dX7_whole_77 : decode cX7_whole 77 = .ok (.aload_n 0, 1) := by decide +kernel
theorem dX7_whole_78 : decode cX7_whole 78 = .ok (.iload_n 1, 1) := by decide +kernel
theorem dX7_whole_79 : decode cX7_whole 79 = .ok (.iload_n 2, 1) := by decide +kernel
theorem dX7_whole_80 : decode cX7_whole 80 = .ok (.invokevirtual 196, 3) := by decide +kernel
theorem dX7_whole_83 : decode cX7_whole 83 = .ok (.istore_n 3, 1) := by decide +kernel
theorem dX7_whole_84 : decode cX7_whole 84 = .ok (.iconst 0, 1) := by decide +kernel
theorem dX7_whole_85 : decode cX7_whole 85 = .ok (.istore 4, 2) := by decide +kernel
theorem dX7_whole_87 : decode cX7_whole 87 = .ok (.iload 4, 2) := by decide +kernel
theorem dX7_whole_89 : decode cX7_whole 89 = .ok (.iload_n 2, 1) := by decide +kernel
theorem dX7_whole_90 : decode cX7_whole 90 = .ok (.if_icmp .ge 29, 3) := by decide +kernel
theorem dX7_whole_93 : decode cX7_whole 93 = .ok (.iload_n 3, 1) := by decide +kernel
theorem dX7_whole_94 : decode cX7_whole 94 = .ok (.ifCond .eq 25, 3) := by decide +kernel
theorem dX7_whole_97 : decode cX7_whole 97 = .ok (.aload_n 0, 1) := by decide +kernel
theorem dX7_whole_98 : decode cX7_whole 98 = .ok (.getfield 62, 3) := by decide +kernel
theorem dX7_whole_101 : decode cX7_whole 101 = .ok (.iload_n 1, 1) := by decide +kernel
theorem dX7_whole_102 : decode cX7_whole 102 = .ok (.iload 4, 2) := by decide +kernel
theorem dX7_whole_104 : decode cX7_whole 104 = .ok (.iadd, 1) := by decide +kernel
theorem dX7_whole_105 : decode cX7_whole 105 = .ok (.aload_n 0, 1) := by decide +kernel
theorem dX7_whole_106 : decode cX7_whole 106 = .ok (.getfield 87, 3) := by decide +kernel
theorem dX7_whole_109 : decode cX7_whole 109 = .ok (.iload 4, 2) := by decide +kernel
theorem dX7_whole_111 : decode cX7_whole 111 = .ok (.iaload, 1) := by decide +kernel
theorem dX7_whole_112 : decode cX7_whole 112 = .ok (.iastore, 1) := by decide +kernel
theorem dX7_whole_113 : decode cX7_whole 113 = .ok (.iinc 4 1, 3) := by decide +kernel
theorem dX7_whole_116 : decode cX7_whole 116 = .ok (.goto (-29), 3) := by decide +kernel
theorem dX7_whole_119 : decode cX7_whole 119 = .ok (.iload_n 3, 1) := by decide +kernel
theorem dX7_whole_120 : decode cX7_whole 120 = .ok (.ireturn, 1) := by decide +kernel
theorem dX7_readBar_0 : decode cX7_readBar 0 = .ok (.aload_n 0, 1) := by decide +kernel
theorem dX7_readBar_1 : decode cX7_readBar 1 = .ok (.getfield 32, 3) := by decide +kernel
theorem dX7_readBar_4 : decode cX7_readBar 4 = .ok (.iconst 1, 1) := by decide +kernel
theorem dX7_readBar_5 : decode cX7_readBar 5 = .ok (.iaload, 1) := by decide +kernel
theorem dX7_readBar_6 : decode cX7_readBar 6 = .ok (.istore_n 1, 1) := by decide +kernel
theorem dX7_readBar_7 : decode cX7_readBar 7 = .ok (.iload_n 1, 1) := by decide +kernel
theorem dX7_readBar_8 : decode cX7_readBar 8 = .ok (.bipush 60, 2) := by decide +kernel
theorem dX7_readBar_10 : decode cX7_readBar 10 = .ok (.if_icmp .ne 12, 3) := by decide +kernel
theorem dX7_readBar_13 : decode cX7_readBar 13 = .ok (.aload_n 0, 1) := by decide +kernel
theorem dX7_readBar_14 : decode cX7_readBar 14 = .ok (.aload_n 0, 1) := by decide +kernel
theorem dX7_readBar_15 : decode cX7_readBar 15 = .ok (.getfield 130, 3) := by decide +kernel
theorem dX7_readBar_18 : decode cX7_readBar 18 = .ok (.invokevirtual 146, 3) := by decide +kernel
theorem dX7_readBar_21 : decode cX7_readBar 21 = .ok (.return_, 1) := by decide +kernel
theorem dX7_readBar_22 : decode cX7_readBar 22 = .ok (.bipush 60, 2) := by decide +kernel
theorem dX7_readBar_24 : decode cX7_readBar 24 = .ok (.iload_n 1, 1) := by decide +kernel
theorem dX7_readBar_25 : decode cX7_readBar 25 = .ok (.iadd, 1) := by decide +kernel
theorem dX7_readBar_26 : decode cX7_readBar 26 = .ok (.istore_n 2, 1) := by decide +kernel
theorem dX7_readBar_27 : decode cX7_readBar 27 = .ok (.aload_n 0, 1) := by decide +kernel
theorem dX7_readBar_28 : decode cX7_readBar 28 = .ok (.getfield 41, 3) := by decide +kernel
theorem dX7_readBar_31 : decode cX7_readBar 31 = .ok (.iload_n 2, 1) := by decide +kernel
theorem dX7_readBar_32 : decode cX7_readBar 32 = .ok (.iconst 0, 1) := by decide +kernel
theorem dX7_readBar_33 : decode cX7_readBar 33 = .ok (.iastore, 1) := by decide +kernel
theorem dX7_readBar_34 : decode cX7_readBar 34 = .ok (.aload_n 0, 1) := by decide +kernel
theorem dX7_readBar_35 : decode cX7_readBar 35 = .ok (.getfield 44, 3) := by decide +kernel
theorem dX7_readBar_38 : decode cX7_readBar 38 = .ok (.iload_n 2, 1) := by decide +kernel
theorem dX7_readBar_39 : decode cX7_readBar 39 = .ok (.iconst 0, 1) := by decide +kernel
theorem dX7_readBar_40 : decode cX7_readBar 40 = .ok (.iastore, 1) := by decide +kernel
theorem dX7_readBar_41 : decode cX7_readBar 41 = .ok (.aload_n 0, 1) := by decide +kernel
theorem dX7_readBar_42 : decode cX7_readBar 42 = .ok (.aload_n 0, 1) := by decide +kernel
theorem dX7_readBar_43 : decode cX7_readBar 43 = .ok (.getfield 130, 3) := by decide +kernel
theorem dX7_readBar_46 : decode cX7_readBar 46 = .ok (.invokevirtual 133, 3) := by decide +kernel
theorem dX7_readBar_49 : decode cX7_readBar 49 = .ok (.bipush 54, 2) := by decide +kernel
theorem dX7_readBar_51 : decode cX7_readBar 51 = .ok (.if_icmp .ne 47, 3) := by decide +kernel
theorem dX7_readBar_54 : decode cX7_readBar 54 = .ok (.iload_n 1, 1) := by decide +kernel
theorem dX7_readBar_55 : decode cX7_readBar 55 = .ok (.ifCond .eq 10, 3) := by decide +kernel
theorem dX7_readBar_58 : decode cX7_readBar 58 = .ok (.aload_n 0, 1) := by decide +kernel
theorem dX7_readBar_59 : decode cX7_readBar 59 = .ok (.getfield 153, 3) := by decide +kernel
theorem dX7_readBar_62 : decode cX7_readBar 62 = .ok (.ifCond .eq 11, 3) := by decide +kernel
theorem dX7_readBar_65 : decode cX7_readBar 65 = .ok (.aload_n 0, 1) := by decide +kernel
theorem dX7_readBar_66 : decode cX7_readBar 66 = .ok (.aload_n 0, 1) := by decide +kernel
theorem dX7_readBar_67 : decode cX7_readBar 67 = .ok (.getfield 130, 3) := by decide +kernel
theorem dX7_readBar_70 : decode cX7_readBar 70 = .ok (.invokevirtual 146, 3) := by decide +kernel
theorem dX7_readBar_73 : decode cX7_readBar 73 = .ok (.aload_n 0, 1) := by decide +kernel
theorem dX7_readBar_74 : decode cX7_readBar 74 = .ok (.getfield 41, 3) := by decide +kernel
theorem dX7_readBar_77 : decode cX7_readBar 77 = .ok (.iload_n 2, 1) := by decide +kernel
theorem dX7_readBar_78 : decode cX7_readBar 78 = .ok (.iconst 1, 1) := by decide +kernel
theorem dX7_readBar_79 : decode cX7_readBar 79 = .ok (.iastore, 1) := by decide +kernel
theorem dX7_readBar_80 : decode cX7_readBar 80 = .ok (.aload_n 0, 1) := by decide +kernel
theorem dX7_readBar_81 : decode cX7_readBar 81 = .ok (.iconst 1, 1) := by decide +kernel
theorem dX7_readBar_82 : decode cX7_readBar 82 = .ok (.putfield 157, 3) := by decide +kernel
theorem dX7_readBar_85 : decode cX7_readBar 85 = .ok (.aload_n 0, 1) := by decide +kernel
theorem dX7_readBar_86 : decode cX7_readBar 86 = .ok (.dup, 1) := by decide +kernel
theorem dX7_readBar_87 : decode cX7_readBar 87 = .ok (.getfield 130, 3) := by decide +kernel
theorem dX7_readBar_90 : decode cX7_readBar 90 = .ok (.iconst 1, 1) := by decide +kernel
theorem dX7_readBar_91 : decode cX7_readBar 91 = .ok (.iadd, 1) := by decide +kernel
theorem dX7_readBar_92 : decode cX7_readBar 92 = .ok (.putfield 130, 3) := by decide +kernel
theorem dX7_readBar_95 : decode cX7_readBar 95 = .ok (.goto 162, 3) := by decide +kernel
theorem dX7_readBar_98 : decode cX7_readBar 98 = .ok (.iconst 1, 1) := by decide +kernel
theorem dX7_readBar_99 : decode cX7_readBar 99 = .ok (.istore_n 3, 1) := by decide +kernel
theorem dX7_readBar_100 : decode cX7_readBar 100 = .ok (.iload_n 3, 1) := by decide +kernel
theorem dX7_readBar_101 : decode cX7_readBar 101 = .ok (.ifCond .eq 132, 3) := by decide +kernel
theorem dX7_readBar_104 : decode cX7_readBar 104 = .ok (.aload_n 0, 1) := by decide +kernel
theorem dX7_readBar_105 : decode cX7_readBar 105 = .ok (.getfield 120, 3) := by decide +kernel
