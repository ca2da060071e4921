theorem dX3_readTie_33 : decode cX3_readTie 33 = .ok (.iconst 1, 1) := by decide +kernel
theorem dX3_readTie_34 : decode cX3_readTie 34 = .ok (.iastore, 1) := by decide +kernel
theorem dX3_readTie_35 : decode cX3_readTie 35 = .ok (.aload_n 0, 1) := by decide +kernel
theorem dX3_readTie_36 : decode cX3_readTie 36 = .ok (.dup, 1) := by decide +kernel
theorem dX3_readTie_37 : decode cX3_readTie 37 = .ok (.getfield 30, 3) := by decide +kernel
theorem dX3_readTie_40 : decode cX3_readTie 40 = .ok (.iconst 2, 1) := by decide +kernel
theorem dX3_readTie_41 : decode cX3_readTie 41 = .ok (.iadd, 1) := by decide +kernel
theorem dX3_readTie_42 : decode cX3_readTie 42 = .ok (.putfield 30, 3) := by decide +kernel
theorem dX3_readTie_45 : decode cX3_readTie 45 = .ok (.return_, 1) := by decide +kernel
theorem dX3_readSlur_0 : decode cX3_readSlur 0 = .ok (.aload_n 0, 1) := by decide +kernel
theorem dX3_readSlur_1 : decode cX3_readSlur 1 = .ok (.getfield 26, 3) := by decide +kernel
theorem dX3_readSlur_4 : decode cX3_readSlur 4 = .ok (.getfield 96, 3) := by decide +kernel
theorem dX3_readSlur_7 : decode cX3_readSlur 7 = .ok (.iconst 1, 1) := by decide +kernel
theorem dX3_readSlur_8 : decode cX3_readSlur 8 = .ok (.isub, 1) := by decide +kernel
theorem dX3_readSlur_9 : decode cX3_readSlur 9 = .ok (.istore_n 1, 1) := by decide +kernel
theorem dX3_readSlur_10 : decode cX3_readSlur 10 = .ok (.iload_n 1, 1) := by decide +kernel
theorem dX3_readSlur_11 : decode cX3_readSlur 11 = .ok (.ifCond .ge 4, 3) := by decide +kernel
theorem dX3_readSlur_14 : decode cX3_readSlur 14 = .ok (.return_, 1) := by decide +kernel
theorem dX3_readSlur_15 : decode cX3_readSlur 15 = .ok (.aload_n 0, 1) := by decide +kernel
theorem dX3_readSlur_16 : decode cX3_readSlur 16 = .ok (.getfield 34, 3) := by decide +kernel
theorem dX3_readSlur_19 : decode cX3_readSlur 19 = .ok (.ifCond .eq 32, 3) := by decide +kernel
theorem dX3_readSlur_22 : decode cX3_readSlur 22 = .ok (.aload_n 0, 1) := by decide +kernel
theorem dX3_readSlur_23 : decode cX3_readSlur 23 = .ok (.bipush 24, 2) := by decide +kernel
theorem dX3_readSlur_25 : decode cX3_readSlur 25 = .ok (.bipush 6, 2) := by decide +kernel
theorem dX3_readSlur_27 : decode cX3_readSlur 27 = .ok (.invokevirtual 65, 3) := by decide +kernel
theorem dX3_readSlur_30 : decode cX3_readSlur 30 = .ok (.ifCond .eq 21, 3) := by decide +kernel
theorem dX3_readSlur_33 : decode cX3_readSlur 33 = .ok (.aload_n 0, 1) := by decide +kernel
theorem dX3_readSlur_34 : decode cX3_readSlur 34 = .ok (.iconst 0, 1) := by decide +kernel
theorem dX3_readSlur_35 : decode cX3_readSlur 35 = .ok (.putfield 34, 3) := by decide +kernel
theorem dX3_readSlur_38 : decode cX3_readSlur 38 = .ok (.aload_n 0, 1) := by decide +kernel
theorem dX3_readSlur_39 : decode cX3_readSlur 39 = .ok (.dup, 1) := by decide +kernel
theorem dX3_readSlur_40 : decode cX3_readSlur 40 = .ok (.getfield 30, 3) := by decide +kernel
theorem dX3_readSlur_43 : decode cX3_readSlur 43 = .ok (.iconst 2, 1) := by decide +kernel
theorem dX3_readSlur_44 : decode cX3_readSlur 44 = .ok (.iadd, 1) := by decide +kernel
theorem dX3_readSlur_45 : decode cX3_readSlur 45 = .ok (.putfield 30, 3) := by decide +kernel
theorem dX3_readSlur_48 : decode cX3_readSlur 48 = .ok (.goto 52, 3) := by decide +kernel
theorem dX3_readSlur_51 : decode cX3_readSlur 51 = .ok (.aload_n 0, 1) := by decide +kernel
theorem dX3_readSlur_52 : decode cX3_readSlur 52 = .ok (.getfield 34, 3) := by decide +kernel
theorem dX3_readSlur_55 : decode cX3_readSlur 55 = .ok (.ifCond .eq 16, 3) := by decide +kernel
theorem dX3_readSlur_58 : decode cX3_readSlur 58 = .ok (.aload_n 0, 1) := by decide +kernel
theorem dX3_readSlur_59 : decode cX3_readSlur 59 = .ok (.getfield 26, 3) := by decide +kernel
theorem dX3_readSlur_62 : decode cX3_readSlur 62 = .ok (.getfield 208, 3) := by decide +kernel
theorem dX3_readSlur_65 : decode cX3_readSlur 65 = .ok (.iload_n 1, 1) := by decide +kernel
theorem dX3_readSlur_66 : decode cX3_readSlur 66 = .ok (.iconst 1, 1) := by decide +kernel
theorem dX3_readSlur_67 : decode cX3_readSlur 67 = .ok (.iastore, 1) := by decide +kernel
theorem dX3_readSlur_68 : decode cX3_readSlur 68 = .ok (.goto 32, 3) := by decide +kernel
theorem dX3_readSlur_71 : decode cX3_readSlur 71 = .ok (.aload_n 0, 1) := by decide +kernel
theorem dX3_readSlur_72 : decode cX3_readSlur 72 = .ok (.invokevirtual 69, 3) := by decide +kernel
theorem dX3_readSlur_75 : decode cX3_readSlur 75 = .ok (.bipush 9, 2) := by decide +kernel
theorem dX3_readSlur_77 : decode cX3_readSlur 77 = .ok (.if_icmp .ne 23, 3) := by decide +kernel
theorem dX3_readSlur_80 : decode cX3_readSlur 80 = .ok (.aload_n 0, 1) := by decide +kernel
theorem dX3_readSlur_81 : decode cX3_readSlur 81 = .ok (.getfield 26, 3) := by decide +kernel
theorem dX3_readSlur_84 : decode cX3_readSlur 84 = .ok (.getfield 208, 3) := by decide +kernel
theorem dX3_readSlur_87 : decode cX3_readSlur 87 = .ok (.iload_n 1, 1) := by decide +kernel
theorem dX3_readSlur_88 : decode cX3_readSlur 88 = .ok (.iconst 1, 1) := by decide +kernel
theorem dX3_readSlur_89 : decode cX3_readSlur 89 = .ok (.iastore, 1) := by decide +kernel
theorem dX3_readSlur_90 : decode cX3_readSlur 90 = .ok (.aload_n 0, 1) := by decide +kernel
theorem dX3_readSlur_91 : decode cX3_readSlur 91 = .ok (.dup, 1) := by decide +kernel
theorem dX3_readSlur_92 : decode cX3_readSlur 92 = .ok (.getfield 30, 3) := by decide +kernel
theorem dX3_readSlur_95 : decode cX3_readSlur 95 = .ok (.iconst 1, 1) := by decide +kernel
theorem dX3_readSlur_96 : decode cX3_readSlur 96 = .ok (.iadd, 1) := by decide +kernel
theorem dX3_readSlur_97 : decode cX3_readSlur 97 = .ok (.putfield 30, 3) := by decide +kernel
theorem dX3_readSlur_100 : decode cX3_readSlur 100 = .ok (.return_, 1) := by decide +kernel
theorem dX4_init_0 : decode cX4_init 0 = .ok (.aload_n 0, 1) := by decide +kernel
theorem dX4_init_1 : decode cX4_init 1 = .ok (.invokespecial 3, 3) := by decide +kernel
theorem dX4_init_4 : decode cX4_init 4 = .ok (.aload_n 0, 1) := by decide +kernel
theorem dX4_init_5 : decode cX4_init 5 = .ok (.new 9, 3) := by decide +kernel
theorem dX4_init_8 : decode cX4_init 8 = .ok (.dup, 1) := by decide +kernel
theorem dX4_init_9 : decode cX4_init 9 = .ok (.invokespecial 11, 3) := by decide +kernel
theorem dX4_init_12 : decode cX4_init 12 = .ok (.putfield 12, 3) := by decide +kernel
theorem dX4_init_15 : decode cX4_init 15 = .ok (.aload_n 0, 1) := by decide +kernel
theorem dX4_init_16 : decode cX4_init 16 = .ok (.sipush 600, 3) := by decide +kernel
theorem dX4_init_19 : decode cX4_init 19 = .ok (.newarray .int, 2) := by decide +kernel
theorem dX4_init_21 : decode cX4_init 21 = .ok (.putfield 18, 3) := by decide +kernel
theorem dX4_init_24 : decode cX4_init 24 = .ok (.aload_n 0, 1) := by decide +kernel
theorem dX4_init_25 : decode cX4_init 25 = .ok (.sipush 180, 3) := by decide +kernel
theorem dX4_init_28 : decode cX4_init 28 = .ok (.newarray .boolean, 2) := by decide +kernel
theorem dX4_init_30 : decode cX4_init 30 = .ok (.putfield 22, 3) := by decide +kernel
theorem dX4_init_33 : decode cX4_init 33 = .ok (.aload_n 0, 1) := by decide +kernel
theorem dX4_init_34 : decode cX4_init 34 = .ok (.aload_n 1, 1) := by decide +kernel
theorem dX4_init_35 : decode cX4_init 35 = .ok (.putfield 26, 3) := by decide +kernel
theorem dX4_init_38 : decode cX4_init 38 = .ok (.return_, 1) := by decide +kernel
theorem dX4_run_0 : decode cX4_run 0 = .ok (.aload_n 0, 1) := by decide +kernel
theorem dX4_run_1 : decode cX4_run 1 = .ok (.aload_n 1, 1) := by decide +kernel
theorem dX4_run_2 : decode cX4_run 2 = .ok (.putfield 30, 3) := by decide +kernel
theorem dX4_run_5 : decode cX4_run 5 = .ok (.aload_n 0, 1) := by decide +kernel
theorem dX4_run_6 : decode cX4_run 6 = .ok (.aload_n 2, 1) := by decide +kernel
theorem dX4_run_7 : decode cX4_run 7 = .ok (.putfield 34, 3) := by decide +kernel
theorem dX4_run_10 : decode cX4_run 10 = .ok (.aload_n 0, 1) := by decide +kernel
theorem dX4_run_11 : decode cX4_run 11 = .ok (.getfield 34, 3) := by decide +kernel
theorem dX4_run_14 : decode cX4_run 14 = .ok (.iconst 0, 1) := by decide +kernel
theorem dX4_run_15 : decode cX4_run 15 = .ok (.putfield 38, 3) := by decide +kernel
theorem dX4_run_18 : decode cX4_run 18 = .ok (.aload_n 0, 1) := by decide +kernel
theorem dX4_run_19 : decode cX4_run 19 = .ok (.invokevirtual 44, 3) := by decide +kernel
theorem dX4_run_22 : decode cX4_run 22 = .ok (.aload_n 0, 1) := by decide +kernel
theorem dX4_run_23 : decode cX4_run 23 = .ok (.invokevirtual 47, 3) := by decide +kernel
theorem dX4_run_26 : decode cX4_run 26 = .ok (.aload_n 0, 1) := by decide +kernel
theorem dX4_run_27 : decode cX4_run 27 = .ok (.invokevirtual 50, 3) := by decide +kernel
theorem dX4_run_30 : decode cX4_run 30 = .ok (.iconst 0, 1) := by decide +kernel
theorem dX4_run_31 : decode cX4_run 31 = .ok (.istore 4, 2) := by decide +kernel
theorem dX4_run_33 : decode cX4_run 33 = .ok (.iconst 0, 1) := by decide +kernel
theorem dX4_run_34 : decode cX4_run 34 = .ok (.istore 5, 2) := by decide +kernel
theorem dX4_run_36 : decode cX4_run 36 = .ok (.iload 5, 2) := by decide +kernel
theorem dX4_run_38 : decode cX4_run 38 = .ok (.aload_n 0, 1) := by decide +kernel
theorem dX4_run_39 : decode cX4_run 39 = .ok (.getfield 30, 3) := by decide +kernel
theorem dX4_run_42 : decode cX4_run 42 = .ok (.getfield 53, 3) := by decide +kernel
theorem dX4_run_45 : decode cX4_run 45 = .ok (.if_icmp .ge 126, 3) := by decide +kernel
theorem dX4_run_48 : decode cX4_run 48 = .ok (.aload_n 0, 1) := by decide +kernel
theorem dX4_run_49 : decode cX4_run 49 = .ok (.getfield 34, 3) := by decide +kernel
theorem dX4_run_52 : decode cX4_run 52 = .ok (.getfield 38, 3) := by decide +kernel
theorem dX4_run_55 : decode cX4_run 55 = .ok (.istore 6, 2) := by decide +kernel
theorem dX4_run_57 : decode cX4_run 57 = .ok (.iload 5, 2) := by decide +kernel
theorem dX4_run_59 : decode cX4_run 59 = .ok (.ifCond .le 11, 3) := by decide +kernel
theorem dX4_run_62 : decode cX4_run 62 = .ok (.aload_n 0, 1) := by decide +kernel
theorem dX4_run_63 : decode cX4_run 63 = .ok (.getfield 34, 3) := by decide +kernel
theorem dX4_run_66 : decode cX4_run 66 = .ok (.iconst 0, 1) := by decide +kernel
theorem dX4_run_67 : decode cX4_run 67 = .ok (.invokevirtual 58, 3) := by decide +kernel
theorem dX4_run_70 : decode cX4_run 70 = .ok (.aload_n 0, 1) := by decide +kernel
theorem dX4_run_71 : decode cX4_run 71 = .ok (.getfield 12, 3) := by decide +kernel
theorem dX4_run_74 : decode cX4_run 74 = .ok (.aload_n 0, 1) := by decide +kernel
theorem dX4_run_75 : decode cX4_run 75 = .ok (.getfield 30, 3) := by decide +kernel
theorem dX4_run_78 : decode cX4_run 78 = .ok (.iload 5, 2) := by decide +kernel
theorem dX4_run_80 : decode cX4_run 80 = .ok (.invokevirtual 62, 3) := by decide +kernel
theorem dX4_run_83 : decode cX4_run 83 = .ok (.aload_n 0, 1) := by decide +kernel
theorem dX4_run_84 : decode cX4_run 84 = .ok (.iload 5, 2) := by decide +kernel
theorem dX4_run_86 : decode cX4_run 86 = .ok (.invokevirtual 66, 3) := by decide +kernel
theorem dX4_run_89 : decode cX4_run 89 = .ok (.iload 5, 2) := by decide +kernel
theorem dX4_run_91 : decode cX4_run 91 = .ok (.ifCond .le 54, 3) := by decide +kernel
theorem dX4_run_94 : decode cX4_run 94 = .ok (.aload_n 0, 1) := by decide +kernel
theorem dX4_run_95 : decode cX4_run 95 = .ok (.getfield 34, 3) := by decide +kernel
theorem dX4_run_98 : decode cX4_run 98 = .ok (.getfield 38, 3) := by decide +kernel
theorem dX4_run_101 : decode cX4_run 101 = .ok (.iload 4, 2) := by decide +kernel
theorem dX4_run_103 : decode cX4_run 103 = .ok (.isub, 1) := by decide +kernel
theorem dX4_run_104 : decode cX4_run 104 = .ok (.iload_n 3, 1) := by decide +kernel
theorem dX4_run_105 : decode cX4_run 105 = .ok (.if_icmp .le 40, 3) := by decide +kernel
theorem dX4_run_108 : decode cX4_run 108 = .ok (.aload_n 0, 1) := by decide +kernel
theorem dX4_run_109 : decode cX4_run 109 = .ok (.getfield 34, 3) := by decide +kernel
theorem dX4_run_112 : decode cX4_run 112 = .ok (.iload 6, 2) := by decide +kernel
theorem dX4_run_114 : decode cX4_run 114 = .ok (.putfield 38, 3) := by decide +kernel
theorem dX4_run_117 : decode cX4_run 117 = .ok (.iload 6, 2) := by decide +kernel
theorem dX4_run_119 : decode cX4_run 119 = .ok (.iconst 1, 1) := by decide +kernel
theorem dX4_run_120 : decode cX4_run 120 = .ok (.iadd, 1) := by decide +kernel
theorem dX4_run_121 : decode cX4_run 121 = .ok (.istore 4, 2) := by decide +kernel
theorem dX4_run_123 : decode cX4_run 123 = .ok (.aload_n 0, 1) := by decide +kernel
theorem dX4_run_124 : decode cX4_run 124 = .ok (.getfield 34, 3) := by decide +kernel
theorem dX4_run_127 : decode cX4_run 127 = .ok (.bipush 64, 2) := by decide +kernel
theorem dX4_run_129 : decode cX4_run 129 = .ok (.invokevirtual 58, 3) := by decide +kernel
theorem dX4_run_132 : decode cX4_run 132 = .ok (.aload_n 0, 1) := by decide +kernel
theorem dX4_run_133 : decode cX4_run 133 = .ok (.getfield 12, 3) := by decide +kernel
theorem dX4_run_136 : decode cX4_run 136 = .ok (.invokevirtual 69, 3) := by decide +kernel
theorem dX4_run_139 : decode cX4_run 139 = .ok (.aload_n 0, 1) := by decide +kernel
theorem dX4_run_140 : decode cX4_run 140 = .ok (.iload 5, 2) := by decide +kernel
theorem dX4_run_142 : decode cX4_run 142 = .ok (.invokevirtual 66, 3) := by decide +kernel
theorem dX4_run_145 : decode cX4_run 145 = .ok (.aload_n 0, 1) := by decide +kernel
theorem dX4_run_146 : decode cX4_run 146 = .ok (.getfield 34, 3) := by decide +kernel
theorem dX4_run_149 : decode cX4_run 149 = .ok (.getfield 38, 3) := by decide +kernel
theorem dX4_run_152 : decode cX4_run 152 = .ok (.iload 4, 2) := by decide +kernel
theorem dX4_run_154 : decode cX4_run 154 = .ok (.isub, 1) := by decide +kernel
theorem dX4_run_155 : decode cX4_run 155 = .ok (.iload_n 3, 1) := by decide +kernel
theorem dX4_run_156 : decode cX4_run 156 = .ok (.if_icmp .le 9, 3) := by decide +kernel
theorem dX4_run_159 : decode cX4_run 159 = .ok (.bipush (-10), 2) := by decide +kernel
theorem dX4_run_161 : decode cX4_run 161 = .ok (.iload 5, 2) := by decide +kernel
theorem dX4_run_163 : decode cX4_run 163 = .ok (.isub, 1) := by decide +kernel
theorem dX4_run_164 : decode cX4_run 164 = .ok (.ireturn, 1) := by decide +kernel
theorem dX4_run_165 : decode cX4_run 165 = .ok (.iinc 5 1, 3) := by decide +kernel
theorem dX4_run_168 : decode cX4_run 168 = .ok (.goto (-132), 3) := by decide +kernel
theorem dX4_run_171 : decode cX4_run 171 = .ok (.aload_n 0, 1) := by decide +kernel
theorem dX4_run_172 : decode cX4_run 172 = .ok (.getfield 34, 3) := by decide +kernel
theorem dX4_run_175 : decode cX4_run 175 = .ok (.getfield 38, 3) := by decide +kernel
theorem dX4_run_178 : decode cX4_run 178 = .ok (.sipush 4000, 3) := by decide +kernel
theorem dX4_run_181 : decode cX4_run 181 = .ok (.if_icmp .le 8, 3) := by decide +kernel
theorem dX4_run_184 : decode cX4_run 184 = .ok (.bipush (-4), 2) := by decide +kernel
theorem dX4_run_186 : decode cX4_run 186 = .ok (.goto 10, 3) := by decide +kernel
theorem dX4_run_189 : decode cX4_run 189 = .ok (.aload_n 0, 1) := by decide +kernel
theorem dX4_run_190 : decode cX4_run 190 = .ok (.getfield 34, 3) := by decide +kernel
theorem dX4_run_193 : decode cX4_run 193 = .ok (.getfield 38, 3) := by decide +kernel
theorem dX4_run_196 : decode cX4_run 196 = .ok (.ireturn, 1) := by decide +kernel
theorem dX4_markSigns_0 : decode cX4_markSigns 0 = .ok (.iconst 0, 1) := by decide +kernel
theorem dX4_markSigns_1 : decode cX4_markSigns 1 = .ok (.istore_n 1, 1) := by decide +kernel
theorem dX4_markSigns_2 : decode cX4_markSigns 2 = .ok (.iload_n 1, 1) := by decide +kernel
theorem dX4_markSigns_3 : decode cX4_markSigns 3 = .ok (.aload_n 0, 1) := by decide +kernel
theorem dX4_markSigns_4 : decode cX4_markSigns 4 = .ok (.getfield 30, 3) := by decide +kernel
theorem dX4_markSigns_7 : decode cX4_markSigns 7 = .ok (.getfield 53, 3) := by decide +kernel
theorem dX4_markSigns_10 : decode cX4_markSigns 10 = .ok (.if_icmp .ge 54, 3) := by decide +kernel
theorem dX4_markSigns_13 : decode cX4_markSigns 13 = .ok (.iconst 0, 1) := by decide +kernel
theorem dX4_markSigns_14 : decode cX4_markSigns 14 = .ok (.istore_n 2, 1) := by decide +kernel
theorem dX4_markSigns_15 : decode cX4_markSigns 15 = .ok (.iload_n 2, 1) := by decide +kernel
theorem dX4_markSigns_16 : decode cX4_markSigns 16 = .ok (.aload_n 0, 1) := by decide +kernel
theorem dX4_markSigns_17 : decode cX4_markSigns 17 = .ok (.getfield 30, 3) := by decide +kernel
theorem dX4_markSigns_20 : decode cX4_markSigns 20 = .ok (.getfield 72, 3) := by decide +kernel
theorem dX4_markSigns_23 : decode cX4_markSigns 23 = .ok (.iload_n 1, 1) := by decide +kernel
theorem dX4_markSigns_24 : decode cX4_markSigns 24 = .ok (.iaload, 1) := by decide +kernel
theorem dX4_markSigns_25 : decode cX4_markSigns 25 = .ok (.if_icmp .ge 33, 3) := by decide +kernel
theorem dX4_markSigns_28 : decode cX4_markSigns 28 = .ok (.iload_n 1, 1) := by decide +kernel
theorem dX4_markSigns_29 : decode cX4_markSigns 29 = .ok (.iconst 3, 1) := by decide +kernel
theorem dX4_markSigns_30 : decode cX4_markSigns 30 = .ok (.imul, 1) := by decide +kernel
theorem dX4_markSigns_31 : decode cX4_markSigns 31 = .ok (.iload_n 2, 1) := by decide +kernel
theorem dX4_markSigns_32 : decode cX4_markSigns 32 = .ok (.iadd, 1) := by decide +kernel
theorem dX4_markSigns_33 : decode cX4_markSigns 33 = .ok (.istore_n 3, 1) := by decide +kernel
theorem dX4_markSigns_34 : decode cX4_markSigns 34 = .ok (.aload_n 0, 1) := by decide +kernel
theorem dX4_markSigns_35 : decode cX4_markSigns 35 = .ok (.getfield 22, 3) := by decide +kernel
theorem dX4_markSigns_38 : decode cX4_markSigns 38 = .ok (.iload_n 3, 1) := by decide +kernel
theorem dX4_markSigns_39 : decode cX4_markSigns 39 = .ok (.aload_n 0, 1) := by decide +kernel
theorem dX4_markSigns_40 : decode cX4_markSigns 40 = .ok (.getfield 26, 3) := by decide +kernel
theorem dX4_markSigns_43 : decode cX4_markSigns 43 = .ok (.aload_n 0, 1) := by decide +kernel
theorem dX4_markSigns_44 : decode cX4_markSigns 44 = .ok (.getfield 30, 3) := by decide +kernel
theorem dX4_markSigns_47 : decode cX4_markSigns 47 = .ok (.iload_n 3, 1) := by decide +kernel
theorem dX4_markSigns_48 : decode cX4_markSigns 48 = .ok (.invokevirtual 75, 3) := by decide +kernel
theorem dX4_markSigns_51 : decode cX4_markSigns 51 = .ok (.bastore, 1) := by decide +kernel
theorem dX4_markSigns_52 : decode cX4_markSigns 52 = .ok (.iinc 2 1, 3) := by decide +kernel
theorem dX4_markSigns_55 : decode cX4_markSigns 55 = .ok (.goto (-40), 3) := by decide +kernel
theorem dX4_markSigns_58 : decode cX4_markSigns 58 = .ok (.iinc 1 1, 3) := by decide +kernel
theorem dX4_markSigns_61 : decode cX4_markSigns 61 = .ok (.goto (-59), 3) := by decide +kernel
theorem dX4_markSigns_64 : decode cX4_markSigns 64 = .ok (.return_, 1) := by decide +kernel
theorem dX4_markSlurs_0 : decode cX4_markSlurs 0 = .ok (.iconst 0, 1) := by decide +kernel
theorem dX4_markSlurs_1 : decode cX4_markSlurs 1 = .ok (.istore_n 1, 1) := by decide +kernel
theorem dX4_markSlurs_2 : decode cX4_markSlurs 2 = .ok (.iconst 0, 1) := by decide +kernel
theorem dX4_markSlurs_3 : decode cX4_markSlurs 3 = .ok (.istore_n 2, 1) := by decide +kernel
theorem dX4_markSlurs_4 : decode cX4_markSlurs 4 = .ok (.iload_n 2, 1) := by decide +kernel
theorem dX4_markSlurs_5 : decode cX4_markSlurs 5 = .ok (.aload_n 0, 1) := by decide +kernel
theorem dX4_markSlurs_6 : decode cX4_markSlurs 6 = .ok (.getfield 30, 3) := by decide +kernel
theorem dX4_markSlurs_9 : decode cX4_markSlurs 9 = .ok (.getfield 81, 3) := by decide +kernel
theorem dX4_markSlurs_12 : decode cX4_markSlurs 12 = .ok (.if_icmp .ge 55, 3) := by decide +kernel
theorem dX4_markSlurs_15 : decode cX4_markSlurs 15 = .ok (.aload_n 0, 1) := by decide +kernel
theorem dX4_markSlurs_16 : decode cX4_markSlurs 16 = .ok (.getfield 18, 3) := by decide +kernel
theorem dX4_markSlurs_19 : decode cX4_markSlurs 19 = .ok (.iload_n 2, 1) := by decide +kernel
theorem dX4_markSlurs_20 : decode cX4_markSlurs 20 = .ok (.aload_n 0, 1) := by decide +kernel
theorem dX4_markSlurs_21 : decode cX4_markSlurs 21 = .ok (.getfield 30, 3) := by decide +kernel
theorem dX4_markSlurs_24 : decode cX4_markSlurs 24 = .ok (.getfield 84, 3) := by decide +kernel
theorem dX4_markSlurs_27 : decode cX4_markSlurs 27 = .ok (.iload_n 2, 1) := by decide +kernel
theorem dX4_markSlurs_28 : decode cX4_markSlurs 28 = .ok (.iaload, 1) := by decide +kernel
theorem dX4_markSlurs_29 : decode cX4_markSlurs 29 = .ok (.iconst 1, 1) := by decide +kernel
theorem dX4_markSlurs_30 : decode cX4_markSlurs 30 = .ok (.if_icmp .ne 7, 3) := by decide +kernel
theorem dX4_markSlurs_33 : decode cX4_markSlurs 33 = .ok (.iconst 1, 1) := by decide +kernel
theorem dX4_markSlurs_34 : decode cX4_markSlurs 34 = .ok (.goto 4, 3) := by decide +kernel
theorem dX4_markSlurs_37 : decode cX4_markSlurs 37 = .ok (.iconst 0, 1) := by decide +kernel
theorem dX4_markSlurs_38 : decode cX4_markSlurs 38 = .ok (.iastore, 1) := by decide +kernel
theorem dX4_markSlurs_39 : decode cX4_markSlurs 39 = .ok (.aload_n 0, 1) := by decide +kernel
theorem dX4_markSlurs_40 : decode cX4_markSlurs 40 = .ok (.getfield 30, 3) := by decide +kernel
theorem dX4_markSlurs_43 : decode cX4_markSlurs 43 = .ok (.getfield 84, 3) := by decide +kernel
theorem dX4_markSlurs_46 : decode cX4_markSlurs 46 = .ok (.iload_n 2, 1) := by decide +kernel
theorem dX4_markSlurs_47 : decode cX4_markSlurs 47 = .ok (.iaload, 1) := by decide +kernel
theorem dX4_markSlurs_48 : decode cX4_markSlurs 48 = .ok (.ifCond .ne 13, 3) := by decide +kernel
theorem dX4_markSlurs_51 : decode cX4_markSlurs 51 = .ok (.aload_n 0, 1) := by decide +kernel
theorem dX4_markSlurs_52 : decode cX4_markSlurs 52 = .ok (.iload_n 1, 1) := by decide +kernel
theorem dX4_markSlurs_53 : decode cX4_markSlurs 53 = .ok (.iload_n 2, 1) := by decide +kernel
theorem dX4_markSlurs_54 : decode cX4_markSlurs 54 = .ok (.invokevirtual 87, 3) := by decide +kernel
theorem dX4_markSlurs_57 : decode cX4_markSlurs 57 = .ok (.iload_n 2, 1) := by decide +kernel
theorem dX4_markSlurs_58 : decode cX4_markSlurs 58 = .ok (.iconst 1, 1) := by decide +kernel
theorem dX4_markSlurs_59 : decode cX4_markSlurs 59 = .ok (.iadd, 1) := by decide +kernel
theorem dX4_markSlurs_60 : decode cX4_markSlurs 60 = .ok (.istore_n 1, 1) := by decide +kernel
theorem dX4_markSlurs_61 : decode cX4_markSlurs 61 = .ok (.iinc 2 1, 3) := by decide +kernel
theorem dX4_markSlurs_64 : decode cX4_markSlurs 64 = .ok (.goto (-60), 3) := by decide +kernel
theorem dX4_markSlurs_67 : decode cX4_markSlurs 67 = .ok (.return_, 1) := by decide +kernel
theorem dX4_markRow_0 : decode cX4_markRow 0 = .ok (.iload_n 2, 1) := by decide +kernel
theorem dX4_markRow_1 : decode cX4_markRow 1 = .ok (.iload_n 1, 1) := by decide +kernel
theorem dX4_markRow_2 : decode cX4_markRow 2 = .ok (.isub, 1) := by decide +kernel
theorem dX4_markRow_3 : decode cX4_markRow 3 = .ok (.iconst 1, 1) := by decide +kernel
theorem dX4_markRow_4 : decode cX4_markRow 4 = .ok (.iadd, 1) := by decide +kernel
theorem dX4_markRow_5 : decode cX4_markRow 5 = .ok (.iconst 5, 1) := by decide +kernel
theorem dX4_markRow_6 : decode cX4_markRow 6 = .ok (.if_icmp .lt 12, 3) := by decide +kernel
theorem dX4_markRow_9 : decode cX4_markRow 9 = .ok (.aload_n 0, 1) := by decide +kernel
theorem dX4_markRow_10 : decode cX4_markRow 10 = .ok (.iload_n 1, 1) := by decide +kernel
theorem dX4_markRow_11 : decode cX4_markRow 11 = .ok (.iload_n 2, 1) := by decide +kernel
theorem dX4_markRow_12 : decode cX4_markRow 12 = .ok (.invokevirtual 91, 3) := by decide +kernel
theorem dX4_markRow_15 : decode cX4_markRow 15 = .ok (.ifCond .eq 4, 3) := by decide +kernel
theorem dX4_markRow_18 : decode cX4_markRow 18 = .ok (.return_, 1) := by decide +kernel
theorem dX4_markRow_19 : decode cX4_markRow 19 = .ok (.iload_n 1, 1) := by decide +kernel
theorem dX4_markRow_20 : decode cX4_markRow 20 = .ok (.istore_n 3, 1) := by decide +kernel
theorem dX4_markRow_21 : decode cX4_markRow 21 = .ok (.iload_n 3, 1) := by decide +kernel
theorem dX4_markRow_22 : decode cX4_markRow 22 = .ok (.iload_n 2, 1) := by decide +kernel
theorem dX4_markRow_23 : decode cX4_markRow 23 = .ok (.if_icmp .ge 16, 3) := by decide +kernel
theorem dX4_markRow_26 : decode cX4_markRow 26 = .ok (.aload_n 0, 1) := by decide +kernel
theorem dX4_markRow_27 : decode cX4_markRow 27 = .ok (.getfield 18, 3) := by decide +kernel
theorem dX4_markRow_30 : decode cX4_markRow 30 = .ok (.iload_n 3, 1) := by decide +kernel
theorem dX4_markRow_31 : decode cX4_markRow 31 = .ok (.iconst 0, 1) := by decide +kernel
theorem dX4_markRow_32 : decode cX4_markRow 32 = .ok (.iastore, 1) := by decide +kernel
theorem dX4_markRow_33 : decode cX4_markRow 33 = .ok (.iinc 3 1, 3) := by decide +kernel
theorem dX4_markRow_36 : decode cX4_markRow 36 = .ok (.goto (-15), 3) := by decide +kernel
theorem dX4_markRow_39 : decode cX4_markRow 39 = .ok (.aload_n 0, 1) := by decide +kernel
theorem dX4_markRow_40 : decode cX4_markRow 40 = .ok (.getfield 18, 3) := by decide +kernel
theorem dX4_markRow_43 : decode cX4_markRow 43 = .ok (.iload_n 1, 1) := by decide +kernel
theorem dX4_markRow_44 : decode cX4_markRow 44 = .ok (.iconst 2, 1) := by decide +kernel
theorem dX4_markRow_45 : decode cX4_markRow 45 = .ok (.iastore, 1) := by decide +kernel
theorem dX4_markRow_46 : decode cX4_markRow 46 = .ok (.aload_n 0, 1) := by decide +kernel
theorem dX4_markRow_47 : decode cX4_markRow 47 = .ok (.getfield 18, 3) := by decide +kernel
theorem dX4_markRow_50 : decode cX4_markRow 50 = .ok (.iload_n 2, 1) := by decide +kernel
theorem dX4_markRow_51 : decode cX4_markRow 51 = .ok (.iconst 3, 1) := by decide +kernel
theorem dX4_markRow_52 : decode cX4_markRow 52 = .ok (.iastore, 1) := by decide +kernel
theorem dX4_markRow_53 : decode cX4_markRow 53 = .ok (.return_, 1) := by decide +kernel
theorem dX4_isBroken_0 : decode cX4_isBroken 0 = .ok (.iload_n 1, 1) := by decide +kernel
theorem dX4_isBroken_1 : decode cX4_isBroken 1 = .ok (.istore_n 3, 1) := by decide +kernel
theorem dX4_isBroken_2 : decode cX4_isBroken 2 = .ok (.iload_n 3, 1) := by decide +kernel
theorem dX4_isBroken_3 : decode cX4_isBroken 3 = .ok (.iload_n 2, 1) := by decide +kernel
theorem dX4_isBroken_4 : decode cX4_isBroken 4 = .ok (.if_icmp .ge 68, 3) := by decide +kernel
theorem dX4_isBroken_7 : decode cX4_isBroken 7 = .ok (.aload_n 0, 1) := by decide +kernel
theorem dX4_isBroken_8 : decode cX4_isBroken 8 = .ok (.getfield 30, 3) := by decide +kernel
theorem dX4_isBroken_11 : decode cX4_isBroken 11 = .ok (.getfield 95, 3) := by decide +kernel
theorem dX4_isBroken_14 : decode cX4_isBroken 14 = .ok (.iload_n 3, 1) := by decide +kernel
theorem dX4_isBroken_15 : decode cX4_isBroken 15 = .ok (.iconst 1, 1) := by decide +kernel
theorem dX4_isBroken_16 : decode cX4_isBroken 16 = .ok (.iadd, 1) := by decide +kernel
theorem dX4_isBroken_17 : decode cX4_isBroken 17 = .ok (.iaload, 1) := by decide +kernel
theorem dX4_isBroken_18 : decode cX4_isBroken 18 = .ok (.aload_n 0, 1) := by decide +kernel
theorem dX4_isBroken_19 : decode cX4_isBroken 19 = .ok (.getfield 30, 3) := by decide +kernel
theorem dX4_isBroken_22 : decode cX4_isBroken 22 = .ok (.getfield 95, 3) := by decide +kernel
theorem dX4_isBroken_25 : decode cX4_isBroken 25 = .ok (.iload_n 3, 1) := by decide +kernel
theorem dX4_isBroken_26 : decode cX4_isBroken 26 = .ok (.iaload, 1) := by decide +kernel
theorem dX4_isBroken_27 : decode cX4_isBroken 27 = .ok (.isub, 1) := by decide +kernel
theorem dX4_isBroken_28 : decode cX4_isBroken 28 = .ok (.istore 4, 2) := by decide +kernel
theorem dX4_isBroken_30 : decode cX4_isBroken 30 = .ok (.iload 4, 2) := by decide +kernel
theorem dX4_isBroken_32 : decode cX4_isBroken 32 = .ok (.iconst 1, 1) := by decide +kernel
theorem dX4_isBroken_33 : decode cX4_isBroken 33 = .ok (.if_icmp .gt 31, 3) := by decide +kernel
theorem dX4_isBroken_36 : decode cX4_isBroken 36 = .ok (.iload 4, 2) := by decide +kernel
theorem dX4_isBroken_38 : decode cX4_isBroken 38 = .ok (.ifCond .ne 28, 3) := by decide +kernel
theorem dX4_isBroken_41 : decode cX4_isBroken 41 = .ok (.aload_n 0, 1) := by decide +kernel
theorem dX4_isBroken_42 : decode cX4_isBroken 42 = .ok (.getfield 30, 3) := by decide +kernel
theorem dX4_isBroken_45 : decode cX4_isBroken 45 = .ok (.getfield 98, 3) := by decide +kernel
theorem dX4_isBroken_48 : decode cX4_isBroken 48 = .ok (.iload_n 3, 1) := by decide +kernel
theorem dX4_isBroken_49 : decode cX4_isBroken 49 = .ok (.iconst 1, 1) := by decide +kernel
theorem dX4_isBroken_50 : decode cX4_isBroken 50 = .ok (.iadd, 1) := by decide +kernel
theorem dX4_isBroken_51 : decode cX4_isBroken 51 = .ok (.iaload, 1) := by decide +kernel
theorem dX4_isBroken_52 : decode cX4_isBroken 52 = .ok (.aload_n 0, 1) := by decide +kernel
theorem dX4_isBroken_53 : decode cX4_isBroken 53 = .ok (.getfield 30, 3) := by decide +kernel
theorem dX4_isBroken_56 : decode cX4_isBroken 56 = .ok (.getfield 98, 3) := by decide +kernel
theorem dX4_isBroken_59 : decode cX4_isBroken 59 = .ok (.iload_n 3, 1) := by decide +kernel
theorem dX4_isBroken_60 : decode cX4_isBroken 60 = .ok (.iaload, 1) := by decide +kernel
theorem dX4_isBroken_61 : decode cX4_isBroken 61 = .ok (.if_icmp .eq 5, 3) := by decide +kernel
theorem dX4_isBroken_64 : decode cX4_isBroken 64 = .ok (.iconst 1, 1) := by decide +kernel
theorem dX4_isBroken_65 : decode cX4_isBroken 65 = .ok (.ireturn, 1) := by decide +kernel
theorem dX4_isBroken_66 : decode cX4_isBroken 66 = .ok (.iinc 3 1, 3) := by decide +kernel
theorem dX4_isBroken_69 : decode cX4_isBroken 69 = .ok (.goto (-67), 3) := by decide +kernel
theorem dX4_isBroken_72 : decode cX4_isBroken 72 = .ok (.iconst 0, 1) := by decide +kernel
theorem dX4_isBroken_73 : decode cX4_isBroken 73 = .ok (.ireturn, 1) := by decide +kernel
theorem dX4_putTwo_0 : decode cX4_putTwo 0 = .ok (.aload_n 0, 1) := by decide +kernel
theorem dX4_putTwo_1 : decode cX4_putTwo 1 = .ok (.getfield 34, 3) := by decide +kernel
theorem dX4_putTwo_4 : decode cX4_putTwo 4 = .ok (.iload_n 1, 1) := by decide +kernel
theorem dX4_putTwo_5 : decode cX4_putTwo 5 = .ok (.invokevirtual 58, 3) := by decide +kernel
theorem dX4_putTwo_8 : decode cX4_putTwo 8 = .ok (.aload_n 0, 1) := by decide +kernel
theorem dX4_putTwo_9 : decode cX4_putTwo 9 = .ok (.getfield 34, 3) := by decide +kernel
theorem dX4_putTwo_12 : decode cX4_putTwo 12 = .ok (.iload_n 2, 1) := by decide +kernel
theorem dX4_putTwo_13 : decode cX4_putTwo 13 = .ok (.invokevirtual 58, 3) := by decide +kernel
theorem dX4_putTwo_16 : decode cX4_putTwo 16 = .ok (.return_, 1) := by decide +kernel
theorem dX4_putHand_0 : decode cX4_putHand 0 = .ok (.aload_n 0, 1) := by decide +kernel
theorem dX4_putHand_1 : decode cX4_putHand 1 = .ok (.getfield 30, 3) := by decide +kernel
theorem dX4_putHand_4 : decode cX4_putHand 4 = .ok (.getfield 101, 3) := by decide +kernel
theorem dX4_putHand_7 : decode cX4_putHand 7 = .ok (.ifCond .eq 27, 3) := by decide +kernel
theorem dX4_putHand_10 : decode cX4_putHand 10 = .ok (.aload_n 0, 1) := by decide +kernel
theorem dX4_putHand_11 : decode cX4_putHand 11 = .ok (.aload_n 0, 1) := by decide +kernel
theorem dX4_putHand_12 : decode cX4_putHand 12 = .ok (.getfield 30, 3) := by decide +kernel
theorem dX4_putHand_15 : decode cX4_putHand 15 = .ok (.getfield 101, 3) := by decide +kernel
theorem dX4_putHand_18 : decode cX4_putHand 18 = .ok (.iconst 2, 1) := by decide +kernel
theorem dX4_putHand_19 : decode cX4_putHand 19 = .ok (.if_icmp .ne 8, 3) := by decide +kernel
theorem dX4_putHand_22 : decode cX4_putHand 22 = .ok (.bipush 56, 2) := by decide +kernel
theorem dX4_putHand_24 : decode cX4_putHand 24 = .ok (.goto 5, 3) := by decide +kernel
theorem dX4_putHand_27 : decode cX4_putHand 27 = .ok (.bipush 40, 2) := by decide +kernel
theorem dX4_putHand_29 : decode cX4_putHand 29 = .ok (.bipush 28, 2) := by decide +kernel
theorem dX4_putHand_31 : decode cX4_putHand 31 = .ok (.invokevirtual 104, 3) := by decide +kernel
theorem dX4_putHand_34 : decode cX4_putHand 34 = .ok (.return_, 1) := by decide +kernel
theorem dX4_putBar_0 : decode cX4_putBar 0 = .ok (.aload_n 0, 1) := by decide +kernel
theorem dX4_putBar_1 : decode cX4_putBar 1 = .ok (.getfield 30, 3) := by decide +kernel
theorem dX4_putBar_4 : decode cX4_putBar 4 = .ok (.getfield 72, 3) := by decide +kernel
theorem dX4_putBar_7 : decode cX4_putBar 7 = .ok (.iload_n 1, 1) := by decide +kernel
theorem dX4_putBar_8 : decode cX4_putBar 8 = .ok (.iaload, 1) := by decide +kernel
theorem dX4_putBar_9 : decode cX4_putBar 9 = .ok (.ifCond .ne 12, 3) := by decide +kernel
theorem dX4_putBar_12 : decode cX4_putBar 12 = .ok (.aload_n 0, 1) := by decide +kernel
theorem dX4_putBar_13 : decode cX4_putBar 13 = .ok (.getfield 34, 3) := by decide +kernel
theorem dX4_putBar_16 : decode cX4_putBar 16 = .ok (.bipush 54, 2) := by decide +kernel
theorem dX4_putBar_18 : decode cX4_putBar 18 = .ok (.invokevirtual 58, 3) := by decide +kernel
theorem dX4_putBar_21 : decode cX4_putBar 21 = .ok (.iconst 0, 1) := by decide +kernel
theorem dX4_putBar_22 : decode cX4_putBar 22 = .ok (.istore_n 2, 1) := by decide +kernel
theorem dX4_putBar_23 : decode cX4_putBar 23 = .ok (.iload_n 2, 1) := by decide +kernel
theorem dX4_putBar_24 : decode cX4_putBar 24 = .ok (.aload_n 0, 1) := by decide +kernel
theorem dX4_putBar_25 : decode cX4_putBar 25 = .ok (.getfield 30, 3) := by decide +kernel
theorem dX4_putBar_28 : decode cX4_putBar 28 = .ok (.getfield 72, 3) := by decide +kernel
theorem dX4_putBar_31 : decode cX4_putBar 31 = .ok (.iload_n 1, 1) := by decide +kernel
theorem dX4_putBar_32 : decode cX4_putBar 32 = .ok (.iaload, 1) := by decide +kernel
theorem dX4_putBar_33 : decode cX4_putBar 33 = .ok (.if_icmp .ge 130, 3) := by decide +kernel
theorem dX4_putBar_36 : decode cX4_putBar 36 = .ok (.iload_n 2, 1) := by decide +kernel
theorem dX4_putBar_37 : decode cX4_putBar 37 = .ok (.ifCond .le 18, 3) := by decide +kernel
theorem dX4_putBar_40 : decode cX4_putBar 40 = .ok (.aload_n 0, 1) := by decide +kernel
theorem dX4_putBar_41 : decode cX4_putBar 41 = .ok (.bipush 35, 2) := by decide +kernel
theorem dX4_putBar_43 : decode cX4_putBar 43 = .ok (.bipush 28, 2) := by decide +kernel
theorem dX4_putBar_45 : decode cX4_putBar 45 = .ok (.invokevirtual 104, 3) := by decide +kernel
theorem dX4_putBar_48 : decode cX4_putBar 48 = .ok (.aload_n 0, 1) := by decide +kernel
theorem dX4_putBar_49 : decode cX4_putBar 49 = .ok (.getfield 12, 3) := by decide +kernel
theorem dX4_putBar_52 : decode cX4_putBar 52 = .ok (.invokevirtual 69, 3) := by decide +kernel
theorem dX4_putBar_55 : decode cX4_putBar 55 = .ok (.iload_n 1, 1) := by decide +kernel
theorem dX4_putBar_56 : decode cX4_putBar 56 = .ok (.iconst 3, 1) := by decide +kernel
theorem dX4_putBar_57 : decode cX4_putBar 57 = .ok (.imul, 1) := by decide +kernel
theorem dX4_putBar_58 : decode cX4_putBar 58 = .ok (.iload_n 2, 1) := by decide +kernel
theorem dX4_putBar_59 : decode cX4_putBar 59 = .ok (.iadd, 1) := by decide +kernel
theorem dX4_putBar_60 : decode cX4_putBar 60 = .ok (.istore_n 3, 1) := by decide +kernel
theorem dX4_putBar_61 : decode cX4_putBar 61 = .ok (.iconst 0, 1) := by decide +kernel
theorem dX4_putBar_62 : decode cX4_putBar 62 = .ok (.istore 4, 2) := by decide +kernel
theorem dX4_putBar_64 : decode cX4_putBar 64 = .ok (.iload 4, 2) := by decide +kernel
theorem dX4_putBar_66 : decode cX4_putBar 66 = .ok (.aload_n 0, 1) := by decide +kernel
theorem dX4_putBar_67 : decode cX4_putBar 67 = .ok (.getfield 30, 3) := by decide +kernel
theorem dX4_putBar_70 : decode cX4_putBar 70 = .ok (.getfield 107, 3) := by decide +kernel
theorem dX4_putBar_73 : decode cX4_putBar 73 = .ok (.iload_n 3, 1) := by decide +kernel
theorem dX4_putBar_74 : decode cX4_putBar 74 = .ok (.iaload, 1) := by decide +kernel
theorem dX4_putBar_75 : decode cX4_putBar 75 = .ok (.if_icmp .ge 82, 3) := by decide +kernel
theorem dX4_putBar_78 : decode cX4_putBar 78 = .ok (.aload_n 0, 1) := by decide +kernel
theorem dX4_putBar_79 : decode cX4_putBar 79 = .ok (.getfield 30, 3) := by decide +kernel
theorem dX4_putBar_82 : decode cX4_putBar 82 = .ok (.getfield 110, 3) := by decide +kernel
theorem dX4_putBar_85 : decode cX4_putBar 85 = .ok (.iload_n 3, 1) := by decide +kernel
theorem dX4_putBar_86 : decode cX4_putBar 86 = .ok (.iaload, 1) := by decide +kernel
theorem dX4_putBar_87 : decode cX4_putBar 87 = .ok (.iload 4, 2) := by decide +kernel
theorem dX4_putBar_89 : decode cX4_putBar 89 = .ok (.iadd, 1) := by decide +kernel
theorem dX4_putBar_90 : decode cX4_putBar 90 = .ok (.istore 5, 2) := by decide +kernel
theorem dX4_putBar_92 : decode cX4_putBar 92 = .ok (.aload_n 0, 1) := by decide +kernel
theorem dX4_putBar_93 : decode cX4_putBar 93 = .ok (.getfield 22, 3) := by decide +kernel
theorem dX4_putBar_96 : decode cX4_putBar 96 = .ok (.iload_n 3, 1) := by decide +kernel
theorem dX4_putBar_97 : decode cX4_putBar 97 = .ok (.baload, 1) := by decide +kernel
theorem dX4_putBar_98 : decode cX4_putBar 98 = .ok (.ifCond .eq 47, 3) := by decide +kernel
theorem dX4_putBar_101 : decode cX4_putBar 101 = .ok (.iload 4, 2) := by decide +kernel
theorem dX4_putBar_103 : decode cX4_putBar 103 = .ok (.ifCond .eq 28, 3) := by decide +kernel
theorem dX4_putBar_106 : decode cX4_putBar 106 = .ok (.aload_n 0, 1) := by decide +kernel
theorem dX4_putBar_107 : decode cX4_putBar 107 = .ok (.getfield 30, 3) := by decide +kernel
theorem dX4_putBar_110 : decode cX4_putBar 110 = .ok (.getfield 113, 3) := by decide +kernel
theorem dX4_putBar_113 : decode cX4_putBar 113 = .ok (.iload 5, 2) := by decide +kernel
theorem dX4_putBar_115 : decode cX4_putBar 115 = .ok (.iaload, 1) := by decide +kernel
theorem dX4_putBar_116 : decode cX4_putBar 116 = .ok (.aload_n 0, 1) := by decide +kernel
theorem dX4_putBar_117 : decode cX4_putBar 117 = .ok (.getfield 30, 3) := by decide +kernel
theorem dX4_putBar_120 : decode cX4_putBar 120 = .ok (.getfield 113, 3) := by decide +kernel
theorem dX4_putBar_123 : decode cX4_putBar 123 = .ok (.iload 5, 2) := by decide +kernel
theorem dX4_putBar_125 : decode cX4_putBar 125 = .ok (.iconst 1, 1) := by decide +kernel
theorem dX4_putBar_126 : decode cX4_putBar 126 = .ok (.isub, 1) := by decide +kernel
theorem dX4_putBar_127 : decode cX4_putBar 127 = .ok (.iaload, 1) := by decide +kernel
theorem dX4_putBar_128 : decode cX4_putBar 128 = .ok (.if_icmp .eq 17, 3) := by decide +kernel
theorem dX4_putBar_131 : decode cX4_putBar 131 = .ok (.aload_n 0, 1) := by decide +kernel
theorem dX4_putBar_132 : decode cX4_putBar 132 = .ok (.aload_n 0, 1) := by decide +kernel
theorem dX4_putBar_133 : decode cX4_putBar 133 = .ok (.getfield 30, 3) := by decide +kernel
theorem dX4_putBar_136 : decode cX4_putBar 136 = .ok (.getfield 113, 3) := by decide +kernel
theorem dX4_putBar_139 : decode cX4_putBar 139 = .ok (.iload 5, 2) := by decide +kernel
theorem dX4_putBar_141 : decode cX4_putBar 141 = .ok (.iaload, 1) := by decide +kernel
theorem dX4_putBar_142 : decode cX4_putBar 142 = .ok (.invokevirtual 116, 3) := by decide +kernel
theorem dX4_putBar_145 : decode cX4_putBar 145 = .ok (.aload_n 0, 1) := by decide +kernel
theorem dX4_putBar_146 : decode cX4_putBar 146 = .ok (.iload 5, 2) := by decide +kernel
theorem dX4_putBar_148 : decode cX4_putBar 148 = .ok (.invokevirtual 119, 3) := by decide +kernel
theorem dX4_putBar_151 : decode cX4_putBar 151 = .ok (.iinc 4 1, 3) := by decide +kernel
theorem dX4_putBar_154 : decode cX4_putBar 154 = .ok (.goto (-90), 3) := by decide +kernel
theorem dX4_putBar_157 : decode cX4_putBar 157 = .ok (.iinc 2 1, 3) := by decide +kernel
theorem dX4_putBar_160 : decode cX4_putBar 160 = .ok (.goto (-137), 3) := by decide +kernel
theorem dX4_putBar_163 : decode cX4_putBar 163 = .ok (.return_, 1) := by decide +kernel
theorem dX4_putSize_0 : decode cX4_putSize 0 = .ok (.aload_n 0, 1) := by decide +kernel
theorem dX4_putSize_1 : decode cX4_putSize 1 = .ok (.iload_n 1, 1) := by decide +kernel
theorem dX4_putSize_2 : decode cX4_putSize 2 = .ok (.ifCond .ne 8, 3) := by decide +kernel
theorem dX4_putSize_5 : decode cX4_putSize 5 = .ok (.bipush 24, 2) := by decide +kernel
theorem dX4_putSize_7 : decode cX4_putSize 7 = .ok (.goto 5, 3) := by decide +kernel
theorem dX4_putSize_10 : decode cX4_putSize 10 = .ok (.bipush 32, 2) := by decide +kernel
theorem dX4_putSize_12 : decode cX4_putSize 12 = .ok (.bipush 35, 2) := by decide +kernel
theorem dX4_putSize_14 : decode cX4_putSize 14 = .ok (.invokevirtual 104, 3) := by decide +kernel
theorem dX4_putSize_17 : decode cX4_putSize 17 = .ok (.aload_n 0, 1) := by decide +kernel
theorem dX4_putSize_18 : decode cX4_putSize 18 = .ok (.getfield 34, 3) := by decide +kernel
theorem dX4_putSize_21 : decode cX4_putSize 21 = .ok (.iconst 2, 1) := by decide +kernel
theorem dX4_putSize_22 : decode cX4_putSize 22 = .ok (.invokevirtual 58, 3) := by decide +kernel
theorem dX4_putSize_25 : decode cX4_putSize 25 = .ok (.return_, 1) := by decide +kernel
theorem dX4_putItem_0 : decode cX4_putItem 0 = .ok (.aload_n 0, 1) := by decide +kernel
theorem dX4_putItem_1 : decode cX4_putItem 1 = .ok (.getfield 18, 3) := by decide +kernel
theorem dX4_putItem_4 : decode cX4_putItem 4 = .ok (.iload_n 1, 1) := by decide +kernel
theorem dX4_putItem_5 : decode cX4_putItem 5 = .ok (.iaload, 1) := by decide +kernel
theorem dX4_putItem_6 : decode cX4_putItem 6 = .ok (.iconst 2, 1) := by decide +kernel
theorem dX4_putItem_7 : decode cX4_putItem 7 = .ok (.if_icmp .ne 10, 3) := by decide +kernel
theorem dX4_putItem_10 : decode cX4_putItem 10 = .ok (.aload_n 0, 1) := by decide +kernel
theorem dX4_putItem_11 : decode cX4_putItem 11 = .ok (.bipush 48, 2) := by decide +kernel
theorem dX4_putItem_13 : decode cX4_putItem 13 = .ok (.iconst 3, 1) := by decide +kernel
theorem dX4_putItem_14 : decode cX4_putItem 14 = .ok (.invokevirtual 104, 3) := by decide +kernel
theorem dX4_putItem_17 : decode cX4_putItem 17 = .ok (.aload_n 0, 1) := by decide +kernel
theorem dX4_putItem_18 : decode cX4_putItem 18 = .ok (.getfield 30, 3) := by decide +kernel
theorem dX4_putItem_21 : decode cX4_putItem 21 = .ok (.iload_n 1, 1) := by decide +kernel
theorem dX4_putItem_22 : decode cX4_putItem 22 = .ok (.invokevirtual 122, 3) := by decide +kernel
theorem dX4_putItem_25 : decode cX4_putItem 25 = .ok (.ifCond .eq 11, 3) := by decide +kernel
theorem dX4_putItem_28 : decode cX4_putItem 28 = .ok (.aload_n 0, 1) := by decide +kernel
theorem dX4_putItem_29 : decode cX4_putItem 29 = .ok (.iload_n 1, 1) := by decide +kernel
theorem dX4_putItem_30 : decode cX4_putItem 30 = .ok (.invokevirtual 126, 3) := by decide +kernel
theorem dX4_putItem_33 : decode cX4_putItem 33 = .ok (.goto 30, 3) := by decide +kernel
theorem dX4_putItem_36 : decode cX4_putItem 36 = .ok (.aload_n 0, 1) := by decide +kernel
theorem dX4_putItem_37 : decode cX4_putItem 37 = .ok (.getfield 34, 3) := by decide +kernel
theorem dX4_putItem_40 : decode cX4_putItem 40 = .ok (.getstatic 129, 3) := by decide +kernel
theorem dX4_putItem_43 : decode cX4_putItem 43 = .ok (.aload_n 0, 1) := by decide +kernel
theorem dX4_putItem_44 : decode cX4_putItem 44 = .ok (.getfield 30, 3) := by decide +kernel
theorem dX4_putItem_47 : decode cX4_putItem 47 = .ok (.getfield 132, 3) := by decide +kernel
theorem dX4_putItem_50 : decode cX4_putItem 50 = .ok (.iload_n 1, 1) := by decide +kernel
theorem dX4_putItem_51 : decode cX4_putItem 51 = .ok (.iaload, 1) := by decide +kernel
theorem dX4_putItem_52 : decode cX4_putItem 52 = .ok (.invokestatic 135, 3) := by decide +kernel
theorem dX4_putItem_55 : decode cX4_putItem 55 = .ok (.invokevirtual 58, 3) := by decide +kernel
theorem dX4_putItem_58 : decode cX4_putItem 58 = .ok (.aload_n 0, 1) := by decide +kernel
theorem dX4_putItem_59 : decode cX4_putItem 59 = .ok (.iload_n 1, 1) := by decide +kernel
theorem dX4_putItem_60 : decode cX4_putItem 60 = .ok (.invokevirtual 139, 3) := by decide +kernel
theorem dX4_putItem_63 : decode cX4_putItem 63 = .ok (.aload_n 0, 1) := by decide +kernel
theorem dX4_putItem_64 : decode cX4_putItem 64 = .ok (.getfield 18, 3) := by decide +kernel
theorem dX4_putItem_67 : decode cX4_putItem 67 = .ok (.iload_n 1, 1) := by decide +kernel
theorem dX4_putItem_68 : decode cX4_putItem 68 = .ok (.iaload, 1) := by decide +kernel
theorem dX4_putItem_69 : decode cX4_putItem 69 = .ok (.iconst 1, 1) := by decide +kernel
theorem dX4_putItem_70 : decode cX4_putItem 70 = .ok (.if_icmp .ne 12, 3) := by decide +kernel
theorem dX4_putItem_73 : decode cX4_putItem 73 = .ok (.aload_n 0, 1) := by decide +kernel
theorem dX4_putItem_74 : decode cX4_putItem 74 = .ok (.getfield 34, 3) := by decide +kernel
theorem dX4_putItem_77 : decode cX4_putItem 77 = .ok (.bipush 9, 2) := by decide +kernel
theorem dX4_putItem_79 : decode cX4_putItem 79 = .ok (.invokevirtual 58, 3) := by decide +kernel
theorem dX4_putItem_82 : decode cX4_putItem 82 = .ok (.aload_n 0, 1) := by decide +kernel
theorem dX4_putItem_83 : decode cX4_putItem 83 = .ok (.getfield 18, 3) := by decide +kernel
theorem dX4_putItem_86 : decode cX4_putItem 86 = .ok (.iload_n 1, 1) := by decide +kernel
theorem dX4_putItem_87 : decode cX4_putItem 87 = .ok (.iaload, 1) := by decide +kernel
theorem dX4_putItem_88 : decode cX4_putItem 88 = .ok (.iconst 3, 1) := by decide +kernel
theorem dX4_putItem_89 : decode cX4_putItem 89 = .ok (.if_icmp .ne 11, 3) := by decide +kernel
theorem dX4_putItem_92 : decode cX4_putItem 92 = .ok (.aload_n 0, 1) := by decide +kernel
theorem dX4_putItem_93 : decode cX4_putItem 93 = .ok (.bipush 24, 2) := by decide +kernel
theorem dX4_putItem_95 : decode cX4_putItem 95 = .ok (.bipush 6, 2) := by decide +kernel
theorem dX4_putItem_97 : decode cX4_putItem 97 = .ok (.invokevirtual 104, 3) := by decide +kernel
theorem dX4_putItem_100 : decode cX4_putItem 100 = .ok (.return_, 1) := by decide +kernel
theorem dX4_putNote_0 : decode cX4_putNote 0 = .ok (.aload_n 0, 1) := by decide +kernel
theorem dX4_putNote_1 : decode cX4_putNote 1 = .ok (.getfield 30, 3) := by decide +kernel
theorem dX4_putNote_4 : decode cX4_putNote 4 = .ok (.getfield 142, 3) := by decide +kernel
theorem dX4_putNote_7 : decode cX4_putNote 7 = .ok (.iload_n 1, 1) := by decide +kernel
theorem dX4_putNote_8 : decode cX4_putNote 8 = .ok (.iaload, 1) := by decide +kernel
theorem dX4_putNote_9 : decode cX4_putNote 9 = .ok (.istore_n 2, 1) := by decide +kernel
theorem dX4_putNote_10 : decode cX4_putNote 10 = .ok (.aload_n 0, 1) := by decide +kernel
theorem dX4_putNote_11 : decode cX4_putNote 11 = .ok (.aload_n 0, 1) := by decide +kernel
theorem dX4_putNote_12 : decode cX4_putNote 12 = .ok (.getfield 30, 3) := by decide +kernel
theorem dX4_putNote_15 : decode cX4_putNote 15 = .ok (.getfield 145, 3) := by decide +kernel
theorem dX4_putNote_18 : decode cX4_putNote 18 = .ok (.iload_n 1, 1) := by decide +kernel
theorem dX4_putNote_19 : decode cX4_putNote 19 = .ok (.iaload, 1) := by decide +kernel
theorem dX4_putNote_20 : decode cX4_putNote 20 = .ok (.invokevirtual 148, 3) := by decide +kernel
theorem dX4_putNote_23 : decode cX4_putNote 23 = .ok (.aload_n 0, 1) := by decide +kernel
theorem dX4_putNote_24 : decode cX4_putNote 24 = .ok (.getfield 12, 3) := by decide +kernel
theorem dX4_putNote_27 : decode cX4_putNote 27 = .ok (.iload_n 2, 1) := by decide +kernel
theorem dX4_putNote_28 : decode cX4_putNote 28 = .ok (.invokevirtual 151, 3) := by decide +kernel
theorem dX4_putNote_31 : decode cX4_putNote 31 = .ok (.ifCond .eq 22, 3) := by decide +kernel
theorem dX4_putNote_34 : decode cX4_putNote 34 = .ok (.aload_n 0, 1) := by decide +kernel
theorem dX4_putNote_35 : decode cX4_putNote 35 = .ok (.getfield 34, 3) := by decide +kernel
theorem dX4_putNote_38 : decode cX4_putNote 38 = .ok (.getstatic 154, 3) := by decide +kernel
theorem dX4_putNote_41 : decode cX4_putNote 41 = .ok (.iload_n 2, 1) := by decide +kernel
theorem dX4_putNote_42 : decode cX4_putNote 42 = .ok (.bipush 7, 2) := by decide +kernel
theorem dX4_putNote_44 : decode cX4_putNote 44 = .ok (.idiv, 1) := by decide +kernel
theorem dX4_putNote_45 : decode cX4_putNote 45 = .ok (.iconst 1, 1) := by decide +kernel
theorem dX4_putNote_46 : decode cX4_putNote 46 = .ok (.isub, 1) := by decide +kernel
theorem dX4_putNote_47 : decode cX4_putNote 47 = .ok (.invokestatic 135, 3) := by decide +kernel
theorem dX4_putNote_50 : decode cX4_putNote 50 = .ok (.invokevirtual 58, 3) := by decide +kernel
theorem dX4_putNote_53 : decode cX4_putNote 53 = .ok (.aload_n 0, 1) := by decide +kernel
theorem dX4_putNote_54 : decode cX4_putNote 54 = .ok (.getfield 12, 3) := by decide +kernel
theorem dX4_putNote_57 : decode cX4_putNote 57 = .ok (.iload_n 2, 1) := by decide +kernel
theorem dX4_putNote_58 : decode cX4_putNote 58 = .ok (.invokevirtual 157, 3) := by decide +kernel
theorem dX4_putNote_61 : decode cX4_putNote 61 = .ok (.aload_n 0, 1) := by decide +kernel
theorem dX4_putNote_62 : decode cX4_putNote 62 = .ok (.getfield 34, 3) := by decide +kernel
theorem dX4_putNote_65 : decode cX4_putNote 65 = .ok (.getstatic 160, 3) := by decide +kernel
theorem dX4_putNote_68 : decode cX4_putNote 68 = .ok (.iload_n 2, 1) := by decide +kernel
theorem dX4_putNote_69 : decode cX4_putNote 69 = .ok (.bipush 7, 2) := by decide +kernel
theorem dX4_putNote_71 : decode cX4_putNote 71 = .ok (.irem, 1) := by decide +kernel
theorem dX4_putNote_72 : decode cX4_putNote 72 = .ok (.invokestatic 135, 3) := by decide +kernel
theorem dX4_putNote_75 : decode cX4_putNote 75 = .ok (.getstatic 163, 3) := by decide +kernel
theorem dX4_putNote_78 : decode cX4_putNote 78 = .ok (.aload_n 0, 1) := by decide +kernel
theorem dX4_putNote_79 : decode cX4_putNote 79 = .ok (.getfield 30, 3) := by decide +kernel
theorem dX4_putNote_82 : decode cX4_putNote 82 = .ok (.getfield 132, 3) := by decide +kernel
theorem dX4_putNote_85 : decode cX4_putNote 85 = .ok (.iload_n 1, 1) := by decide +kernel
theorem dX4_putNote_86 : decode cX4_putNote 86 = .ok (.iaload, 1) := by decide +kernel
theorem dX4_putNote_87 : decode cX4_putNote 87 = .ok (.invokestatic 135, 3) := by decide +kernel
theorem dX4_putNote_90 : decode cX4_putNote 90 = .ok (.iadd, 1) := by decide +kernel
theorem dX4_putNote_91 : decode cX4_putNote 91 = .ok (.invokevirtual 58, 3) := by decide +kernel
theorem dX4_putNote_94 : decode cX4_putNote 94 = .ok (.aload_n 0, 1) := by decide +kernel
theorem dX4_putNote_95 : decode cX4_putNote 95 = .ok (.iload_n 1, 1) := by decide +kernel
theorem dX4_putNote_96 : decode cX4_putNote 96 = .ok (.invokevirtual 139, 3) := by decide +kernel
theorem dX4_putNote_99 : decode cX4_putNote 99 = .ok (.iconst 0, 1) := by decide +kernel
theorem dX4_putNote_100 : decode cX4_putNote 100 = .ok (.istore_n 3, 1) := by decide +kernel
theorem dX4_putNote_101 : decode cX4_putNote 101 = .ok (.iload_n 3, 1) := by decide +kernel
theorem dX4_putNote_102 : decode cX4_putNote 102 = .ok (.aload_n 0, 1) := by decide +kernel
theorem dX4_putNote_103 : decode cX4_putNote 103 = .ok (.getfield 30, 3) := by decide +kernel
theorem dX4_putNote_106 : decode cX4_putNote 106 = .ok (.getfield 166, 3) := by decide +kernel
theorem dX4_putNote_109 : decode cX4_putNote 109 = .ok (.iload_n 1, 1) := by decide +kernel
theorem dX4_putNote_110 : decode cX4_putNote 110 = .ok (.iaload, 1) := by decide +kernel
theorem dX4_putNote_111 : decode cX4_putNote 111 = .ok (.if_icmp .ge 48, 3) := by decide +kernel
theorem dX4_putNote_114 : decode cX4_putNote 114 = .ok (.aload_n 0, 1) := by decide +kernel
theorem dX4_putNote_115 : decode cX4_putNote 115 = .ok (.getfield 30, 3) := by decide +kernel
theorem dX4_putNote_118 : decode cX4_putNote 118 = .ok (.iload_n 1, 1) := by decide +kernel
theorem dX4_putNote_119 : decode cX4_putNote 119 = .ok (.iload_n 3, 1) := by decide +kernel
theorem dX4_putNote_120 : decode cX4_putNote 120 = .ok (.invokevirtual 169, 3) := by decide +kernel
theorem dX4_putNote_123 : decode cX4_putNote 123 = .ok (.istore 4, 2) := by decide +kernel
theorem dX4_putNote_125 : decode cX4_putNote 125 = .ok (.aload_n 0, 1) := by decide +kernel
theorem dX4_putNote_126 : decode cX4_putNote 126 = .ok (.iload 4, 2) := by decide +kernel
theorem dX4_putNote_128 : decode cX4_putNote 128 = .ok (.iconst 4, 1) := by decide +kernel
theorem dX4_putNote_129 : decode cX4_putNote 129 = .ok (.ishr, 1) := by decide +kernel
theorem dX4_putNote_130 : decode cX4_putNote 130 = .ok (.invokevirtual 148, 3) := by decide +kernel
theorem dX4_putNote_133 : decode cX4_putNote 133 = .ok (.aload_n 0, 1) := by decide +kernel
theorem dX4_putNote_134 : decode cX4_putNote 134 = .ok (.getfield 34, 3) := by decide +kernel
theorem dX4_putNote_137 : decode cX4_putNote 137 = .ok (.getstatic 173, 3) := by decide +kernel
theorem dX4_putNote_140 : decode cX4_putNote 140 = .ok (.iload 4, 2) := by decide +kernel
theorem dX4_putNote_142 : decode cX4_putNote 142 = .ok (.bipush 15, 2) := by decide +kernel
theorem dX4_putNote_144 : decode cX4_putNote 144 = .ok (.iand, 1) := by decide +kernel
theorem dX4_putNote_145 : decode cX4_putNote 145 = .ok (.iconst 2, 1) := by decide +kernel
theorem dX4_putNote_146 : decode cX4_putNote 146 = .ok (.isub, 1) := by decide +kernel
theorem dX4_putNote_147 : decode cX4_putNote 147 = .ok (.invokestatic 135, 3) := by decide +kernel
theorem dX4_putNote_150 : decode cX4_putNote 150 = .ok (.invokevirtual 58, 3) := by decide +kernel
theorem dX4_putNote_153 : decode cX4_putNote 153 = .ok (.iinc 3 1, 3) := by decide +kernel
theorem dX4_putNote_156 : decode cX4_putNote 156 = .ok (.goto (-55), 3) := by decide +kernel
theorem dX4_putNote_159 : decode cX4_putNote 159 = .ok (.aload_n 0, 1) := by decide +kernel
theorem dX4_putNote_160 : decode cX4_putNote 160 = .ok (.getfield 30, 3) := by decide +kernel
theorem dX4_putNote_163 : decode cX4_putNote 163 = .ok (.getfield 176, 3) := by decide +kernel
theorem dX4_putNote_166 : decode cX4_putNote 166 = .ok (.iload_n 1, 1) := by decide +kernel
theorem dX4_putNote_167 : decode cX4_putNote 167 = .ok (.iaload, 1) := by decide +kernel
theorem dX4_putNote_168 : decode cX4_putNote 168 = .ok (.iconst 1, 1) := by decide +kernel
theorem dX4_putNote_169 : decode cX4_putNote 169 = .ok (.if_icmp .ne 11, 3) := by decide +kernel
theorem dX4_putNote_172 : decode cX4_putNote 172 = .ok (.aload_n 0, 1) := by decide +kernel
theorem dX4_putNote_173 : decode cX4_putNote 173 = .ok (.bipush 8, 2) := by decide +kernel
theorem dX4_putNote_175 : decode cX4_putNote 175 = .ok (.bipush 9, 2) := by decide +kernel
theorem dX4_putNote_177 : decode cX4_putNote 177 = .ok (.invokevirtual 104, 3) := by decide +kernel
theorem dX4_putNote_180 : decode cX4_putNote 180 = .ok (.return_, 1) := by decide +kernel
theorem dX4_putSign_0 : decode cX4_putSign 0 = .ok (.iload_n 1, 1) := by decide +kernel
theorem dX4_putSign_1 : decode cX4_putSign 1 = .ok (.ifCond .le 19, 3) := by decide +kernel
theorem dX4_putSign_4 : decode cX4_putSign 4 = .ok (.aload_n 0, 1) := by decide +kernel
theorem dX4_putSign_5 : decode cX4_putSign 5 = .ok (.getfield 34, 3) := by decide +kernel
theorem dX4_putSign_8 : decode cX4_putSign 8 = .ok (.getstatic 179, 3) := by decide +kernel
theorem dX4_putSign_11 : decode cX4_putSign 11 = .ok (.iload_n 1, 1) := by decide +kernel
theorem dX4_putSign_12 : decode cX4_putSign 12 = .ok (.iconst 1, 1) := by decide +kernel
theorem dX4_putSign_13 : decode cX4_putSign 13 = .ok (.isub, 1) := by decide +kernel
theorem dX4_putSign_14 : decode cX4_putSign 14 = .ok (.invokestatic 135, 3) := by decide +kernel
theorem dX4_putSign_17 : decode cX4_putSign 17 = .ok (.invokevirtual 58, 3) := by decide +kernel
theorem dX4_putSign_20 : decode cX4_putSign 20 = .ok (.return_, 1) := by decide +kernel
theorem dX4_putDots_0 : decode cX4_putDots 0 = .ok (.iconst 0, 1) := by decide +kernel
theorem dX4_putDots_1 : decode cX4_putDots 1 = .ok (.istore_n 2, 1) := by decide +kernel
theorem dX4_putDots_2 : decode cX4_putDots 2 = .ok (.iload_n 2, 1) := by decide +kernel
theorem dX4_putDots_3 : decode cX4_putDots 3 = .ok (.aload_n 0, 1) := by decide +kernel
theorem dX4_putDots_4 : decode cX4_putDots 4 = .ok (.getfield 30, 3) := by decide +kernel
theorem dX4_putDots_7 : decode cX4_putDots 7 = .ok (.getfield 182, 3) := by decide +kernel
theorem dX4_putDots_10 : decode cX4_putDots 10 = .ok (.iload_n 1, 1) := by decide +kernel
theorem dX4_putDots_11 : decode cX4_putDots 11 = .ok (.iaload, 1) := by decide +kernel
theorem dX4_putDots_12 : decode cX4_putDots 12 = .ok (.if_icmp .ge 17, 3) := by decide +kernel
theorem dX4_putDots_15 : decode cX4_putDots 15 = .ok (.aload_n 0, 1) := by decide +kernel
theorem dX4_putDots_16 : decode cX4_putDots 16 = .ok (.getfield 34, 3) := by decide +kernel
theorem dX4_putDots_19 : decode cX4_putDots 19 = .ok (.iconst 4, 1) := by decide +kernel
theorem dX4_putDots_20 : decode cX4_putDots 20 = .ok (.invokevirtual 58, 3) := by decide +kernel
theorem dX4_putDots_23 : decode cX4_putDots 23 = .ok (.iinc 2 1, 3) := by decide +kernel
theorem dX4_putDots_26 : decode cX4_putDots 26 = .ok (.goto (-24), 3) := by decide +kernel
theorem dX4_putDots_29 : decode cX4_putDots 29 = .ok (.return_, 1) := by decide +kernel
theorem dX5_init_0 : decode cX5_init 0 = .ok (.aload_n 0, 1) := by decide +kernel
theorem dX5_init_1 : decode cX5_init 1 = .ok (.invokespecial 5, 3) := by decide +kernel
theorem dX5_init_4 : decode cX5_init 4 = .ok (.aload_n 0, 1) := by decide +kernel
theorem dX5_init_5 : decode cX5_init 5 = .ok (.bipush 40, 2) := by decide +kernel
theorem dX5_init_7 : decode cX5_init 7 = .ok (.newarray .int, 2) := by decide +kernel
theorem dX5_init_9 : decode cX5_init 9 = .ok (.putfield 11, 3) := by decide +kernel
theorem dX5_init_12 : decode cX5_init 12 = .ok (.aload_n 0, 1) := by decide +kernel
theorem dX5_init_13 : decode cX5_init 13 = .ok (.bipush 40, 2) := by decide +kernel
theorem dX5_init_15 : decode cX5_init 15 = .ok (.newarray .int, 2) := by decide +kernel
theorem dX5_init_17 : decode cX5_init 17 = .ok (.putfield 15, 3) := by decide +kernel
theorem dX5_init_20 : decode cX5_init 20 = .ok (.aload_n 0, 1) := by decide +kernel
theorem dX5_init_21 : decode cX5_init 21 = .ok (.sipush 11234, 3) := by decide +kernel
theorem dX5_init_24 : decode cX5_init 24 = .ok (.newarray .int, 2) := by decide +kernel
theorem dX5_init_26 : decode cX5_init 26 = .ok (.putfield 18, 3) := by decide +kernel
theorem dX5_init_29 : decode cX5_init 29 = .ok (.aload_n 0, 1) := by decide +kernel
theorem dX5_init_30 : decode cX5_init 30 = .ok (.sipush 137, 3) := by decide +kernel
theorem dX5_init_33 : decode cX5_init 33 = .ok (.newarray .int, 2) := by decide +kernel
theorem dX5_init_35 : decode cX5_init 35 = .ok (.putfield 21, 3) := by decide +kernel
theorem dX5_init_38 : decode cX5_init 38 = .ok (.return_, 1) := by decide +kernel
theorem dX5_settle_0 : decode cX5_settle 0 = .ok (.aload_n 1, 1) := by decide +kernel
theorem dX5_settle_1 : decode cX5_settle 1 = .ok (.getfield 24, 3) := by decide +kernel
theorem dX5_settle_4 : decode cX5_settle 4 = .ok (.iload_n 2, 1) := by decide +kernel
theorem dX5_settle_5 : decode cX5_settle 5 = .ok (.iaload, 1) := by decide +kernel
theorem dX5_settle_6 : decode cX5_settle 6 = .ok (.istore 4, 2) := by decide +kernel
theorem dX5_settle_8 : decode cX5_settle 8 = .ok (.aload_n 1, 1) := by decide +kernel
theorem dX5_settle_9 : decode cX5_settle 9 = .ok (.getfield 29, 3) := by decide +kernel
theorem dX5_settle_12 : decode cX5_settle 12 = .ok (.istore 5, 2) := by decide +kernel
theorem dX5_settle_14 : decode cX5_settle 14 = .ok (.iload_n 3, 1) := by decide +kernel
theorem dX5_settle_15 : decode cX5_settle 15 = .ok (.istore 6, 2) := by decide +kernel
theorem dX5_settle_17 : decode cX5_settle 17 = .ok (.iload 6, 2) := by decide +kernel
theorem dX5_settle_19 : decode cX5_settle 19 = .ok (.aload_n 1, 1) := by decide +kernel
theorem dX5_settle_20 : decode cX5_settle 20 = .ok (.getfield 33, 3) := by decide +kernel
theorem dX5_settle_23 : decode cX5_settle 23 = .ok (.iload_n 2, 1) := by decide +kernel
theorem dX5_settle_24 : decode cX5_settle 24 = .ok (.iaload, 1) := by decide +kernel
theorem dX5_settle_25 : decode cX5_settle 25 = .ok (.if_icmp .ge 23, 3) := by decide +kernel
theorem dX5_settle_28 : decode cX5_settle 28 = .ok (.iload 5, 2) := by decide +kernel
theorem dX5_settle_30 : decode cX5_settle 30 = .ok (.aload_n 1, 1) := by decide +kernel
theorem dX5_settle_31 : decode cX5_settle 31 = .ok (.iload 4, 2) := by decide +kernel
theorem dX5_settle_33 : decode cX5_settle 33 = .ok (.iload 6, 2) := by decide +kernel
theorem dX5_settle_35 : decode cX5_settle 35 = .ok (.iadd, 1) := by decide +kernel
theorem dX5_settle_36 : decode cX5_settle 36 = .ok (.invokevirtual 36, 3) := by decide +kernel
theorem dX5_settle_39 : decode cX5_settle 39 = .ok (.isub, 1) := by decide +kernel
theorem dX5_settle_40 : decode cX5_settle 40 = .ok (.istore 5, 2) := by decide +kernel
theorem dX5_settle_42 : decode cX5_settle 42 = .ok (.iinc 6 1, 3) := by decide +kernel
theorem dX5_settle_45 : decode cX5_settle 45 = .ok (.goto (-28), 3) := by decide +kernel
theorem dX5_settle_48 : decode cX5_settle 48 = .ok (.aload_n 0, 1) := by decide +kernel
theorem dX5_settle_49 : decode cX5_settle 49 = .ok (.aload_n 1, 1) := by decide +kernel
theorem dX5_settle_50 : decode cX5_settle 50 = .ok (.iload 4, 2) := by decide +kernel
theorem dX5_settle_52 : decode cX5_settle 52 = .ok (.iload_n 3, 1) := by decide +kernel
theorem dX5_settle_53 : decode cX5_settle 53 = .ok (.iload 5, 2) := by decide +kernel
theorem dX5_settle_55 : decode cX5_settle 55 = .ok (.invokevirtual 40, 3) := by decide +kernel
theorem dX5_settle_58 : decode cX5_settle 58 = .ok (.istore 6, 2) := by decide +kernel
theorem dX5_settle_60 : decode cX5_settle 60 = .ok (.iload 6, 2) := by decide +kernel
theorem dX5_settle_62 : decode cX5_settle 62 = .ok (.ifCond .ge 5, 3) := by decide +kernel
theorem dX5_settle_65 : decode cX5_settle 65 = .ok (.iconst 0, 1) := by decide +kernel
theorem dX5_settle_66 : decode cX5_settle 66 = .ok (.ireturn, 1) := by decide +kernel
theorem dX5_settle_67 : decode cX5_settle 67 = .ok (.iload_n 3, 1) := by decide +kernel
theorem dX5_settle_68 : decode cX5_settle 68 = .ok (.aload_n 1, 1) := by decide +kernel
theorem dX5_settle_69 : decode cX5_settle 69 = .ok (.getfield 33, 3) := by decide +kernel
theorem dX5_settle_72 : decode cX5_settle 72 = .ok (.iload_n 2, 1) := by decide +kernel
theorem dX5_settle_73 : decode cX5_settle 73 = .ok (.iaload, 1) := by decide +kernel
theorem dX5_settle_74 : decode cX5_settle 74 = .ok (.if_icmp .ge 15, 3) := by decide +kernel
theorem dX5_settle_77 : decode cX5_settle 77 = .ok (.aload_n 1, 1) := by decide +kernel
theorem dX5_settle_78 : decode cX5_settle 78 = .ok (.getfield 44, 3) := by decide +kernel
theorem dX5_settle_81 : decode cX5_settle 81 = .ok (.iload 4, 2) := by decide +kernel
theorem dX5_settle_83 : decode cX5_settle 83 = .ok (.iload_n 3, 1) := by decide +kernel
theorem dX5_settle_84 : decode cX5_settle 84 = .ok (.iadd, 1) := by decide +kernel
theorem dX5_settle_85 : decode cX5_settle 85 = .ok (.iaload, 1) := by decide +kernel
theorem dX5_settle_86 : decode cX5_settle 86 = .ok (.goto 4, 3) := by decide +kernel
theorem dX5_settle_89 : decode cX5_settle 89 = .ok (.iconst (-1), 1) := by decide +kernel
theorem dX5_settle_90 : decode cX5_settle 90 = .ok (.istore 7, 2) := by decide +kernel
theorem dX5_settle_92 : decode cX5_settle 92 = .ok (.aload_n 0, 1) := by decide +kernel
theorem dX5_settle_93 : decode cX5_settle 93 = .ok (.iload 6, 2) := by decide +kernel
theorem dX5_settle_95 : decode cX5_settle 95 = .ok (.iload 7, 2) := by decide +kernel
theorem dX5_settle_97 : decode cX5_settle 97 = .ok (.invokevirtual 47, 3) := by decide +kernel
theorem dX5_settle_100 : decode cX5_settle 100 = .ok (.aload_n 0, 1) := by decide +kernel
theorem dX5_settle_101 : decode cX5_settle 101 = .ok (.getfield 51, 3) := by decide +kernel
theorem dX5_settle_104 : decode cX5_settle 104 = .ok (.iconst 1, 1) := by decide +kernel
theorem dX5_settle_105 : decode cX5_settle 105 = .ok (.isub, 1) := by decide +kernel
theorem dX5_settle_106 : decode cX5_settle 106 = .ok (.istore 8, 2) := by decide +kernel
theorem dX5_settle_108 : decode cX5_settle 108 = .ok (.iload 8, 2) := by decide +kernel
theorem dX5_settle_110 : decode cX5_settle 110 = .ok (.ifCond .lt 17, 3) := by decide +kernel
theorem dX5_settle_113 : decode cX5_settle 113 = .ok (.aload_n 0, 1) := by decide +kernel
theorem dX5_settle_114 : decode cX5_settle 114 = .ok (.iload 8, 2) := by decide +kernel
theorem dX5_settle_116 : decode cX5_settle 116 = .ok (.iload 6, 2) := by decide +kernel
theorem dX5_settle_118 : decode cX5_settle 118 = .ok (.invokevirtual 54, 3) := by decide +kernel
theorem dX5_settle_121 : decode cX5_settle 121 = .ok (.iinc 8 (-1), 3) := by decide +kernel
theorem dX5_settle_124 : decode cX5_settle 124 = .ok (.goto (-16), 3) := by decide +kernel
theorem dX5_settle_127 : decode cX5_settle 127 = .ok (.aload_n 0, 1) := by decide +kernel
theorem dX5_settle_128 : decode cX5_settle 128 = .ok (.iload 6, 2) := by decide +kernel
theorem dX5_settle_130 : decode cX5_settle 130 = .ok (.invokevirtual 57, 3) := by decide +kernel
theorem dX5_settle_133 : decode cX5_settle 133 = .ok (.ireturn, 1) := by decide +kernel
theorem dX5_load_0 : decode cX5_load 0 = .ok (.aload_n 0, 1) := by decide +kernel
theorem dX5_load_1 : decode cX5_load 1 = .ok (.iload_n 3, 1) := by decide +kernel
theorem dX5_load_2 : decode cX5_load 2 = .ok (.bipush 40, 2) := by decide +kernel
theorem dX5_load_4 : decode cX5_load 4 = .ok (.invokestatic 61, 3) := by decide +kernel
theorem dX5_load_7 : decode cX5_load 7 = .ok (.putfield 51, 3) := by decide +kernel
theorem dX5_load_10 : decode cX5_load 10 = .ok (.iload 4, 2) := by decide +kernel
theorem dX5_load_12 : decode cX5_load 12 = .ok (.istore 5, 2) := by decide +kernel
theorem dX5_load_14 : decode cX5_load 14 = .ok (.iconst 0, 1) := by decide +kernel
theorem dX5_load_15 : decode cX5_load 15 = .ok (.istore 6, 2) := by decide +kernel
theorem dX5_load_17 : decode cX5_load 17 = .ok (.iload 6, 2) := by decide +kernel
theorem dX5_load_19 : decode cX5_load 19 = .ok (.aload_n 0, 1) := by decide +kernel
theorem dX5_load_20 : decode cX5_load 20 = .ok (.getfield 51, 3) := by decide +kernel
theorem dX5_load_23 : decode cX5_load 23 = .ok (.if_icmp .ge 50, 3) := by decide +kernel
theorem dX5_load_26 : decode cX5_load 26 = .ok (.aload_n 0, 1) := by decide +kernel
theorem dX5_load_27 : decode cX5_load 27 = .ok (.getfield 15, 3) := by decide +kernel
theorem dX5_load_30 : decode cX5_load 30 = .ok (.iload 6, 2) := by decide +kernel
theorem dX5_load_32 : decode cX5_load 32 = .ok (.aload_n 1, 1) := by decide +kernel
theorem dX5_load_33 : decode cX5_load 33 = .ok (.getfield 67, 3) := by decide +kernel
theorem dX5_load_36 : decode cX5_load 36 = .ok (.iload_n 2, 1) := by decide +kernel
theorem dX5_load_37 : decode cX5_load 37 = .ok (.iload 6, 2) := by decide +kernel
theorem dX5_load_39 : decode cX5_load 39 = .ok (.iadd, 1) := by decide +kernel
theorem dX5_load_40 : decode cX5_load 40 = .ok (.iaload, 1) := by decide +kernel
theorem dX5_load_41 : decode cX5_load 41 = .ok (.iconst 1, 1) := by decide +kernel
theorem dX5_load_42 : decode cX5_load 42 = .ok (.aload_n 1, 1) := by decide +kernel
theorem dX5_load_43 : decode cX5_load 43 = .ok (.getfield 70, 3) := by decide +kernel
theorem dX5_load_46 : decode cX5_load 46 = .ok (.iload_n 2, 1) := by decide +kernel
theorem dX5_load_47 : decode cX5_load 47 = .ok (.iload 6, 2) := by decide +kernel
theorem dX5_load_49 : decode cX5_load 49 = .ok (.iadd, 1) := by decide +kernel
theorem dX5_load_50 : decode cX5_load 50 = .ok (.iaload, 1) := by decide +kernel
theorem dX5_load_51 : decode cX5_load 51 = .ok (.invokestatic 73, 3) := by decide +kernel
theorem dX5_load_54 : decode cX5_load 54 = .ok (.iastore, 1) := by decide +kernel
theorem dX5_load_55 : decode cX5_load 55 = .ok (.iload 5, 2) := by decide +kernel
theorem dX5_load_57 : decode cX5_load 57 = .ok (.aload_n 0, 1) := by decide +kernel
theorem dX5_load_58 : decode cX5_load 58 = .ok (.getfield 15, 3) := by decide +kernel
theorem dX5_load_61 : decode cX5_load 61 = .ok (.iload 6, 2) := by decide +kernel
theorem dX5_load_63 : decode cX5_load 63 = .ok (.iaload, 1) := by decide +kernel
theorem dX5_load_64 : decode cX5_load 64 = .ok (.isub, 1) := by decide +kernel
theorem dX5_load_65 : decode cX5_load 65 = .ok (.istore 5, 2) := by decide +kernel
theorem dX5_load_67 : decode cX5_load 67 = .ok (.iinc 6 1, 3) := by decide +kernel
theorem dX5_load_70 : decode cX5_load 70 = .ok (.goto (-53), 3) := by decide +kernel
theorem dX5_load_73 : decode cX5_load 73 = .ok (.iload 5, 2) := by decide +kernel
theorem dX5_load_75 : decode cX5_load 75 = .ok (.ifCond .lt 26, 3) := by decide +kernel
theorem dX5_load_78 : decode cX5_load 78 = .ok (.iload 5, 2) := by decide +kernel
theorem dX5_load_80 : decode cX5_load 80 = .ok (.bipush 15, 2) := by decide +kernel
theorem dX5_load_82 : decode cX5_load 82 = .ok (.irem, 1) := by decide +kernel
theorem dX5_load_83 : decode cX5_load 83 = .ok (.ifCond .ne 18, 3) := by decide +kernel
theorem dX5_load_86 : decode cX5_load 86 = .ok (.iload 5, 2) := by decide +kernel
theorem dX5_load_88 : decode cX5_load 88 = .ok (.bipush 15, 2) := by decide +kernel
theorem dX5_load_90 : decode cX5_load 90 = .ok (.idiv, 1) := by decide +kernel
theorem dX5_load_91 : decode cX5_load 91 = .ok (.sipush 137, 3) := by decide +kernel
theorem dX5_load_94 : decode cX5_load 94 = .ok (.if_icmp .ge 7, 3) := by decide +kernel
theorem dX5_load_97 : decode cX5_load 97 = .ok (.iconst 1, 1) := by decide +kernel
theorem dX5_load_98 : decode cX5_load 98 = .ok (.goto 4, 3) := by decide +kernel
theorem dX5_load_101 : decode cX5_load 101 = .ok (.iconst 0, 1) := by decide +kernel
theorem dX5_load_102 : decode cX5_load 102 = .ok (.istore 6, 2) := by decide +kernel
theorem dX5_load_104 : decode cX5_load 104 = .ok (.iload 6, 2) := by decide +kernel
theorem dX5_load_106 : decode cX5_load 106 = .ok (.ifCond .eq 11, 3) := by decide +kernel
theorem dX5_load_109 : decode cX5_load 109 = .ok (.iload 5, 2) := by decide +kernel
theorem dX5_load_111 : decode cX5_load 111 = .ok (.bipush 15, 2) := by decide +kernel
theorem dX5_load_113 : decode cX5_load 113 = .ok (.idiv, 1) := by decide +kernel
theorem dX5_load_114 : decode cX5_load 114 = .ok (.goto 4, 3) := by decide +kernel
theorem dX5_load_117 : decode cX5_load 117 = .ok (.iconst (-1), 1) := by decide +kernel
theorem dX5_load_118 : decode cX5_load 118 = .ok (.ireturn, 1) := by decide +kernel
theorem dX5_layEnd_0 : decode cX5_layEnd 0 = .ok (.iconst 0, 1) := by decide +kernel
theorem dX5_layEnd_1 : decode cX5_layEnd 1 = .ok (.istore_n 3, 1) := by decide +kernel
theorem dX5_layEnd_2 : decode cX5_layEnd 2 = .ok (.iload_n 3, 1) := by decide +kernel
theorem dX5_layEnd_3 : decode cX5_layEnd 3 = .ok (.iload_n 1, 1) := by decide +kernel
theorem dX5_layEnd_4 : decode cX5_layEnd 4 = .ok (.if_icmp .gt 78, 3) := by decide +kernel
theorem dX5_layEnd_7 : decode cX5_layEnd 7 = .ok (.iconst 0, 1) := by decide +kernel
theorem dX5_layEnd_8 : decode cX5_layEnd 8 = .ok (.istore 4, 2) := by decide +kernel
theorem dX5_layEnd_10 : decode cX5_layEnd 10 = .ok (.iload 4, 2) := by decide +kernel
theorem dX5_layEnd_12 : decode cX5_layEnd 12 = .ok (.iconst 1, 1) := by decide +kernel
theorem dX5_layEnd_13 : decode cX5_layEnd 13 = .ok (.if_icmp .gt 63, 3) := by decide +kernel
theorem dX5_layEnd_16 : decode cX5_layEnd 16 = .ok (.iload_n 3, 1) := by decide +kernel
theorem dX5_layEnd_17 : decode cX5_layEnd 17 = .ok (.ifCond .ne 18, 3) := by decide +kernel
theorem dX5_layEnd_20 : decode cX5_layEnd 20 = .ok (.iload_n 2, 1) := by decide +kernel
theorem dX5_layEnd_21 : decode cX5_layEnd 21 = .ok (.iconst (-1), 1) := by decide +kernel
theorem dX5_layEnd_22 : decode cX5_layEnd 22 = .ok (.if_icmp .eq 9, 3) := by decide +kernel
theorem dX5_layEnd_25 : decode cX5_layEnd 25 = .ok (.iload_n 2, 1) := by decide +kernel
theorem dX5_layEnd_26 : decode cX5_layEnd 26 = .ok (.iload 4, 2) := by decide +kernel
theorem dX5_layEnd_28 : decode cX5_layEnd 28 = .ok (.if_icmp .ne 7, 3) := by decide +kernel
theorem dX5_layEnd_31 : decode cX5_layEnd 31 = .ok (.iconst 1, 1) := by decide +kernel
theorem dX5_layEnd_32 : decode cX5_layEnd 32 = .ok (.goto 4, 3) := by decide +kernel
theorem dX5_layEnd_35 : decode cX5_layEnd 35 = .ok (.iconst 0, 1) := by decide +kernel
theorem dX5_layEnd_36 : decode cX5_layEnd 36 = .ok (.istore 5, 2) := by decide +kernel
theorem dX5_layEnd_38 : decode cX5_layEnd 38 = .ok (.aload_n 0, 1) := by decide +kernel
theorem dX5_layEnd_39 : decode cX5_layEnd 39 = .ok (.getfield 18, 3) := by decide +kernel
theorem dX5_layEnd_42 : decode cX5_layEnd 42 = .ok (.aload_n 0, 1) := by decide +kernel
theorem dX5_layEnd_43 : decode cX5_layEnd 43 = .ok (.getfield 51, 3) := by decide +kernel
theorem dX5_layEnd_46 : decode cX5_layEnd 46 = .ok (.sipush 274, 3) := by decide +kernel
theorem dX5_layEnd_49 : decode cX5_layEnd 49 = .ok (.imul, 1) := by decide +kernel
theorem dX5_layEnd_50 : decode cX5_layEnd 50 = .ok (.iload_n 3, 1) := by decide +kernel
theorem dX5_layEnd_51 : decode cX5_layEnd 51 = .ok (.iconst 2, 1) := by decide +kernel
theorem dX5_layEnd_52 : decode cX5_layEnd 52 = .ok (.imul, 1) := by decide +kernel
theorem dX5_layEnd_53 : decode cX5_layEnd 53 = .ok (.iadd, 1) := by decide +kernel
theorem dX5_layEnd_54 : decode cX5_layEnd 54 = .ok (.iload 4, 2) := by decide +kernel
theorem dX5_layEnd_56 : decode cX5_layEnd 56 = .ok (.iadd, 1) := by decide +kernel
theorem dX5_layEnd_57 : decode cX5_layEnd 57 = .ok (.iload 5, 2) := by decide +kernel
theorem dX5_layEnd_59 : decode cX5_layEnd 59 = .ok (.ifCond .eq 7, 3) := by decide +kernel
theorem dX5_layEnd_62 : decode cX5_layEnd 62 = .ok (.iconst 0, 1) := by decide +kernel
theorem dX5_layEnd_63 : decode cX5_layEnd 63 = .ok (.goto 6, 3) := by decide +kernel
theorem dX5_layEnd_66 : decode cX5_layEnd 66 = .ok (.sipush 1000, 3) := by decide +kernel
theorem dX5_layEnd_69 : decode cX5_layEnd 69 = .ok (.iastore, 1) := by decide +kernel
theorem dX5_layEnd_70 : decode cX5_layEnd 70 = .ok (.iinc 4 1, 3) := by decide +kernel
theorem dX5_layEnd_73 : decode cX5_layEnd 73 = .ok (.goto (-63), 3) := by decide +kernel
theorem dX5_layEnd_76 : decode cX5_layEnd 76 = .ok (.iinc 3 1, 3) := by decide +kernel
theorem dX5_layEnd_79 : decode cX5_layEnd 79 = .ok (.goto (-77), 3) := by decide +kernel
theorem dX5_layEnd_82 : decode cX5_layEnd 82 = .ok (.return_, 1) := by decide +kernel
theorem dX5_layItem_0 : decode cX5_layItem 0 = .ok (.iconst 0, 1) := by decide +kernel
theorem dX5_layItem_1 : decode cX5_layItem 1 = .ok (.istore_n 3, 1) := by decide +kernel
theorem dX5_layItem_2 : decode cX5_layItem 2 = .ok (.iload_n 3, 1) := by decide +kernel
theorem dX5_layItem_3 : decode cX5_layItem 3 = .ok (.iload_n 2, 1) := by decide +kernel
theorem dX5_layItem_4 : decode cX5_layItem 4 = .ok (.if_icmp .gt 79, 3) := by decide +kernel
theorem dX5_layItem_7 : decode cX5_layItem 7 = .ok (.iload_n 1, 1) := by decide +kernel
theorem dX5_layItem_8 : decode cX5_layItem 8 = .ok (.sipush 274, 3) := by decide +kernel
theorem dX5_layItem_11 : decode cX5_layItem 11 = .ok (.imul, 1) := by decide +kernel
theorem dX5_layItem_12 : decode cX5_layItem 12 = .ok (.iload_n 3, 1) := by decide +kernel
theorem dX5_layItem_13 : decode cX5_layItem 13 = .ok (.iconst 2, 1) := by decide +kernel
theorem dX5_layItem_14 : decode cX5_layItem 14 = .ok (.imul, 1) := by decide +kernel
theorem dX5_layItem_15 : decode cX5_layItem 15 = .ok (.iadd, 1) := by decide +kernel
theorem dX5_layItem_16 : decode cX5_layItem 16 = .ok (.istore 4, 2) := by decide +kernel
theorem dX5_layItem_18 : decode cX5_layItem 18 = .ok (.aload_n 0, 1) := by decide +kernel
theorem dX5_layItem_19 : decode cX5_layItem 19 = .ok (.getfield 18, 3) := by decide +kernel
theorem dX5_layItem_22 : decode cX5_layItem 22 = .ok (.iload 4, 2) := by decide +kernel
theorem dX5_layItem_24 : decode cX5_layItem 24 = .ok (.iconst 0, 1) := by decide +kernel
theorem dX5_layItem_25 : decode cX5_layItem 25 = .ok (.iadd, 1) := by decide +kernel
theorem dX5_layItem_26 : decode cX5_layItem 26 = .ok (.iload_n 3, 1) := by decide +kernel
theorem dX5_layItem_27 : decode cX5_layItem 27 = .ok (.aload_n 0, 1) := by decide +kernel
theorem dX5_layItem_28 : decode cX5_layItem 28 = .ok (.getfield 15, 3) := by decide +kernel
theorem dX5_layItem_31 : decode cX5_layItem 31 = .ok (.iload_n 1, 1) := by decide +kernel
theorem dX5_layItem_32 : decode cX5_layItem 32 = .ok (.iaload, 1) := by decide +kernel
theorem dX5_layItem_33 : decode cX5_layItem 33 = .ok (.if_icmp .ge 9, 3) := by decide +kernel
theorem dX5_layItem_36 : decode cX5_layItem 36 = .ok (.sipush 1000, 3) := by decide +kernel
theorem dX5_layItem_39 : decode cX5_layItem 39 = .ok (.goto 19, 3) := by decide +kernel
theorem dX5_layItem_42 : decode cX5_layItem 42 = .ok (.aload_n 0, 1) := by decide +kernel
theorem dX5_layItem_43 : decode cX5_layItem 43 = .ok (.iload_n 1, 1) := by decide +kernel
theorem dX5_layItem_44 : decode cX5_layItem 44 = .ok (.iconst 1, 1) := by decide +kernel
theorem dX5_layItem_45 : decode cX5_layItem 45 = .ok (.iadd, 1) := by decide +kernel
theorem dX5_layItem_46 : decode cX5_layItem 46 = .ok (.iload_n 3, 1) := by decide +kernel
theorem dX5_layItem_47 : decode cX5_layItem 47 = .ok (.aload_n 0, 1) := by decide +kernel
theorem dX5_layItem_48 : decode cX5_layItem 48 = .ok (.getfield 15, 3) := by decide +kernel
theorem dX5_layItem_51 : decode cX5_layItem 51 = .ok (.iload_n 1, 1) := by decide +kernel
theorem dX5_layItem_52 : decode cX5_layItem 52 = .ok (.iaload, 1) := by decide +kernel
theorem dX5_layItem_53 : decode cX5_layItem 53 = .ok (.isub, 1) := by decide +kernel
theorem dX5_layItem_54 : decode cX5_layItem 54 = .ok (.iconst 0, 1) := by decide +kernel
theorem dX5_layItem_55 : decode cX5_layItem 55 = .ok (.invokevirtual 77, 3) := by decide +kernel
theorem dX5_layItem_58 : decode cX5_layItem 58 = .ok (.iastore, 1) := by decide +kernel
theorem dX5_layItem_59 : decode cX5_layItem 59 = .ok (.aload_n 0, 1) := by decide +kernel
theorem dX5_layItem_60 : decode cX5_layItem 60 = .ok (.getfield 18, 3) := by decide +kernel
theorem dX5_layItem_63 : decode cX5_layItem 63 = .ok (.iload 4, 2) := by decide +kernel
theorem dX5_layItem_65 : decode cX5_layItem 65 = .ok (.iconst 1, 1) := by decide +kernel
theorem dX5_layItem_66 : decode cX5_layItem 66 = .ok (.iadd, 1) := by decide +kernel
theorem dX5_layItem_67 : decode cX5_layItem 67 = .ok (.aload_n 0, 1) := by decide +kernel
theorem dX5_layItem_68 : decode cX5_layItem 68 = .ok (.iload_n 1, 1) := by decide +kernel
theorem dX5_layItem_69 : decode cX5_layItem 69 = .ok (.iconst 1, 1) := by decide +kernel
theorem dX5_layItem_70 : decode cX5_layItem 70 = .ok (.iadd, 1) := by decide +kernel
theorem dX5_layItem_71 : decode cX5_layItem 71 = .ok (.iload_n 3, 1) := by decide +kernel
theorem dX5_layItem_72 : decode cX5_layItem 72 = .ok (.iconst 1, 1) := by decide +kernel
theorem dX5_layItem_73 : decode cX5_layItem 73 = .ok (.invokevirtual 77, 3) := by decide +kernel
theorem dX5_layItem_76 : decode cX5_layItem 76 = .ok (.iastore, 1) := by decide +kernel
theorem dX5_layItem_77 : decode cX5_layItem 77 = .ok (.iinc 3 1, 3) := by decide +kernel
theorem dX5_layItem_80 : decode cX5_layItem 80 = .ok (.goto (-78), 3) := by decide +kernel
theorem dX5_layItem_83 : decode cX5_layItem 83 = .ok (.return_, 1) := by decide +kernel
theorem dX5_leastBehind_0 : decode cX5_leastBehind 0 = .ok (.iload_n 1, 1) := by decide +kernel
theorem dX5_leastBehind_1 : decode cX5_leastBehind 1 = .ok (.sipush 274, 3) := by decide +kernel
theorem dX5_leastBehind_4 : decode cX5_leastBehind 4 = .ok (.imul, 1) := by decide +kernel
theorem dX5_leastBehind_5 : decode cX5_leastBehind 5 = .ok (.iload_n 2, 1) := by decide +kernel
theorem dX5_leastBehind_6 : decode cX5_leastBehind 6 = .ok (.iconst 2, 1) := by decide +kernel
theorem dX5_leastBehind_7 : decode cX5_leastBehind 7 = .ok (.imul, 1) := by decide +kernel
theorem dX5_leastBehind_8 : decode cX5_leastBehind 8 = .ok (.iadd, 1) := by decide +kernel
theorem dX5_leastBehind_9 : decode cX5_leastBehind 9 = .ok (.istore 4, 2) := by decide +kernel
theorem dX5_leastBehind_11 : decode cX5_leastBehind 11 = .ok (.aload_n 0, 1) := by decide +kernel
theorem dX5_leastBehind_12 : decode cX5_leastBehind 12 = .ok (.getfield 18, 3) := by decide +kernel
theorem dX5_leastBehind_15 : decode cX5_leastBehind 15 = .ok (.iload 4, 2) := by decide +kernel
theorem dX5_leastBehind_17 : decode cX5_leastBehind 17 = .ok (.iload_n 3, 1) := by decide +kernel
theorem dX5_leastBehind_18 : decode cX5_leastBehind 18 = .ok (.iadd, 1) := by decide +kernel
theorem dX5_leastBehind_19 : decode cX5_leastBehind 19 = .ok (.iaload, 1) := by decide +kernel
theorem dX5_leastBehind_20 : decode cX5_leastBehind 20 = .ok (.istore 5, 2) := by decide +kernel
theorem dX5_leastBehind_22 : decode cX5_leastBehind 22 = .ok (.aload_n 0, 1) := by decide +kernel
theorem dX5_leastBehind_23 : decode cX5_leastBehind 23 = .ok (.getfield 18, 3) := by decide +kernel
theorem dX5_leastBehind_26 : decode cX5_leastBehind 26 = .ok (.iload 4, 2) := by decide +kernel
theorem dX5_leastBehind_28 : decode cX5_leastBehind 28 = .ok (.iconst 1, 1) := by decide +kernel
theorem dX5_leastBehind_29 : decode cX5_leastBehind 29 = .ok (.iadd, 1) := by decide +kernel
theorem dX5_leastBehind_30 : decode cX5_leastBehind 30 = .ok (.iload_n 3, 1) := by decide +kernel
theorem dX5_leastBehind_31 : decode cX5_leastBehind 31 = .ok (.isub, 1) := by decide +kernel
theorem dX5_leastBehind_32 : decode cX5_leastBehind 32 = .ok (.iaload, 1) := by decide +kernel
theorem dX5_leastBehind_33 : decode cX5_leastBehind 33 = .ok (.iconst 1, 1) := by decide +kernel
theorem dX5_leastBehind_34 : decode cX5_leastBehind 34 = .ok (.iadd, 1) := by decide +kernel
theorem dX5_leastBehind_35 : decode cX5_leastBehind 35 = .ok (.istore 6, 2) := by decide +kernel
theorem dX5_leastBehind_37 : decode cX5_leastBehind 37 = .ok (.iload 5, 2) := by decide +kernel
theorem dX5_leastBehind_39 : decode cX5_leastBehind 39 = .ok (.iload 6, 2) := by decide +kernel
theorem dX5_leastBehind_41 : decode cX5_leastBehind 41 = .ok (.if_icmp .ge 8, 3) := by decide +kernel
theorem dX5_leastBehind_44 : decode cX5_leastBehind 44 = .ok (.iload 5, 2) := by decide +kernel
theorem dX5_leastBehind_46 : decode cX5_leastBehind 46 = .ok (.goto 5, 3) := by decide +kernel
theorem dX5_leastBehind_49 : decode cX5_leastBehind 49 = .ok (.iload 6, 2) := by decide +kernel
theorem dX5_leastBehind_51 : decode cX5_leastBehind 51 = .ok (.ireturn, 1) := by decide +kernel
theorem dX5_choose_0 : decode cX5_choose 0 = .ok (.aload_n 0, 1) := by decide +kernel
theorem dX5_choose_1 : decode cX5_choose 1 = .ok (.getfield 18, 3) := by decide +kernel
theorem dX5_choose_4 : decode cX5_choose 4 = .ok (.iload_n 1, 1) := by decide +kernel
theorem dX5_choose_5 : decode cX5_choose 5 = .ok (.iconst 2, 1) := by decide +kernel
theorem dX5_choose_6 : decode cX5_choose 6 = .ok (.imul, 1) := by decide +kernel
theorem dX5_choose_7 : decode cX5_choose 7 = .ok (.iconst 0, 1) := by decide +kernel
theorem dX5_choose_8 : decode cX5_choose 8 = .ok (.iadd, 1) := by decide +kernel
theorem dX5_choose_9 : decode cX5_choose 9 = .ok (.iaload, 1) := by decide +kernel
theorem dX5_choose_10 : decode cX5_choose 10 = .ok (.aload_n 0, 1) := by decide +kernel
theorem dX5_choose_11 : decode cX5_choose 11 = .ok (.getfield 18, 3) := by decide +kernel
theorem dX5_choose_14 : decode cX5_choose 14 = .ok (.iload_n 1, 1) := by decide +kernel
theorem dX5_choose_15 : decode cX5_choose 15 = .ok (.iconst 2, 1) := by decide +kernel
theorem dX5_choose_16 : decode cX5_choose 16 = .ok (.imul, 1) := by decide +kernel
theorem dX5_choose_17 : decode cX5_choose 17 = .ok (.iconst 1, 1) := by decide +kernel
theorem dX5_choose_18 : decode cX5_choose 18 = .ok (.iadd, 1) := by decide +kernel
theorem dX5_choose_19 : decode cX5_choose 19 = .ok (.iaload, 1) := by decide +kernel
theorem dX5_choose_20 : decode cX5_choose 20 = .ok (.invokestatic 61, 3) := by decide +kernel
theorem dX5_choose_23 : decode cX5_choose 23 = .ok (.sipush 1000, 3) := by decide +kernel
theorem dX5_choose_26 : decode cX5_choose 26 = .ok (.if_icmp .lt 5, 3) := by decide +kernel
theorem dX5_choose_29 : decode cX5_choose 29 = .ok (.iconst 0, 1) := by decide +kernel
theorem dX5_choose_30 : decode cX5_choose 30 = .ok (.ireturn, 1) := by decide +kernel
theorem dX5_choose_31 : decode cX5_choose 31 = .ok (.iload_n 1, 1) := by decide +kernel
theorem dX5_choose_32 : decode cX5_choose 32 = .ok (.istore_n 2, 1) := by decide +kernel
theorem dX5_choose_33 : decode cX5_choose 33 = .ok (.iconst (-1), 1) := by decide +kernel
theorem dX5_choose_34 : decode cX5_choose 34 = .ok (.istore_n 3, 1) := by decide +kernel
theorem dX5_choose_35 : decode cX5_choose 35 = .ok (.iconst 0, 1) := by decide +kernel
theorem dX5_choose_36 : decode cX5_choose 36 = .ok (.istore 4, 2) := by decide +kernel
theorem dX5_choose_38 : decode cX5_choose 38 = .ok (.iload 4, 2) := by decide +kernel
theorem dX5_choose_40 : decode cX5_choose 40 = .ok (.aload_n 0, 1) := by decide +kernel
theorem dX5_choose_41 : decode cX5_choose 41 = .ok (.getfield 51, 3) := by decide +kernel
theorem dX5_choose_44 : decode cX5_choose 44 = .ok (.if_icmp .ge 107, 3) := by decide +kernel
theorem dX5_choose_47 : decode cX5_choose 47 = .ok (.iload 4, 2) := by decide +kernel
theorem dX5_choose_49 : decode cX5_choose 49 = .ok (.sipush 274, 3) := by decide +kernel
theorem dX5_choose_52 : decode cX5_choose 52 = .ok (.imul, 1) := by decide +kernel
theorem dX5_choose_53 : decode cX5_choose 53 = .ok (.iload_n 2, 1) := by decide +kernel
theorem dX5_choose_54 : decode cX5_choose 54 = .ok (.iconst 2, 1) := by decide +kernel
theorem dX5_choose_55 : decode cX5_choose 55 = .ok (.imul, 1) := by decide +kernel
theorem dX5_choose_56 : decode cX5_choose 56 = .ok (.iadd, 1) := by decide +kernel
theorem dX5_choose_57 : decode cX5_choose 57 = .ok (.istore 5, 2) := by decide +kernel
theorem dX5_choose_59 : decode cX5_choose 59 = .ok (.aload_n 0, 1) := by decide +kernel
theorem dX5_choose_60 : decode cX5_choose 60 = .ok (.getfield 18, 3) := by decide +kernel
theorem dX5_choose_63 : decode cX5_choose 63 = .ok (.iload 5, 2) := by decide +kernel
theorem dX5_choose_65 : decode cX5_choose 65 = .ok (.iconst 0, 1) := by decide +kernel
theorem dX5_choose_66 : decode cX5_choose 66 = .ok (.iadd, 1) := by decide +kernel
theorem dX5_choose_67 : decode cX5_choose 67 = .ok (.iaload, 1) := by decide +kernel
theorem dX5_choose_68 : decode cX5_choose 68 = .ok (.iload_n 3, 1) := by decide +kernel
theorem dX5_choose_69 : decode cX5_choose 69 = .ok (.iconst 1, 1) := by decide +kernel
theorem dX5_choose_70 : decode cX5_choose 70 = .ok (.if_icmp .ne 7, 3) := by decide +kernel
theorem dX5_choose_73 : decode cX5_choose 73 = .ok (.iconst 1, 1) := by decide +kernel
theorem dX5_choose_74 : decode cX5_choose 74 = .ok (.goto 4, 3) := by decide +kernel
theorem dX5_choose_77 : decode cX5_choose 77 = .ok (.iconst 0, 1) := by decide +kernel
theorem dX5_choose_78 : decode cX5_choose 78 = .ok (.iadd, 1) := by decide +kernel
theorem dX5_choose_79 : decode cX5_choose 79 = .ok (.istore 6, 2) := by decide +kernel
theorem dX5_choose_81 : decode cX5_choose 81 = .ok (.aload_n 0, 1) := by decide +kernel
theorem dX5_choose_82 : decode cX5_choose 82 = .ok (.getfield 18, 3) := by decide +kernel
theorem dX5_choose_85 : decode cX5_choose 85 = .ok (.iload 5, 2) := by decide +kernel
theorem dX5_choose_87 : decode cX5_choose 87 = .ok (.iconst 1, 1) := by decide +kernel
theorem dX5_choose_88 : decode cX5_choose 88 = .ok (.iadd, 1) := by decide +kernel
theorem dX5_choose_89 : decode cX5_choose 89 = .ok (.iaload, 1) := by decide +kernel
theorem dX5_choose_90 : decode cX5_choose 90 = .ok (.iload_n 3, 1) := by decide +kernel
theorem dX5_choose_91 : decode cX5_choose 91 = .ok (.ifCond .ne 7, 3) := by decide +kernel
theorem dX5_choose_94 : decode cX5_choose 94 = .ok (.iconst 1, 1) := by decide +kernel
theorem dX5_choose_95 : decode cX5_choose 95 = .ok (.goto 4, 3) := by decide +kernel
theorem dX5_choose_98 : decode cX5_choose 98 = .ok (.iconst 0, 1) := by decide +kernel
theorem dX5_choose_99 : decode cX5_choose 99 = .ok (.iadd, 1) := by decide +kernel
theorem dX5_choose_100 : decode cX5_choose 100 = .ok (.istore 7, 2) := by decide +kernel
theorem dX5_choose_102 : decode cX5_choose 102 = .ok (.iload 6, 2) := by decide +kernel
theorem dX5_choose_104 : decode cX5_choose 104 = .ok (.iload 7, 2) := by decide +kernel
theorem dX5_choose_106 : decode cX5_choose 106 = .ok (.if_icmp .gt 7, 3) := by decide +kernel
theorem dX5_choose_109 : decode cX5_choose 109 = .ok (.iconst 0, 1) := by decide +kernel
theorem dX5_choose_110 : decode cX5_choose 110 = .ok (.goto 4, 3) := by decide +kernel
theorem dX5_choose_113 : decode cX5_choose 113 = .ok (.iconst 1, 1) := by decide +kernel
theorem dX5_choose_114 : decode cX5_choose 114 = .ok (.istore_n 3, 1) := by decide +kernel
theorem dX5_choose_115 : decode cX5_choose 115 = .ok (.aload_n 0, 1) := by decide +kernel
theorem dX5_choose_116 : decode cX5_choose 116 = .ok (.getfield 11, 3) := by decide +kernel
theorem dX5_choose_119 : decode cX5_choose 119 = .ok (.iload 4, 2) := by decide +kernel
theorem dX5_choose_121 : decode cX5_choose 121 = .ok (.iload_n 3, 1) := by decide +kernel
theorem dX5_choose_122 : decode cX5_choose 122 = .ok (.iastore, 1) := by decide +kernel
theorem dX5_choose_123 : decode cX5_choose 123 = .ok (.iload_n 3, 1) := by decide +kernel
theorem dX5_choose_124 : decode cX5_choose 124 = .ok (.ifCond .ne 19, 3) := by decide +kernel
