theorem dX7_readBar_108 : decode cX7_readBar 108 = .ok (.ifCond .ge 125, 3) := by decide +kernel
theorem dX7_readBar_111 : decode cX7_readBar 111 = .ok (.aload_n 0, 1) := by decide +kernel
theorem dX7_readBar_112 : decode cX7_readBar 112 = .ok (.getfield 44, 3) := by decide +kernel
theorem dX7_readBar_115 : decode cX7_readBar 115 = .ok (.iload_n 2, 1) := by decide +kernel
theorem dX7_readBar_116 : decode cX7_readBar 116 = .ok (.iaload, 1) := by decide +kernel
theorem dX7_readBar_117 : decode cX7_readBar 117 = .ok (.iconst 3, 1) := by decide +kernel
theorem dX7_readBar_118 : decode cX7_readBar 118 = .ok (.if_icmp .ne 14, 3) := by decide +kernel
theorem dX7_readBar_121 : decode cX7_readBar 121 = .ok (.aload_n 0, 1) := by decide +kernel
theorem dX7_readBar_122 : decode cX7_readBar 122 = .ok (.aload_n 0, 1) := by decide +kernel
theorem dX7_readBar_123 : decode cX7_readBar 123 = .ok (.getfield 130, 3) := by decide +kernel
theorem dX7_readBar_126 : decode cX7_readBar 126 = .ok (.invokevirtual 146, 3) := by decide +kernel
theorem dX7_readBar_129 : decode cX7_readBar 129 = .ok (.goto 24, 3) := by decide +kernel
theorem dX7_readBar_132 : decode cX7_readBar 132 = .ok (.aload_n 0, 1) := by decide +kernel
theorem dX7_readBar_133 : decode cX7_readBar 133 = .ok (.iload_n 1, 1) := by decide +kernel
theorem dX7_readBar_134 : decode cX7_readBar 134 = .ok (.aload_n 0, 1) := by decide +kernel
theorem dX7_readBar_135 : decode cX7_readBar 135 = .ok (.getfield 44, 3) := by decide +kernel
theorem dX7_readBar_138 : decode cX7_readBar 138 = .ok (.iload_n 2, 1) := by decide +kernel
theorem dX7_readBar_139 : decode cX7_readBar 139 = .ok (.iaload, 1) := by decide +kernel
theorem dX7_readBar_140 : decode cX7_readBar 140 = .ok (.invokevirtual 199, 3) := by decide +kernel
theorem dX7_readBar_143 : decode cX7_readBar 143 = .ok (.aload_n 0, 1) := by decide +kernel
theorem dX7_readBar_144 : decode cX7_readBar 144 = .ok (.getfield 44, 3) := by decide +kernel
theorem dX7_readBar_147 : decode cX7_readBar 147 = .ok (.iload_n 2, 1) := by decide +kernel
theorem dX7_readBar_148 : decode cX7_readBar 148 = .ok (.dup2, 1) := by decide +kernel
theorem dX7_readBar_149 : decode cX7_readBar 149 = .ok (.iaload, 1) := by decide +kernel
theorem dX7_readBar_150 : decode cX7_readBar 150 = .ok (.iconst 1, 1) := by decide +kernel
theorem dX7_readBar_151 : decode cX7_readBar 151 = .ok (.iadd, 1) := by decide +kernel
theorem dX7_readBar_152 : decode cX7_readBar 152 = .ok (.iastore, 1) := by decide +kernel
theorem dX7_readBar_153 : decode cX7_readBar 153 = .ok (.aload_n 0, 1) := by decide +kernel
theorem dX7_readBar_154 : decode cX7_readBar 154 = .ok (.getfield 120, 3) := by decide +kernel
theorem dX7_readBar_157 : decode cX7_readBar 157 = .ok (.ifCond .ge 35, 3) := by decide +kernel
theorem dX7_readBar_160 : decode cX7_readBar 160 = .ok (.aload_n 0, 1) := by decide +kernel
theorem dX7_readBar_161 : decode cX7_readBar 161 = .ok (.aload_n 0, 1) := by decide +kernel
theorem dX7_readBar_162 : decode cX7_readBar 162 = .ok (.getfield 130, 3) := by decide +kernel
theorem dX7_readBar_165 : decode cX7_readBar 165 = .ok (.invokevirtual 133, 3) := by decide +kernel
theorem dX7_readBar_168 : decode cX7_readBar 168 = .ok (.bipush 35, 2) := by decide +kernel
theorem dX7_readBar_170 : decode cX7_readBar 170 = .ok (.if_icmp .ne 22, 3) := by decide +kernel
theorem dX7_readBar_173 : decode cX7_readBar 173 = .ok (.aload_n 0, 1) := by decide +kernel
theorem dX7_readBar_174 : decode cX7_readBar 174 = .ok (.aload_n 0, 1) := by decide +kernel
theorem dX7_readBar_175 : decode cX7_readBar 175 = .ok (.getfield 130, 3) := by decide +kernel
theorem dX7_readBar_178 : decode cX7_readBar 178 = .ok (.iconst 1, 1) := by decide +kernel
theorem dX7_readBar_179 : decode cX7_readBar 179 = .ok (.iadd, 1) := by decide +kernel
theorem dX7_readBar_180 : decode cX7_readBar 180 = .ok (.invokevirtual 133, 3) := by decide +kernel
theorem dX7_readBar_183 : decode cX7_readBar 183 = .ok (.bipush 28, 2) := by decide +kernel
theorem dX7_readBar_185 : decode cX7_readBar 185 = .ok (.if_icmp .ne 7, 3) := by decide +kernel
theorem dX7_readBar_188 : decode cX7_readBar 188 = .ok (.iconst 1, 1) := by decide +kernel
theorem dX7_readBar_189 : decode cX7_readBar 189 = .ok (.goto 4, 3) := by decide +kernel
theorem dX7_readBar_192 : decode cX7_readBar 192 = .ok (.iconst 0, 1) := by decide +kernel
theorem dX7_readBar_193 : decode cX7_readBar 193 = .ok (.istore_n 3, 1) := by decide +kernel
theorem dX7_readBar_194 : decode cX7_readBar 194 = .ok (.iload_n 3, 1) := by decide +kernel
theorem dX7_readBar_195 : decode cX7_readBar 195 = .ok (.ifCond .eq (-95), 3) := by decide +kernel
theorem dX7_readBar_198 : decode cX7_readBar 198 = .ok (.aload_n 0, 1) := by decide +kernel
theorem dX7_readBar_199 : decode cX7_readBar 199 = .ok (.getfield 153, 3) := by decide +kernel
theorem dX7_readBar_202 : decode cX7_readBar 202 = .ok (.ifCond .eq 13, 3) := by decide +kernel
theorem dX7_readBar_205 : decode cX7_readBar 205 = .ok (.aload_n 0, 1) := by decide +kernel
theorem dX7_readBar_206 : decode cX7_readBar 206 = .ok (.aload_n 0, 1) := by decide +kernel
theorem dX7_readBar_207 : decode cX7_readBar 207 = .ok (.getfield 130, 3) := by decide +kernel
theorem dX7_readBar_210 : decode cX7_readBar 210 = .ok (.iconst 1, 1) := by decide +kernel
theorem dX7_readBar_211 : decode cX7_readBar 211 = .ok (.iadd, 1) := by decide +kernel
theorem dX7_readBar_212 : decode cX7_readBar 212 = .ok (.invokevirtual 146, 3) := by decide +kernel
theorem dX7_readBar_215 : decode cX7_readBar 215 = .ok (.aload_n 0, 1) := by decide +kernel
theorem dX7_readBar_216 : decode cX7_readBar 216 = .ok (.dup, 1) := by decide +kernel
theorem dX7_readBar_217 : decode cX7_readBar 217 = .ok (.getfield 130, 3) := by decide +kernel
theorem dX7_readBar_220 : decode cX7_readBar 220 = .ok (.iconst 2, 1) := by decide +kernel
theorem dX7_readBar_221 : decode cX7_readBar 221 = .ok (.iadd, 1) := by decide +kernel
theorem dX7_readBar_222 : decode cX7_readBar 222 = .ok (.putfield 130, 3) := by decide +kernel
theorem dX7_readBar_225 : decode cX7_readBar 225 = .ok (.aload_n 0, 1) := by decide +kernel
theorem dX7_readBar_226 : decode cX7_readBar 226 = .ok (.iconst 1, 1) := by decide +kernel
theorem dX7_readBar_227 : decode cX7_readBar 227 = .ok (.putfield 157, 3) := by decide +kernel
theorem dX7_readBar_230 : decode cX7_readBar 230 = .ok (.goto (-130), 3) := by decide +kernel
theorem dX7_readBar_233 : decode cX7_readBar 233 = .ok (.aload_n 0, 1) := by decide +kernel
theorem dX7_readBar_234 : decode cX7_readBar 234 = .ok (.dup, 1) := by decide +kernel
theorem dX7_readBar_235 : decode cX7_readBar 235 = .ok (.getfield 157, 3) := by decide +kernel
theorem dX7_readBar_238 : decode cX7_readBar 238 = .ok (.aload_n 0, 1) := by decide +kernel
theorem dX7_readBar_239 : decode cX7_readBar 239 = .ok (.getfield 44, 3) := by decide +kernel
theorem dX7_readBar_242 : decode cX7_readBar 242 = .ok (.iload_n 2, 1) := by decide +kernel
theorem dX7_readBar_243 : decode cX7_readBar 243 = .ok (.iaload, 1) := by decide +kernel
theorem dX7_readBar_244 : decode cX7_readBar 244 = .ok (.iconst 1, 1) := by decide +kernel
theorem dX7_readBar_245 : decode cX7_readBar 245 = .ok (.if_icmp .le 7, 3) := by decide +kernel
theorem dX7_readBar_248 : decode cX7_readBar 248 = .ok (.iconst 1, 1) := by decide +kernel
theorem dX7_readBar_249 : decode cX7_readBar 249 = .ok (.goto 4, 3) := by decide +kernel
theorem dX7_readBar_252 : decode cX7_readBar 252 = .ok (.iconst 0, 1) := by decide +kernel
theorem dX7_readBar_253 : decode cX7_readBar 253 = .ok (.ior, 1) := by decide +kernel
theorem dX7_readBar_254 : decode cX7_readBar 254 = .ok (.putfield 157, 3) := by decide +kernel
theorem dX7_readBar_257 : decode cX7_readBar 257 = .ok (.aload_n 0, 1) := by decide +kernel
theorem dX7_readBar_258 : decode cX7_readBar 258 = .ok (.getfield 32, 3) := by decide +kernel
theorem dX7_readBar_261 : decode cX7_readBar 261 = .ok (.iconst 1, 1) := by decide +kernel
theorem dX7_readBar_262 : decode cX7_readBar 262 = .ok (.dup2, 1) := by decide +kernel
theorem dX7_readBar_263 : decode cX7_readBar 263 = .ok (.iaload, 1) := by decide +kernel
theorem dX7_readBar_264 : decode cX7_readBar 264 = .ok (.iconst 1, 1) := by decide +kernel
theorem dX7_readBar_265 : decode cX7_readBar 265 = .ok (.iadd, 1) := by decide +kernel
theorem dX7_readBar_266 : decode cX7_readBar 266 = .ok (.iastore, 1) := by decide +kernel
theorem dX7_readBar_267 : decode cX7_readBar 267 = .ok (.return_, 1) := by decide +kernel
theorem dX7_read_0 : decode cX7_read 0 = .ok (.aload_n 0, 1) := by decide +kernel
theorem dX7_read_1 : decode cX7_read 1 = .ok (.iconst 0, 1) := by decide +kernel
theorem dX7_read_2 : decode cX7_read 2 = .ok (.putfield 130, 3) := by decide +kernel
theorem dX7_read_5 : decode cX7_read 5 = .ok (.aload_n 0, 1) := by decide +kernel
theorem dX7_read_6 : decode cX7_read 6 = .ok (.iconst (-1), 1) := by decide +kernel
theorem dX7_read_7 : decode cX7_read 7 = .ok (.putfield 120, 3) := by decide +kernel
theorem dX7_read_10 : decode cX7_read 10 = .ok (.aload_n 0, 1) := by decide +kernel
theorem dX7_read_11 : decode cX7_read 11 = .ok (.iconst 0, 1) := by decide +kernel
theorem dX7_read_12 : decode cX7_read 12 = .ok (.putfield 153, 3) := by decide +kernel
theorem dX7_read_15 : decode cX7_read 15 = .ok (.aload_n 0, 1) := by decide +kernel
theorem dX7_read_16 : decode cX7_read 16 = .ok (.iconst 1, 1) := by decide +kernel
theorem dX7_read_17 : decode cX7_read 17 = .ok (.putfield 157, 3) := by decide +kernel
theorem dX7_read_20 : decode cX7_read 20 = .ok (.aload_n 0, 1) := by decide +kernel
theorem dX7_read_21 : decode cX7_read 21 = .ok (.getfield 32, 3) := by decide +kernel
theorem dX7_read_24 : decode cX7_read 24 = .ok (.iconst 1, 1) := by decide +kernel
theorem dX7_read_25 : decode cX7_read 25 = .ok (.iconst 0, 1) := by decide +kernel
theorem dX7_read_26 : decode cX7_read 26 = .ok (.iastore, 1) := by decide +kernel
theorem dX7_read_27 : decode cX7_read 27 = .ok (.aload_n 0, 1) := by decide +kernel
theorem dX7_read_28 : decode cX7_read 28 = .ok (.getfield 35, 3) := by decide +kernel
theorem dX7_read_31 : decode cX7_read 31 = .ok (.iconst 1, 1) := by decide +kernel
theorem dX7_read_32 : decode cX7_read 32 = .ok (.iconst 0, 1) := by decide +kernel
theorem dX7_read_33 : decode cX7_read 33 = .ok (.iastore, 1) := by decide +kernel
theorem dX7_read_34 : decode cX7_read 34 = .ok (.aload_n 0, 1) := by decide +kernel
theorem dX7_read_35 : decode cX7_read 35 = .ok (.getfield 38, 3) := by decide +kernel
theorem dX7_read_38 : decode cX7_read 38 = .ok (.iconst 1, 1) := by decide +kernel
theorem dX7_read_39 : decode cX7_read 39 = .ok (.iconst 0, 1) := by decide +kernel
theorem dX7_read_40 : decode cX7_read 40 = .ok (.iastore, 1) := by decide +kernel
theorem dX7_read_41 : decode cX7_read 41 = .ok (.aload_n 0, 1) := by decide +kernel
theorem dX7_read_42 : decode cX7_read 42 = .ok (.iconst 1, 1) := by decide +kernel
theorem dX7_read_43 : decode cX7_read 43 = .ok (.invokevirtual 133, 3) := by decide +kernel
theorem dX7_read_46 : decode cX7_read 46 = .ok (.bipush 28, 2) := by decide +kernel
theorem dX7_read_48 : decode cX7_read 48 = .ok (.if_icmp .ne 49, 3) := by decide +kernel
theorem dX7_read_51 : decode cX7_read 51 = .ok (.aload_n 0, 1) := by decide +kernel
theorem dX7_read_52 : decode cX7_read 52 = .ok (.iconst 0, 1) := by decide +kernel
theorem dX7_read_53 : decode cX7_read 53 = .ok (.invokevirtual 133, 3) := by decide +kernel
theorem dX7_read_56 : decode cX7_read 56 = .ok (.bipush 40, 2) := by decide +kernel
theorem dX7_read_58 : decode cX7_read 58 = .ok (.if_icmp .eq 13, 3) := by decide +kernel
theorem dX7_read_61 : decode cX7_read 61 = .ok (.aload_n 0, 1) := by decide +kernel
theorem dX7_read_62 : decode cX7_read 62 = .ok (.iconst 0, 1) := by decide +kernel
theorem dX7_read_63 : decode cX7_read 63 = .ok (.invokevirtual 133, 3) := by decide +kernel
theorem dX7_read_66 : decode cX7_read 66 = .ok (.bipush 56, 2) := by decide +kernel
theorem dX7_read_68 : decode cX7_read 68 = .ok (.if_icmp .ne 29, 3) := by decide +kernel
theorem dX7_read_71 : decode cX7_read 71 = .ok (.aload_n 0, 1) := by decide +kernel
theorem dX7_read_72 : decode cX7_read 72 = .ok (.getfield 38, 3) := by decide +kernel
theorem dX7_read_75 : decode cX7_read 75 = .ok (.iconst 1, 1) := by decide +kernel
theorem dX7_read_76 : decode cX7_read 76 = .ok (.aload_n 0, 1) := by decide +kernel
theorem dX7_read_77 : decode cX7_read 77 = .ok (.iconst 0, 1) := by decide +kernel
theorem dX7_read_78 : decode cX7_read 78 = .ok (.invokevirtual 133, 3) := by decide +kernel
theorem dX7_read_81 : decode cX7_read 81 = .ok (.bipush 40, 2) := by decide +kernel
theorem dX7_read_83 : decode cX7_read 83 = .ok (.if_icmp .ne 7, 3) := by decide +kernel
theorem dX7_read_86 : decode cX7_read 86 = .ok (.iconst 1, 1) := by decide +kernel
theorem dX7_read_87 : decode cX7_read 87 = .ok (.goto 4, 3) := by decide +kernel
theorem dX7_read_90 : decode cX7_read 90 = .ok (.iconst 2, 1) := by decide +kernel
theorem dX7_read_91 : decode cX7_read 91 = .ok (.iastore, 1) := by decide +kernel
theorem dX7_read_92 : decode cX7_read 92 = .ok (.aload_n 0, 1) := by decide +kernel
theorem dX7_read_93 : decode cX7_read 93 = .ok (.iconst 2, 1) := by decide +kernel
theorem dX7_read_94 : decode cX7_read 94 = .ok (.putfield 130, 3) := by decide +kernel
theorem dX7_read_97 : decode cX7_read 97 = .ok (.iconst 1, 1) := by decide +kernel
theorem dX7_read_98 : decode cX7_read 98 = .ok (.istore_n 1, 1) := by decide +kernel
theorem dX7_read_99 : decode cX7_read 99 = .ok (.iload_n 1, 1) := by decide +kernel
theorem dX7_read_100 : decode cX7_read 100 = .ok (.ifCond .eq 106, 3) := by decide +kernel
theorem dX7_read_103 : decode cX7_read 103 = .ok (.aload_n 0, 1) := by decide +kernel
theorem dX7_read_104 : decode cX7_read 104 = .ok (.getfield 120, 3) := by decide +kernel
theorem dX7_read_107 : decode cX7_read 107 = .ok (.ifCond .ge 99, 3) := by decide +kernel
theorem dX7_read_110 : decode cX7_read 110 = .ok (.aload_n 0, 1) := by decide +kernel
theorem dX7_read_111 : decode cX7_read 111 = .ok (.invokevirtual 202, 3) := by decide +kernel
theorem dX7_read_114 : decode cX7_read 114 = .ok (.aload_n 0, 1) := by decide +kernel
theorem dX7_read_115 : decode cX7_read 115 = .ok (.aload_n 0, 1) := by decide +kernel
theorem dX7_read_116 : decode cX7_read 116 = .ok (.getfield 130, 3) := by decide +kernel
theorem dX7_read_119 : decode cX7_read 119 = .ok (.invokevirtual 133, 3) := by decide +kernel
theorem dX7_read_122 : decode cX7_read 122 = .ok (.istore_n 2, 1) := by decide +kernel
theorem dX7_read_123 : decode cX7_read 123 = .ok (.aload_n 0, 1) := by decide +kernel
theorem dX7_read_124 : decode cX7_read 124 = .ok (.getfield 120, 3) := by decide +kernel
theorem dX7_read_127 : decode cX7_read 127 = .ok (.ifCond .ge 17, 3) := by decide +kernel
theorem dX7_read_130 : decode cX7_read 130 = .ok (.iload_n 2, 1) := by decide +kernel
theorem dX7_read_131 : decode cX7_read 131 = .ok (.ifCond .eq 9, 3) := by decide +kernel
theorem dX7_read_134 : decode cX7_read 134 = .ok (.iload_n 2, 1) := by decide +kernel
theorem dX7_read_135 : decode cX7_read 135 = .ok (.bipush 64, 2) := by decide +kernel
theorem dX7_read_137 : decode cX7_read 137 = .ok (.if_icmp .ne 7, 3) := by decide +kernel
theorem dX7_read_140 : decode cX7_read 140 = .ok (.iconst 1, 1) := by decide +kernel
theorem dX7_read_141 : decode cX7_read 141 = .ok (.goto 4, 3) := by decide +kernel
theorem dX7_read_144 : decode cX7_read 144 = .ok (.iconst 0, 1) := by decide +kernel
theorem dX7_read_145 : decode cX7_read 145 = .ok (.istore_n 1, 1) := by decide +kernel
theorem dX7_read_146 : decode cX7_read 146 = .ok (.iload_n 1, 1) := by decide +kernel
theorem dX7_read_147 : decode cX7_read 147 = .ok (.ifCond .eq 36, 3) := by decide +kernel
theorem dX7_read_150 : decode cX7_read 150 = .ok (.aload_n 0, 1) := by decide +kernel
theorem dX7_read_151 : decode cX7_read 151 = .ok (.dup, 1) := by decide +kernel
theorem dX7_read_152 : decode cX7_read 152 = .ok (.getfield 157, 3) := by decide +kernel
theorem dX7_read_155 : decode cX7_read 155 = .ok (.iload_n 2, 1) := by decide +kernel
theorem dX7_read_156 : decode cX7_read 156 = .ok (.bipush 64, 2) := by decide +kernel
theorem dX7_read_158 : decode cX7_read 158 = .ok (.if_icmp .ne 7, 3) := by decide +kernel
theorem dX7_read_161 : decode cX7_read 161 = .ok (.iconst 1, 1) := by decide +kernel
theorem dX7_read_162 : decode cX7_read 162 = .ok (.goto 4, 3) := by decide +kernel
theorem dX7_read_165 : decode cX7_read 165 = .ok (.iconst 0, 1) := by decide +kernel
theorem dX7_read_166 : decode cX7_read 166 = .ok (.ior, 1) := by decide +kernel
theorem dX7_read_167 : decode cX7_read 167 = .ok (.putfield 157, 3) := by decide +kernel
theorem dX7_read_170 : decode cX7_read 170 = .ok (.aload_n 0, 1) := by decide +kernel
theorem dX7_read_171 : decode cX7_read 171 = .ok (.dup, 1) := by decide +kernel
theorem dX7_read_172 : decode cX7_read 172 = .ok (.getfield 130, 3) := by decide +kernel
theorem dX7_read_175 : decode cX7_read 175 = .ok (.iconst 1, 1) := by decide +kernel
theorem dX7_read_176 : decode cX7_read 176 = .ok (.iadd, 1) := by decide +kernel
theorem dX7_read_177 : decode cX7_read 177 = .ok (.putfield 130, 3) := by decide +kernel
theorem dX7_read_180 : decode cX7_read 180 = .ok (.goto 23, 3) := by decide +kernel
theorem dX7_read_183 : decode cX7_read 183 = .ok (.iload_n 2, 1) := by decide +kernel
theorem dX7_read_184 : decode cX7_read 184 = .ok (.iconst (-1), 1) := by decide +kernel
theorem dX7_read_185 : decode cX7_read 185 = .ok (.if_icmp .ne 10, 3) := by decide +kernel
theorem dX7_read_188 : decode cX7_read 188 = .ok (.aload_n 0, 1) := by decide +kernel
theorem dX7_read_189 : decode cX7_read 189 = .ok (.getfield 153, 3) := by decide +kernel
theorem dX7_read_192 : decode cX7_read 192 = .ok (.ifCond .eq 11, 3) := by decide +kernel
theorem dX7_read_195 : decode cX7_read 195 = .ok (.aload_n 0, 1) := by decide +kernel
theorem dX7_read_196 : decode cX7_read 196 = .ok (.aload_n 0, 1) := by decide +kernel
theorem dX7_read_197 : decode cX7_read 197 = .ok (.getfield 130, 3) := by decide +kernel
theorem dX7_read_200 : decode cX7_read 200 = .ok (.invokevirtual 146, 3) := by decide +kernel
theorem dX7_read_203 : decode cX7_read 203 = .ok (.goto (-104), 3) := by decide +kernel
theorem dX7_read_206 : decode cX7_read 206 = .ok (.aload_n 0, 1) := by decide +kernel
theorem dX7_read_207 : decode cX7_read 207 = .ok (.getfield 120, 3) := by decide +kernel
theorem dX7_read_210 : decode cX7_read 210 = .ok (.ifCond .lt 11, 3) := by decide +kernel
theorem dX7_read_213 : decode cX7_read 213 = .ok (.bipush (-10), 2) := by decide +kernel
theorem dX7_read_215 : decode cX7_read 215 = .ok (.aload_n 0, 1) := by decide +kernel
theorem dX7_read_216 : decode cX7_read 216 = .ok (.getfield 120, 3) := by decide +kernel
theorem dX7_read_219 : decode cX7_read 219 = .ok (.isub, 1) := by decide +kernel
theorem dX7_read_220 : decode cX7_read 220 = .ok (.ireturn, 1) := by decide +kernel
theorem dX7_read_221 : decode cX7_read 221 = .ok (.aload_n 0, 1) := by decide +kernel
theorem dX7_read_222 : decode cX7_read 222 = .ok (.getfield 32, 3) := by decide +kernel
theorem dX7_read_225 : decode cX7_read 225 = .ok (.iconst 0, 1) := by decide +kernel
theorem dX7_read_226 : decode cX7_read 226 = .ok (.aload_n 0, 1) := by decide +kernel
theorem dX7_read_227 : decode cX7_read 227 = .ok (.getfield 32, 3) := by decide +kernel
theorem dX7_read_230 : decode cX7_read 230 = .ok (.iconst 1, 1) := by decide +kernel
theorem dX7_read_231 : decode cX7_read 231 = .ok (.iaload, 1) := by decide +kernel
theorem dX7_read_232 : decode cX7_read 232 = .ok (.iastore, 1) := by decide +kernel
theorem dX7_read_233 : decode cX7_read 233 = .ok (.aload_n 0, 1) := by decide +kernel
theorem dX7_read_234 : decode cX7_read 234 = .ok (.getfield 35, 3) := by decide +kernel
theorem dX7_read_237 : decode cX7_read 237 = .ok (.iconst 0, 1) := by decide +kernel
theorem dX7_read_238 : decode cX7_read 238 = .ok (.aload_n 0, 1) := by decide +kernel
theorem dX7_read_239 : decode cX7_read 239 = .ok (.getfield 35, 3) := by decide +kernel
theorem dX7_read_242 : decode cX7_read 242 = .ok (.iconst 1, 1) := by decide +kernel
theorem dX7_read_243 : decode cX7_read 243 = .ok (.iaload, 1) := by decide +kernel
theorem dX7_read_244 : decode cX7_read 244 = .ok (.iastore, 1) := by decide +kernel
theorem dX7_read_245 : decode cX7_read 245 = .ok (.aload_n 0, 1) := by decide +kernel
theorem dX7_read_246 : decode cX7_read 246 = .ok (.getfield 38, 3) := by decide +kernel
theorem dX7_read_249 : decode cX7_read 249 = .ok (.iconst 0, 1) := by decide +kernel
theorem dX7_read_250 : decode cX7_read 250 = .ok (.aload_n 0, 1) := by decide +kernel
theorem dX7_read_251 : decode cX7_read 251 = .ok (.getfield 38, 3) := by decide +kernel
theorem dX7_read_254 : decode cX7_read 254 = .ok (.iconst 1, 1) := by decide +kernel
theorem dX7_read_255 : decode cX7_read 255 = .ok (.iaload, 1) := by decide +kernel
theorem dX7_read_256 : decode cX7_read 256 = .ok (.iastore, 1) := by decide +kernel
theorem dX7_read_257 : decode cX7_read 257 = .ok (.iconst 0, 1) := by decide +kernel
theorem dX7_read_258 : decode cX7_read 258 = .ok (.istore_n 2, 1) := by decide +kernel
theorem dX7_read_259 : decode cX7_read 259 = .ok (.iload_n 2, 1) := by decide +kernel
theorem dX7_read_260 : decode cX7_read 260 = .ok (.bipush 60, 2) := by decide +kernel
theorem dX7_read_262 : decode cX7_read 262 = .ok (.if_icmp .ge 39, 3) := by decide +kernel
theorem dX7_read_265 : decode cX7_read 265 = .ok (.aload_n 0, 1) := by decide +kernel
theorem dX7_read_266 : decode cX7_read 266 = .ok (.getfield 41, 3) := by decide +kernel
theorem dX7_read_269 : decode cX7_read 269 = .ok (.iload_n 2, 1) := by decide +kernel
theorem dX7_read_270 : decode cX7_read 270 = .ok (.aload_n 0, 1) := by decide +kernel
theorem dX7_read_271 : decode cX7_read 271 = .ok (.getfield 41, 3) := by decide +kernel
theorem dX7_read_274 : decode cX7_read 274 = .ok (.bipush 60, 2) := by decide +kernel
theorem dX7_read_276 : decode cX7_read 276 = .ok (.iload_n 2, 1) := by decide +kernel
theorem dX7_read_277 : decode cX7_read 277 = .ok (.iadd, 1) := by decide +kernel
theorem dX7_read_278 : decode cX7_read 278 = .ok (.iaload, 1) := by decide +kernel
theorem dX7_read_279 : decode cX7_read 279 = .ok (.iastore, 1) := by decide +kernel
theorem dX7_read_280 : decode cX7_read 280 = .ok (.aload_n 0, 1) := by decide +kernel
theorem dX7_read_281 : decode cX7_read 281 = .ok (.getfield 44, 3) := by decide +kernel
theorem dX7_read_284 : decode cX7_read 284 = .ok (.iload_n 2, 1) := by decide +kernel
theorem dX7_read_285 : decode cX7_read 285 = .ok (.aload_n 0, 1) := by decide +kernel
theorem dX7_read_286 : decode cX7_read 286 = .ok (.getfield 44, 3) := by decide +kernel
theorem dX7_read_289 : decode cX7_read 289 = .ok (.bipush 60, 2) := by decide +kernel
theorem dX7_read_291 : decode cX7_read 291 = .ok (.iload_n 2, 1) := by decide +kernel
theorem dX7_read_292 : decode cX7_read 292 = .ok (.iadd, 1) := by decide +kernel
theorem dX7_read_293 : decode cX7_read 293 = .ok (.iaload, 1) := by decide +kernel
theorem dX7_read_294 : decode cX7_read 294 = .ok (.iastore, 1) := by decide +kernel
theorem dX7_read_295 : decode cX7_read 295 = .ok (.iinc 2 1, 3) := by decide +kernel
theorem dX7_read_298 : decode cX7_read 298 = .ok (.goto (-39), 3) := by decide +kernel
theorem dX7_read_301 : decode cX7_read 301 = .ok (.iconst 0, 1) := by decide +kernel
theorem dX7_read_302 : decode cX7_read 302 = .ok (.istore_n 2, 1) := by decide +kernel
theorem dX7_read_303 : decode cX7_read 303 = .ok (.iload_n 2, 1) := by decide +kernel
theorem dX7_read_304 : decode cX7_read 304 = .ok (.aload_n 0, 1) := by decide +kernel
theorem dX7_read_305 : decode cX7_read 305 = .ok (.getfield 35, 3) := by decide +kernel
theorem dX7_read_308 : decode cX7_read 308 = .ok (.iconst 1, 1) := by decide +kernel
theorem dX7_read_309 : decode cX7_read 309 = .ok (.iaload, 1) := by decide +kernel
theorem dX7_read_310 : decode cX7_read 310 = .ok (.if_icmp .ge 14, 3) := by decide +kernel
theorem dX7_read_313 : decode cX7_read 313 = .ok (.aload_n 0, 1) := by decide +kernel
theorem dX7_read_314 : decode cX7_read 314 = .ok (.iload_n 2, 1) := by decide +kernel
theorem dX7_read_315 : decode cX7_read 315 = .ok (.invokevirtual 205, 3) := by decide +kernel
theorem dX7_read_318 : decode cX7_read 318 = .ok (.iinc 2 1, 3) := by decide +kernel
theorem dX7_read_321 : decode cX7_read 321 = .ok (.goto (-18), 3) := by decide +kernel
theorem dX7_read_324 : decode cX7_read 324 = .ok (.aload_n 0, 1) := by decide +kernel
theorem dX7_read_325 : decode cX7_read 325 = .ok (.getfield 32, 3) := by decide +kernel
theorem dX7_read_328 : decode cX7_read 328 = .ok (.iconst 0, 1) := by decide +kernel
theorem dX7_read_329 : decode cX7_read 329 = .ok (.iaload, 1) := by decide +kernel
theorem dX7_read_330 : decode cX7_read 330 = .ok (.ireturn, 1) := by decide +kernel
theorem dX7_take_0 : decode cX7_take 0 = .ok (.sipush 600, 3) := by decide +kernel
theorem dX7_take_3 : decode cX7_take 3 = .ok (.iload_n 1, 1) := by decide +kernel
theorem dX7_take_4 : decode cX7_take 4 = .ok (.iadd, 1) := by decide +kernel
theorem dX7_take_5 : decode cX7_take 5 = .ok (.istore_n 2, 1) := by decide +kernel
theorem dX7_take_6 : decode cX7_take 6 = .ok (.aload_n 0, 1) := by decide +kernel
theorem dX7_take_7 : decode cX7_take 7 = .ok (.getfield 47, 3) := by decide +kernel
theorem dX7_take_10 : decode cX7_take 10 = .ok (.iload_n 1, 1) := by decide +kernel
theorem dX7_take_11 : decode cX7_take 11 = .ok (.aload_n 0, 1) := by decide +kernel
theorem dX7_take_12 : decode cX7_take 12 = .ok (.getfield 47, 3) := by decide +kernel
theorem dX7_take_15 : decode cX7_take 15 = .ok (.iload_n 2, 1) := by decide +kernel
theorem dX7_take_16 : decode cX7_take 16 = .ok (.iaload, 1) := by decide +kernel
theorem dX7_take_17 : decode cX7_take 17 = .ok (.iastore, 1) := by decide +kernel
theorem dX7_take_18 : decode cX7_take 18 = .ok (.aload_n 0, 1) := by decide +kernel
theorem dX7_take_19 : decode cX7_take 19 = .ok (.getfield 50, 3) := by decide +kernel
theorem dX7_take_22 : decode cX7_take 22 = .ok (.iload_n 1, 1) := by decide +kernel
theorem dX7_take_23 : decode cX7_take 23 = .ok (.aload_n 0, 1) := by decide +kernel
theorem dX7_take_24 : decode cX7_take 24 = .ok (.getfield 50, 3) := by decide +kernel
theorem dX7_take_27 : decode cX7_take 27 = .ok (.iload_n 2, 1) := by decide +kernel
theorem dX7_take_28 : decode cX7_take 28 = .ok (.iaload, 1) := by decide +kernel
theorem dX7_take_29 : decode cX7_take 29 = .ok (.iastore, 1) := by decide +kernel
theorem dX7_take_30 : decode cX7_take 30 = .ok (.aload_n 0, 1) := by decide +kernel
theorem dX7_take_31 : decode cX7_take 31 = .ok (.getfield 53, 3) := by decide +kernel
theorem dX7_take_34 : decode cX7_take 34 = .ok (.iload_n 1, 1) := by decide +kernel
theorem dX7_take_35 : decode cX7_take 35 = .ok (.aload_n 0, 1) := by decide +kernel
theorem dX7_take_36 : decode cX7_take 36 = .ok (.getfield 53, 3) := by decide +kernel
theorem dX7_take_39 : decode cX7_take 39 = .ok (.iload_n 2, 1) := by decide +kernel
theorem dX7_take_40 : decode cX7_take 40 = .ok (.iaload, 1) := by decide +kernel
theorem dX7_take_41 : decode cX7_take 41 = .ok (.iastore, 1) := by decide +kernel
theorem dX7_take_42 : decode cX7_take 42 = .ok (.aload_n 0, 1) := by decide +kernel
theorem dX7_take_43 : decode cX7_take 43 = .ok (.getfield 56, 3) := by decide +kernel
theorem dX7_take_46 : decode cX7_take 46 = .ok (.iload_n 1, 1) := by decide +kernel
theorem dX7_take_47 : decode cX7_take 47 = .ok (.aload_n 0, 1) := by decide +kernel
theorem dX7_take_48 : decode cX7_take 48 = .ok (.getfield 56, 3) := by decide +kernel
theorem dX7_take_51 : decode cX7_take 51 = .ok (.iload_n 2, 1) := by decide +kernel
theorem dX7_take_52 : decode cX7_take 52 = .ok (.iaload, 1) := by decide +kernel
theorem dX7_take_53 : decode cX7_take 53 = .ok (.iastore, 1) := by decide +kernel
theorem dX7_take_54 : decode cX7_take 54 = .ok (.aload_n 0, 1) := by decide +kernel
theorem dX7_take_55 : decode cX7_take 55 = .ok (.getfield 59, 3) := by decide +kernel
theorem dX7_take_58 : decode cX7_take 58 = .ok (.iload_n 1, 1) := by decide +kernel
theorem dX7_take_59 : decode cX7_take 59 = .ok (.aload_n 0, 1) := by decide +kernel
theorem dX7_take_60 : decode cX7_take 60 = .ok (.getfield 59, 3) := by decide +kernel
theorem dX7_take_63 : decode cX7_take 63 = .ok (.iload_n 2, 1) := by decide +kernel
theorem dX7_take_64 : decode cX7_take 64 = .ok (.iaload, 1) := by decide +kernel
theorem dX7_take_65 : decode cX7_take 65 = .ok (.iastore, 1) := by decide +kernel
theorem dX7_take_66 : decode cX7_take 66 = .ok (.aload_n 0, 1) := by decide +kernel
theorem dX7_take_67 : decode cX7_take 67 = .ok (.getfield 62, 3) := by decide +kernel
theorem dX7_take_70 : decode cX7_take 70 = .ok (.iload_n 1, 1) := by decide +kernel
theorem dX7_take_71 : decode cX7_take 71 = .ok (.aload_n 0, 1) := by decide +kernel
theorem dX7_take_72 : decode cX7_take 72 = .ok (.getfield 62, 3) := by decide +kernel
theorem dX7_take_75 : decode cX7_take 75 = .ok (.iload_n 2, 1) := by decide +kernel
theorem dX7_take_76 : decode cX7_take 76 = .ok (.iaload, 1) := by decide +kernel
theorem dX7_take_77 : decode cX7_take 77 = .ok (.iastore, 1) := by decide +kernel
theorem dX7_take_78 : decode cX7_take 78 = .ok (.aload_n 0, 1) := by decide +kernel
theorem dX7_take_79 : decode cX7_take 79 = .ok (.getfield 65, 3) := by decide +kernel
theorem dX7_take_82 : decode cX7_take 82 = .ok (.iload_n 1, 1) := by decide +kernel
theorem dX7_take_83 : decode cX7_take 83 = .ok (.aload_n 0, 1) := by decide +kernel
theorem dX7_take_84 : decode cX7_take 84 = .ok (.getfield 65, 3) := by decide +kernel
theorem dX7_take_87 : decode cX7_take 87 = .ok (.iload_n 2, 1) := by decide +kernel
theorem dX7_take_88 : decode cX7_take 88 = .ok (.iaload, 1) := by decide +kernel
theorem dX7_take_89 : decode cX7_take 89 = .ok (.iastore, 1) := by decide +kernel
theorem dX7_take_90 : decode cX7_take 90 = .ok (.aload_n 0, 1) := by decide +kernel
theorem dX7_take_91 : decode cX7_take 91 = .ok (.getfield 68, 3) := by decide +kernel
theorem dX7_take_94 : decode cX7_take 94 = .ok (.iload_n 1, 1) := by decide +kernel
theorem dX7_take_95 : decode cX7_take 95 = .ok (.aload_n 0, 1) := by decide +kernel
theorem dX7_take_96 : decode cX7_take 96 = .ok (.getfield 68, 3) := by decide +kernel
theorem dX7_take_99 : decode cX7_take 99 = .ok (.iload_n 2, 1) := by decide +kernel
theorem dX7_take_100 : decode cX7_take 100 = .ok (.iaload, 1) := by decide +kernel
theorem dX7_take_101 : decode cX7_take 101 = .ok (.iastore, 1) := by decide +kernel
theorem dX7_take_102 : decode cX7_take 102 = .ok (.aload_n 0, 1) := by decide +kernel
theorem dX7_take_103 : decode cX7_take 103 = .ok (.getfield 71, 3) := by decide +kernel
theorem dX7_take_106 : decode cX7_take 106 = .ok (.iload_n 1, 1) := by decide +kernel
theorem dX7_take_107 : decode cX7_take 107 = .ok (.aload_n 0, 1) := by decide +kernel
theorem dX7_take_108 : decode cX7_take 108 = .ok (.getfield 71, 3) := by decide +kernel
theorem dX7_take_111 : decode cX7_take 111 = .ok (.iload_n 2, 1) := by decide +kernel
theorem dX7_take_112 : decode cX7_take 112 = .ok (.iaload, 1) := by decide +kernel
theorem dX7_take_113 : decode cX7_take 113 = .ok (.iastore, 1) := by decide +kernel
theorem dX7_take_114 : decode cX7_take 114 = .ok (.aload_n 0, 1) := by decide +kernel
theorem dX7_take_115 : decode cX7_take 115 = .ok (.getfield 74, 3) := by decide +kernel
theorem dX7_take_118 : decode cX7_take 118 = .ok (.iload_n 1, 1) := by decide +kernel
theorem dX7_take_119 : decode cX7_take 119 = .ok (.aload_n 0, 1) := by decide +kernel
theorem dX7_take_120 : decode cX7_take 120 = .ok (.getfield 74, 3) := by decide +kernel
theorem dX7_take_123 : decode cX7_take 123 = .ok (.iload_n 2, 1) := by decide +kernel
theorem dX7_take_124 : decode cX7_take 124 = .ok (.iaload, 1) := by decide +kernel
theorem dX7_take_125 : decode cX7_take 125 = .ok (.iastore, 1) := by decide +kernel
theorem dX7_take_126 : decode cX7_take 126 = .ok (.iconst 0, 1) := by decide +kernel
theorem dX7_take_127 : decode cX7_take 127 = .ok (.istore_n 3, 1) := by decide +kernel
theorem dX7_take_128 : decode cX7_take 128 = .ok (.iload_n 3, 1) := by decide +kernel
theorem dX7_take_129 : decode cX7_take 129 = .ok (.iconst 4, 1) := by decide +kernel
theorem dX7_take_130 : decode cX7_take 130 = .ok (.if_icmp .ge 29, 3) := by decide +kernel
theorem dX7_take_133 : decode cX7_take 133 = .ok (.aload_n 0, 1) := by decide +kernel
theorem dX7_take_134 : decode cX7_take 134 = .ok (.getfield 77, 3) := by decide +kernel
theorem dX7_take_137 : decode cX7_take 137 = .ok (.iconst 4, 1) := by decide +kernel
theorem dX7_take_138 : decode cX7_take 138 = .ok (.iload_n 1, 1) := by decide +kernel
theorem dX7_take_139 : decode cX7_take 139 = .ok (.imul, 1) := by decide +kernel
theorem dX7_take_140 : decode cX7_take 140 = .ok (.iload_n 3, 1) := by decide +kernel
theorem dX7_take_141 : decode cX7_take 141 = .ok (.iadd, 1) := by decide +kernel
theorem dX7_take_142 : decode cX7_take 142 = .ok (.aload_n 0, 1) := by decide +kernel
theorem dX7_take_143 : decode cX7_take 143 = .ok (.getfield 77, 3) := by decide +kernel
theorem dX7_take_146 : decode cX7_take 146 = .ok (.iconst 4, 1) := by decide +kernel
theorem dX7_take_147 : decode cX7_take 147 = .ok (.iload_n 2, 1) := by decide +kernel
theorem dX7_take_148 : decode cX7_take 148 = .ok (.imul, 1) := by decide +kernel
theorem dX7_take_149 : decode cX7_take 149 = .ok (.iload_n 3, 1) := by decide +kernel
theorem dX7_take_150 : decode cX7_take 150 = .ok (.iadd, 1) := by decide +kernel
theorem dX7_take_151 : decode cX7_take 151 = .ok (.iaload, 1) := by decide +kernel
theorem dX7_take_152 : decode cX7_take 152 = .ok (.iastore, 1) := by decide +kernel
theorem dX7_take_153 : decode cX7_take 153 = .ok (.iinc 3 1, 3) := by decide +kernel
theorem dX7_take_156 : decode cX7_take 156 = .ok (.goto (-28), 3) := by decide +kernel
theorem dX7_take_159 : decode cX7_take 159 = .ok (.return_, 1) := by decide +kernel
theorem dX7_meter_0 : decode cX7_meter 0 = .ok (.iload_n 1, 1) := by decide +kernel
theorem dX7_meter_1 : decode cX7_meter 1 = .ok (.iconst 1, 1) := by decide +kernel
theorem dX7_meter_2 : decode cX7_meter 2 = .ok (.if_icmp .lt 40, 3) := by decide +kernel
theorem dX7_meter_5 : decode cX7_meter 5 = .ok (.iload_n 1, 1) := by decide +kernel
theorem dX7_meter_6 : decode cX7_meter 6 = .ok (.bipush 16, 2) := by decide +kernel
theorem dX7_meter_8 : decode cX7_meter 8 = .ok (.if_icmp .gt 34, 3) := by decide +kernel
theorem dX7_meter_11 : decode cX7_meter 11 = .ok (.iload_n 2, 1) := by decide +kernel
theorem dX7_meter_12 : decode cX7_meter 12 = .ok (.iconst 1, 1) := by decide +kernel
theorem dX7_meter_13 : decode cX7_meter 13 = .ok (.if_icmp .eq 25, 3) := by decide +kernel
theorem dX7_meter_16 : decode cX7_meter 16 = .ok (.iload_n 2, 1) := by decide +kernel
theorem dX7_meter_17 : decode cX7_meter 17 = .ok (.iconst 2, 1) := by decide +kernel
theorem dX7_meter_18 : decode cX7_meter 18 = .ok (.if_icmp .eq 20, 3) := by decide +kernel
theorem dX7_meter_21 : decode cX7_meter 21 = .ok (.iload_n 2, 1) := by decide +kernel
theorem dX7_meter_22 : decode cX7_meter 22 = .ok (.iconst 4, 1) := by decide +kernel
theorem dX7_meter_23 : decode cX7_meter 23 = .ok (.if_icmp .eq 15, 3) := by decide +kernel
theorem dX7_meter_26 : decode cX7_meter 26 = .ok (.iload_n 2, 1) := by decide +kernel
theorem dX7_meter_27 : decode cX7_meter 27 = .ok (.bipush 8, 2) := by decide +kernel
theorem dX7_meter_29 : decode cX7_meter 29 = .ok (.if_icmp .eq 9, 3) := by decide +kernel
theorem dX7_meter_32 : decode cX7_meter 32 = .ok (.iload_n 2, 1) := by decide +kernel
theorem dX7_meter_33 : decode cX7_meter 33 = .ok (.bipush 16, 2) := by decide +kernel
theorem dX7_meter_35 : decode cX7_meter 35 = .ok (.if_icmp .ne 7, 3) := by decide +kernel
theorem dX7_meter_38 : decode cX7_meter 38 = .ok (.iconst 1, 1) := by decide +kernel
theorem dX7_meter_39 : decode cX7_meter 39 = .ok (.goto 4, 3) := by decide +kernel
theorem dX7_meter_42 : decode cX7_meter 42 = .ok (.iconst 0, 1) := by decide +kernel
theorem dX7_meter_43 : decode cX7_meter 43 = .ok (.istore_n 3, 1) := by decide +kernel
theorem dX7_meter_44 : decode cX7_meter 44 = .ok (.iload_n 3, 1) := by decide +kernel
theorem dX7_meter_45 : decode cX7_meter 45 = .ok (.ifCond .eq 16, 3) := by decide +kernel
theorem dX7_meter_48 : decode cX7_meter 48 = .ok (.sipush 512, 3) := by decide +kernel
theorem dX7_meter_51 : decode cX7_meter 51 = .ok (.iload_n 1, 1) := by decide +kernel
theorem dX7_meter_52 : decode cX7_meter 52 = .ok (.imul, 1) := by decide +kernel
theorem dX7_meter_53 : decode cX7_meter 53 = .ok (.iload_n 2, 1) := by decide +kernel
theorem dX7_meter_54 : decode cX7_meter 54 = .ok (.idiv, 1) := by decide +kernel
theorem dX7_meter_55 : decode cX7_meter 55 = .ok (.sipush 2048, 3) := by decide +kernel
theorem dX7_meter_58 : decode cX7_meter 58 = .ok (.if_icmp .le 6, 3) := by decide +kernel
theorem dX7_meter_61 : decode cX7_meter 61 = .ok (.bipush (-2), 2) := by decide +kernel
theorem dX7_meter_63 : decode cX7_meter 63 = .ok (.ireturn, 1) := by decide +kernel
theorem dX7_meter_64 : decode cX7_meter 64 = .ok (.aload_n 0, 1) := by decide +kernel
theorem dX7_meter_65 : decode cX7_meter 65 = .ok (.getfield 32, 3) := by decide +kernel
theorem dX7_meter_68 : decode cX7_meter 68 = .ok (.iconst 0, 1) := by decide +kernel
theorem dX7_meter_69 : decode cX7_meter 69 = .ok (.iaload, 1) := by decide +kernel
theorem dX7_meter_70 : decode cX7_meter 70 = .ok (.ifCond .le 6, 3) := by decide +kernel
theorem dX7_meter_73 : decode cX7_meter 73 = .ok (.bipush (-3), 2) := by decide +kernel
theorem dX7_meter_75 : decode cX7_meter 75 = .ok (.ireturn, 1) := by decide +kernel
theorem dX7_meter_76 : decode cX7_meter 76 = .ok (.aload_n 0, 1) := by decide +kernel
theorem dX7_meter_77 : decode cX7_meter 77 = .ok (.sipush 512, 3) := by decide +kernel
theorem dX7_meter_80 : decode cX7_meter 80 = .ok (.iload_n 1, 1) := by decide +kernel
theorem dX7_meter_81 : decode cX7_meter 81 = .ok (.imul, 1) := by decide +kernel
theorem dX7_meter_82 : decode cX7_meter 82 = .ok (.iload_n 2, 1) := by decide +kernel
theorem dX7_meter_83 : decode cX7_meter 83 = .ok (.idiv, 1) := by decide +kernel
theorem dX7_meter_84 : decode cX7_meter 84 = .ok (.putfield 28, 3) := by decide +kernel
theorem dX7_meter_87 : decode cX7_meter 87 = .ok (.aload_n 0, 1) := by decide +kernel
theorem dX7_meter_88 : decode cX7_meter 88 = .ok (.getfield 28, 3) := by decide +kernel
theorem dX7_meter_91 : decode cX7_meter 91 = .ok (.ireturn, 1) := by decide +kernel
theorem dX7_hand_0 : decode cX7_hand 0 = .ok (.iload_n 1, 1) := by decide +kernel
theorem dX7_hand_1 : decode cX7_hand 1 = .ok (.ifCond .lt 8, 3) := by decide +kernel
theorem dX7_hand_4 : decode cX7_hand 4 = .ok (.iload_n 1, 1) := by decide +kernel
theorem dX7_hand_5 : decode cX7_hand 5 = .ok (.iconst 2, 1) := by decide +kernel
theorem dX7_hand_6 : decode cX7_hand 6 = .ok (.if_icmp .le 6, 3) := by decide +kernel
theorem dX7_hand_9 : decode cX7_hand 9 = .ok (.bipush (-2), 2) := by decide +kernel
theorem dX7_hand_11 : decode cX7_hand 11 = .ok (.ireturn, 1) := by decide +kernel
theorem dX7_hand_12 : decode cX7_hand 12 = .ok (.iconst 0, 1) := by decide +kernel
theorem dX7_hand_13 : decode cX7_hand 13 = .ok (.istore_n 2, 1) := by decide +kernel
theorem dX7_hand_14 : decode cX7_hand 14 = .ok (.iload_n 2, 1) := by decide +kernel
theorem dX7_hand_15 : decode cX7_hand 15 = .ok (.aload_n 0, 1) := by decide +kernel
theorem dX7_hand_16 : decode cX7_hand 16 = .ok (.getfield 35, 3) := by decide +kernel
theorem dX7_hand_19 : decode cX7_hand 19 = .ok (.iconst 0, 1) := by decide +kernel
theorem dX7_hand_20 : decode cX7_hand 20 = .ok (.iaload, 1) := by decide +kernel
theorem dX7_hand_21 : decode cX7_hand 21 = .ok (.if_icmp .ge 89, 3) := by decide +kernel
theorem dX7_hand_24 : decode cX7_hand 24 = .ok (.iconst 0, 1) := by decide +kernel
theorem dX7_hand_25 : decode cX7_hand 25 = .ok (.istore_n 3, 1) := by decide +kernel
theorem dX7_hand_26 : decode cX7_hand 26 = .ok (.iload_n 3, 1) := by decide +kernel
theorem dX7_hand_27 : decode cX7_hand 27 = .ok (.aload_n 0, 1) := by decide +kernel
theorem dX7_hand_28 : decode cX7_hand 28 = .ok (.getfield 74, 3) := by decide +kernel
theorem dX7_hand_31 : decode cX7_hand 31 = .ok (.iload_n 2, 1) := by decide +kernel
theorem dX7_hand_32 : decode cX7_hand 32 = .ok (.iaload, 1) := by decide +kernel
theorem dX7_hand_33 : decode cX7_hand 33 = .ok (.if_icmp .ge 71, 3) := by decide +kernel
theorem dX7_hand_36 : decode cX7_hand 36 = .ok (.aload_n 0, 1) := by decide +kernel
theorem dX7_hand_37 : decode cX7_hand 37 = .ok (.getfield 77, 3) := by decide +kernel
theorem dX7_hand_40 : decode cX7_hand 40 = .ok (.iconst 4, 1) := by decide +kernel
theorem dX7_hand_41 : decode cX7_hand 41 = .ok (.iload_n 2, 1) := by decide +kernel
theorem dX7_hand_42 : decode cX7_hand 42 = .ok (.imul, 1) := by decide +kernel
theorem dX7_hand_43 : decode cX7_hand 43 = .ok (.iload_n 3, 1) := by decide +kernel
theorem dX7_hand_44 : decode cX7_hand 44 = .ok (.iadd, 1) := by decide +kernel
theorem dX7_hand_45 : decode cX7_hand 45 = .ok (.iaload, 1) := by decide +kernel
theorem dX7_hand_46 : decode cX7_hand 46 = .ok (.bipush 16, 2) := by decide +kernel
theorem dX7_hand_48 : decode cX7_hand 48 = .ok (.irem, 1) := by decide +kernel
theorem dX7_hand_49 : decode cX7_hand 49 = .ok (.iconst 1, 1) := by decide +kernel
theorem dX7_hand_50 : decode cX7_hand 50 = .ok (.isub, 1) := by decide +kernel
theorem dX7_hand_51 : decode cX7_hand 51 = .ok (.istore 4, 2) := by decide +kernel
theorem dX7_hand_53 : decode cX7_hand 53 = .ok (.iload_n 1, 1) := by decide +kernel
theorem dX7_hand_54 : decode cX7_hand 54 = .ok (.iconst 2, 1) := by decide +kernel
theorem dX7_hand_55 : decode cX7_hand 55 = .ok (.if_icmp .ne 15, 3) := by decide +kernel
theorem dX7_hand_58 : decode cX7_hand 58 = .ok (.aload_n 0, 1) := by decide +kernel
theorem dX7_hand_59 : decode cX7_hand 59 = .ok (.getfield 53, 3) := by decide +kernel
theorem dX7_hand_62 : decode cX7_hand 62 = .ok (.iload_n 2, 1) := by decide +kernel
theorem dX7_hand_63 : decode cX7_hand 63 = .ok (.iaload, 1) := by decide +kernel
theorem dX7_hand_64 : decode cX7_hand 64 = .ok (.iload 4, 2) := by decide +kernel
theorem dX7_hand_66 : decode cX7_hand 66 = .ok (.iadd, 1) := by decide +kernel
theorem dX7_hand_67 : decode cX7_hand 67 = .ok (.goto 12, 3) := by decide +kernel
theorem dX7_hand_70 : decode cX7_hand 70 = .ok (.aload_n 0, 1) := by decide +kernel
theorem dX7_hand_71 : decode cX7_hand 71 = .ok (.getfield 53, 3) := by decide +kernel
theorem dX7_hand_74 : decode cX7_hand 74 = .ok (.iload_n 2, 1) := by decide +kernel
theorem dX7_hand_75 : decode cX7_hand 75 = .ok (.iaload, 1) := by decide +kernel
theorem dX7_hand_76 : decode cX7_hand 76 = .ok (.iload 4, 2) := by decide +kernel
theorem dX7_hand_78 : decode cX7_hand 78 = .ok (.isub, 1) := by decide +kernel
theorem dX7_hand_79 : decode cX7_hand 79 = .ok (.istore 5, 2) := by decide +kernel
theorem dX7_hand_81 : decode cX7_hand 81 = .ok (.iload 5, 2) := by decide +kernel
theorem dX7_hand_83 : decode cX7_hand 83 = .ok (.bipush 7, 2) := by decide +kernel
theorem dX7_hand_85 : decode cX7_hand 85 = .ok (.if_icmp .lt 10, 3) := by decide +kernel
theorem dX7_hand_88 : decode cX7_hand 88 = .ok (.iload 5, 2) := by decide +kernel
theorem dX7_hand_90 : decode cX7_hand 90 = .ok (.bipush 55, 2) := by decide +kernel
theorem dX7_hand_92 : decode cX7_hand 92 = .ok (.if_icmp .le 6, 3) := by decide +kernel
theorem dX7_hand_95 : decode cX7_hand 95 = .ok (.bipush (-3), 2) := by decide +kernel
theorem dX7_hand_97 : decode cX7_hand 97 = .ok (.ireturn, 1) := by decide +kernel
theorem dX7_hand_98 : decode cX7_hand 98 = .ok (.iinc 3 1, 3) := by decide +kernel
theorem dX7_hand_101 : decode cX7_hand 101 = .ok (.goto (-75), 3) := by decide +kernel
theorem dX7_hand_104 : decode cX7_hand 104 = .ok (.iinc 2 1, 3) := by decide +kernel
theorem dX7_hand_107 : decode cX7_hand 107 = .ok (.goto (-93), 3) := by decide +kernel
theorem dX7_hand_110 : decode cX7_hand 110 = .ok (.aload_n 0, 1) := by decide +kernel
theorem dX7_hand_111 : decode cX7_hand 111 = .ok (.getfield 38, 3) := by decide +kernel
theorem dX7_hand_114 : decode cX7_hand 114 = .ok (.iconst 0, 1) := by decide +kernel
theorem dX7_hand_115 : decode cX7_hand 115 = .ok (.iaload, 1) := by decide +kernel
theorem dX7_hand_116 : decode cX7_hand 116 = .ok (.istore_n 2, 1) := by decide +kernel
theorem dX7_hand_117 : decode cX7_hand 117 = .ok (.aload_n 0, 1) := by decide +kernel
theorem dX7_hand_118 : decode cX7_hand 118 = .ok (.getfield 38, 3) := by decide +kernel
theorem dX7_hand_121 : decode cX7_hand 121 = .ok (.iconst 0, 1) := by decide +kernel
theorem dX7_hand_122 : decode cX7_hand 122 = .ok (.iload_n 1, 1) := by decide +kernel
theorem dX7_hand_123 : decode cX7_hand 123 = .ok (.iastore, 1) := by decide +kernel
theorem dX7_hand_124 : decode cX7_hand 124 = .ok (.iload_n 2, 1) := by decide +kernel
theorem dX7_hand_125 : decode cX7_hand 125 = .ok (.ireturn, 1) := by decide +kernel
theorem dX7_lacks_0 : decode cX7_lacks 0 = .ok (.aload_n 0, 1) := by decide +kernel
theorem dX7_lacks_1 : decode cX7_lacks 1 = .ok (.getfield 32, 3) := by decide +kernel
theorem dX7_lacks_4 : decode cX7_lacks 4 = .ok (.iconst 0, 1) := by decide +kernel
theorem dX7_lacks_5 : decode cX7_lacks 5 = .ok (.iaload, 1) := by decide +kernel
theorem dX7_lacks_6 : decode cX7_lacks 6 = .ok (.iconst 1, 1) := by decide +kernel
theorem dX7_lacks_7 : decode cX7_lacks 7 = .ok (.isub, 1) := by decide +kernel
theorem dX7_lacks_8 : decode cX7_lacks 8 = .ok (.istore_n 1, 1) := by decide +kernel
theorem dX7_lacks_9 : decode cX7_lacks 9 = .ok (.iload_n 1, 1) := by decide +kernel
theorem dX7_lacks_10 : decode cX7_lacks 10 = .ok (.ifCond .lt 37, 3) := by decide +kernel
theorem dX7_lacks_13 : decode cX7_lacks 13 = .ok (.aload_n 0, 1) := by decide +kernel
theorem dX7_lacks_14 : decode cX7_lacks 14 = .ok (.getfield 41, 3) := by decide +kernel
theorem dX7_lacks_17 : decode cX7_lacks 17 = .ok (.iload_n 1, 1) := by decide +kernel
theorem dX7_lacks_18 : decode cX7_lacks 18 = .ok (.iaload, 1) := by decide +kernel
theorem dX7_lacks_19 : decode cX7_lacks 19 = .ok (.ifCond .ne 28, 3) := by decide +kernel
theorem dX7_lacks_22 : decode cX7_lacks 22 = .ok (.aload_n 0, 1) := by decide +kernel
theorem dX7_lacks_23 : decode cX7_lacks 23 = .ok (.iconst 0, 1) := by decide +kernel
theorem dX7_lacks_24 : decode cX7_lacks 24 = .ok (.iload_n 1, 1) := by decide +kernel
theorem dX7_lacks_25 : decode cX7_lacks 25 = .ok (.aload_n 0, 1) := by decide +kernel
theorem dX7_lacks_26 : decode cX7_lacks 26 = .ok (.getfield 44, 3) := by decide +kernel
theorem dX7_lacks_29 : decode cX7_lacks 29 = .ok (.iload_n 1, 1) := by decide +kernel
theorem dX7_lacks_30 : decode cX7_lacks 30 = .ok (.iaload, 1) := by decide +kernel
theorem dX7_lacks_31 : decode cX7_lacks 31 = .ok (.iconst 1, 1) := by decide +kernel
theorem dX7_lacks_32 : decode cX7_lacks 32 = .ok (.isub, 1) := by decide +kernel
theorem dX7_lacks_33 : decode cX7_lacks 33 = .ok (.invokevirtual 208, 3) := by decide +kernel
theorem dX7_lacks_36 : decode cX7_lacks 36 = .ok (.aload_n 0, 1) := by decide +kernel
theorem dX7_lacks_37 : decode cX7_lacks 37 = .ok (.getfield 28, 3) := by decide +kernel
theorem dX7_lacks_40 : decode cX7_lacks 40 = .ok (.if_icmp .eq 7, 3) := by decide +kernel
theorem dX7_lacks_43 : decode cX7_lacks 43 = .ok (.iconst 1, 1) := by decide +kernel
theorem dX7_lacks_44 : decode cX7_lacks 44 = .ok (.goto 4, 3) := by decide +kernel
theorem dX7_lacks_47 : decode cX7_lacks 47 = .ok (.iconst 0, 1) := by decide +kernel
theorem dX7_lacks_48 : decode cX7_lacks 48 = .ok (.ireturn, 1) := by decide +kernel
theorem dX7_bar_0 : decode cX7_bar 0 = .ok (.aload_n 0, 1) := by decide +kernel
theorem dX7_bar_1 : decode cX7_bar 1 = .ok (.invokevirtual 211, 3) := by decide +kernel
theorem dX7_bar_4 : decode cX7_bar 4 = .ok (.ifCond .ne 16, 3) := by decide +kernel
theorem dX7_bar_7 : decode cX7_bar 7 = .ok (.iload_n 1, 1) := by decide +kernel
theorem dX7_bar_8 : decode cX7_bar 8 = .ok (.ifCond .eq 15, 3) := by decide +kernel
theorem dX7_bar_11 : decode cX7_bar 11 = .ok (.aload_n 0, 1) := by decide +kernel
theorem dX7_bar_12 : decode cX7_bar 12 = .ok (.getfield 32, 3) := by decide +kernel
theorem dX7_bar_15 : decode cX7_bar 15 = .ok (.iconst 0, 1) := by decide +kernel
theorem dX7_bar_16 : decode cX7_bar 16 = .ok (.iaload, 1) := by decide +kernel
theorem dX7_bar_17 : decode cX7_bar 17 = .ok (.ifCond .ne 6, 3) := by decide +kernel
theorem dX7_bar_20 : decode cX7_bar 20 = .ok (.bipush (-3), 2) := by decide +kernel
theorem dX7_bar_22 : decode cX7_bar 22 = .ok (.ireturn, 1) := by decide +kernel
theorem dX7_bar_23 : decode cX7_bar 23 = .ok (.aload_n 0, 1) := by decide +kernel
theorem dX7_bar_24 : decode cX7_bar 24 = .ok (.getfield 32, 3) := by decide +kernel
theorem dX7_bar_27 : decode cX7_bar 27 = .ok (.iconst 0, 1) := by decide +kernel
theorem dX7_bar_28 : decode cX7_bar 28 = .ok (.iaload, 1) := by decide +kernel
theorem dX7_bar_29 : decode cX7_bar 29 = .ok (.bipush 60, 2) := by decide +kernel
theorem dX7_bar_31 : decode cX7_bar 31 = .ok (.if_icmp .ne 6, 3) := by decide +kernel
theorem dX7_bar_34 : decode cX7_bar 34 = .ok (.bipush (-4), 2) := by decide +kernel
theorem dX7_bar_36 : decode cX7_bar 36 = .ok (.ireturn, 1) := by decide +kernel
theorem dX7_bar_37 : decode cX7_bar 37 = .ok (.aload_n 0, 1) := by decide +kernel
theorem dX7_bar_38 : decode cX7_bar 38 = .ok (.getfield 41, 3) := by decide +kernel
theorem dX7_bar_41 : decode cX7_bar 41 = .ok (.aload_n 0, 1) := by decide +kernel
theorem dX7_bar_42 : decode cX7_bar 42 = .ok (.getfield 32, 3) := by decide +kernel
theorem dX7_bar_45 : decode cX7_bar 45 = .ok (.iconst 0, 1) := by decide +kernel
theorem dX7_bar_46 : decode cX7_bar 46 = .ok (.iaload, 1) := by decide +kernel
theorem dX7_bar_47 : decode cX7_bar 47 = .ok (.iload_n 1, 1) := by decide +kernel
theorem dX7_bar_48 : decode cX7_bar 48 = .ok (.ifCond .eq 7, 3) := by decide +kernel
theorem dX7_bar_51 : decode cX7_bar 51 = .ok (.iconst 1, 1) := by decide +kernel
theorem dX7_bar_52 : decode cX7_bar 52 = .ok (.goto 4, 3) := by decide +kernel
theorem dX7_bar_55 : decode cX7_bar 55 = .ok (.iconst 0, 1) := by decide +kernel
theorem dX7_bar_56 : decode cX7_bar 56 = .ok (.iastore, 1) := by decide +kernel
theorem dX7_bar_57 : decode cX7_bar 57 = .ok (.aload_n 0, 1) := by decide +kernel
theorem dX7_bar_58 : decode cX7_bar 58 = .ok (.getfield 44, 3) := by decide +kernel
theorem dX7_bar_61 : decode cX7_bar 61 = .ok (.aload_n 0, 1) := by decide +kernel
theorem dX7_bar_62 : decode cX7_bar 62 = .ok (.getfield 32, 3) := by decide +kernel
theorem dX7_bar_65 : decode cX7_bar 65 = .ok (.iconst 0, 1) := by decide +kernel
theorem dX7_bar_66 : decode cX7_bar 66 = .ok (.iaload, 1) := by decide +kernel
theorem dX7_bar_67 : decode cX7_bar 67 = .ok (.iload_n 1, 1) := by decide +kernel
theorem dX7_bar_68 : decode cX7_bar 68 = .ok (.ifCond .eq 7, 3) := by decide +kernel
theorem dX7_bar_71 : decode cX7_bar 71 = .ok (.iconst 0, 1) := by decide +kernel
theorem dX7_bar_72 : decode cX7_bar 72 = .ok (.goto 4, 3) := by decide +kernel
theorem dX7_bar_75 : decode cX7_bar 75 = .ok (.iconst 1, 1) := by decide +kernel
theorem dX7_bar_76 : decode cX7_bar 76 = .ok (.iastore, 1) := by decide +kernel
theorem dX7_bar_77 : decode cX7_bar 77 = .ok (.aload_n 0, 1) := by decide +kernel
theorem dX7_bar_78 : decode cX7_bar 78 = .ok (.getfield 32, 3) := by decide +kernel
theorem dX7_bar_81 : decode cX7_bar 81 = .ok (.iconst 0, 1) := by decide +kernel
theorem dX7_bar_82 : decode cX7_bar 82 = .ok (.dup2, 1) := by decide +kernel
theorem dX7_bar_83 : decode cX7_bar 83 = .ok (.iaload, 1) := by decide +kernel
theorem dX7_bar_84 : decode cX7_bar 84 = .ok (.iconst 1, 1) := by decide +kernel
theorem dX7_bar_85 : decode cX7_bar 85 = .ok (.iadd, 1) := by decide +kernel
theorem dX7_bar_86 : decode cX7_bar 86 = .ok (.iastore, 1) := by decide +kernel
theorem dX7_bar_87 : decode cX7_bar 87 = .ok (.aload_n 0, 1) := by decide +kernel
theorem dX7_bar_88 : decode cX7_bar 88 = .ok (.getfield 32, 3) := by decide +kernel
theorem dX7_bar_91 : decode cX7_bar 91 = .ok (.iconst 0, 1) := by decide +kernel
theorem dX7_bar_92 : decode cX7_bar 92 = .ok (.iaload, 1) := by decide +kernel
theorem dX7_bar_93 : decode cX7_bar 93 = .ok (.iconst 1, 1) := by decide +kernel
theorem dX7_bar_94 : decode cX7_bar 94 = .ok (.isub, 1) := by decide +kernel
theorem dX7_bar_95 : decode cX7_bar 95 = .ok (.ireturn, 1) := by decide +kernel
theorem dX7_voice_0 : decode cX7_voice 0 = .ok (.aload_n 0, 1) := by decide +kernel
theorem dX7_voice_1 : decode cX7_voice 1 = .ok (.getfield 32, 3) := by decide +kernel
theorem dX7_voice_4 : decode cX7_voice 4 = .ok (.iconst 0, 1) := by decide +kernel
theorem dX7_voice_5 : decode cX7_voice 5 = .ok (.iaload, 1) := by decide +kernel
theorem dX7_voice_6 : decode cX7_voice 6 = .ok (.iconst 1, 1) := by decide +kernel
theorem dX7_voice_7 : decode cX7_voice 7 = .ok (.isub, 1) := by decide +kernel
theorem dX7_voice_8 : decode cX7_voice 8 = .ok (.istore_n 1, 1) := by decide +kernel
theorem dX7_voice_9 : decode cX7_voice 9 = .ok (.iload_n 1, 1) := by decide +kernel
theorem dX7_voice_10 : decode cX7_voice 10 = .ok (.ifCond .lt 20, 3) := by decide +kernel
theorem dX7_voice_13 : decode cX7_voice 13 = .ok (.aload_n 0, 1) := by decide +kernel
theorem dX7_voice_14 : decode cX7_voice 14 = .ok (.getfield 41, 3) := by decide +kernel
theorem dX7_voice_17 : decode cX7_voice 17 = .ok (.iload_n 1, 1) := by decide +kernel
theorem dX7_voice_18 : decode cX7_voice 18 = .ok (.iaload, 1) := by decide +kernel
theorem dX7_voice_19 : decode cX7_voice 19 = .ok (.iconst 1, 1) := by decide +kernel
theorem dX7_voice_20 : decode cX7_voice 20 = .ok (.if_icmp .eq 10, 3) := by decide +kernel
theorem dX7_voice_23 : decode cX7_voice 23 = .ok (.aload_n 0, 1) := by decide +kernel
theorem dX7_voice_24 : decode cX7_voice 24 = .ok (.invokevirtual 211, 3) := by decide +kernel
theorem dX7_voice_27 : decode cX7_voice 27 = .ok (.ifCond .eq 6, 3) := by decide +kernel
theorem dX7_voice_30 : decode cX7_voice 30 = .ok (.bipush (-3), 2) := by decide +kernel
theorem dX7_voice_32 : decode cX7_voice 32 = .ok (.ireturn, 1) := by decide +kernel
theorem dX7_voice_33 : decode cX7_voice 33 = .ok (.aload_n 0, 1) := by decide +kernel
theorem dX7_voice_34 : decode cX7_voice 34 = .ok (.getfield 44, 3) := by decide +kernel
theorem dX7_voice_37 : decode cX7_voice 37 = .ok (.iload_n 1, 1) := by decide +kernel
theorem dX7_voice_38 : decode cX7_voice 38 = .ok (.iaload, 1) := by decide +kernel
theorem dX7_voice_39 : decode cX7_voice 39 = .ok (.iconst 3, 1) := by decide +kernel
theorem dX7_voice_40 : decode cX7_voice 40 = .ok (.if_icmp .ne 6, 3) := by decide +kernel
theorem dX7_voice_43 : decode cX7_voice 43 = .ok (.bipush (-4), 2) := by decide +kernel
theorem dX7_voice_45 : decode cX7_voice 45 = .ok (.ireturn, 1) := by decide +kernel
theorem dX7_voice_46 : decode cX7_voice 46 = .ok (.aload_n 0, 1) := by decide +kernel
theorem dX7_voice_47 : decode cX7_voice 47 = .ok (.getfield 44, 3) := by decide +kernel
theorem dX7_voice_50 : decode cX7_voice 50 = .ok (.iload_n 1, 1) := by decide +kernel
theorem dX7_voice_51 : decode cX7_voice 51 = .ok (.dup2, 1) := by decide +kernel
theorem dX7_voice_52 : decode cX7_voice 52 = .ok (.iaload, 1) := by decide +kernel
theorem dX7_voice_53 : decode cX7_voice 53 = .ok (.iconst 1, 1) := by decide +kernel
theorem dX7_voice_54 : decode cX7_voice 54 = .ok (.iadd, 1) := by decide +kernel
theorem dX7_voice_55 : decode cX7_voice 55 = .ok (.iastore, 1) := by decide +kernel
theorem dX7_voice_56 : decode cX7_voice 56 = .ok (.aload_n 0, 1) := by decide +kernel
theorem dX7_voice_57 : decode cX7_voice 57 = .ok (.getfield 44, 3) := by decide +kernel
theorem dX7_voice_60 : decode cX7_voice 60 = .ok (.iload_n 1, 1) := by decide +kernel
theorem dX7_voice_61 : decode cX7_voice 61 = .ok (.iaload, 1) := by decide +kernel
theorem dX7_voice_62 : decode cX7_voice 62 = .ok (.iconst 1, 1) := by decide +kernel
theorem dX7_voice_63 : decode cX7_voice 63 = .ok (.isub, 1) := by decide +kernel
theorem dX7_voice_64 : decode cX7_voice 64 = .ok (.ireturn, 1) := by decide +kernel
theorem dX7_barred_0 : decode cX7_barred 0 = .ok (.aload_n 0, 1) := by decide +kernel
theorem dX7_barred_1 : decode cX7_barred 1 = .ok (.getfield 32, 3) := by decide +kernel
theorem dX7_barred_4 : decode cX7_barred 4 = .ok (.iconst 0, 1) := by decide +kernel
theorem dX7_barred_5 : decode cX7_barred 5 = .ok (.iaload, 1) := by decide +kernel
theorem dX7_barred_6 : decode cX7_barred 6 = .ok (.iconst 1, 1) := by decide +kernel
theorem dX7_barred_7 : decode cX7_barred 7 = .ok (.isub, 1) := by decide +kernel
theorem dX7_barred_8 : decode cX7_barred 8 = .ok (.istore_n 2, 1) := by decide +kernel
theorem dX7_barred_9 : decode cX7_barred 9 = .ok (.iload_n 2, 1) := by decide +kernel
theorem dX7_barred_10 : decode cX7_barred 10 = .ok (.ifCond .lt 13, 3) := by decide +kernel
theorem dX7_barred_13 : decode cX7_barred 13 = .ok (.aload_n 0, 1) := by decide +kernel
theorem dX7_barred_14 : decode cX7_barred 14 = .ok (.getfield 41, 3) := by decide +kernel
theorem dX7_barred_17 : decode cX7_barred 17 = .ok (.iload_n 2, 1) := by decide +kernel
theorem dX7_barred_18 : decode cX7_barred 18 = .ok (.iaload, 1) := by decide +kernel
theorem dX7_barred_19 : decode cX7_barred 19 = .ok (.iconst 1, 1) := by decide +kernel
theorem dX7_barred_20 : decode cX7_barred 20 = .ok (.if_icmp .ne 6, 3) := by decide +kernel
theorem dX7_barred_23 : decode cX7_barred 23 = .ok (.bipush (-3), 2) := by decide +kernel
theorem dX7_barred_25 : decode cX7_barred 25 = .ok (.ireturn, 1) := by decide +kernel
theorem dX7_barred_26 : decode cX7_barred 26 = .ok (.aload_n 0, 1) := by decide +kernel
theorem dX7_barred_27 : decode cX7_barred 27 = .ok (.getfield 44, 3) := by decide +kernel
theorem dX7_barred_30 : decode cX7_barred 30 = .ok (.iload_n 2, 1) := by decide +kernel
theorem dX7_barred_31 : decode cX7_barred 31 = .ok (.iaload, 1) := by decide +kernel
theorem dX7_barred_32 : decode cX7_barred 32 = .ok (.iconst 1, 1) := by decide +kernel
theorem dX7_barred_33 : decode cX7_barred 33 = .ok (.isub, 1) := by decide +kernel
theorem dX7_barred_34 : decode cX7_barred 34 = .ok (.istore_n 3, 1) := by decide +kernel
theorem dX7_barred_35 : decode cX7_barred 35 = .ok (.aload_n 0, 1) := by decide +kernel
theorem dX7_barred_36 : decode cX7_barred 36 = .ok (.iconst 0, 1) := by decide +kernel
theorem dX7_barred_37 : decode cX7_barred 37 = .ok (.iload_n 2, 1) := by decide +kernel
theorem dX7_barred_38 : decode cX7_barred 38 = .ok (.iload_n 3, 1) := by decide +kernel
theorem dX7_barred_39 : decode cX7_barred 39 = .ok (.invokevirtual 215, 3) := by decide +kernel
theorem dX7_barred_42 : decode cX7_barred 42 = .ok (.istore 4, 2) := by decide +kernel
theorem dX7_barred_44 : decode cX7_barred 44 = .ok (.aload_n 0, 1) := by decide +kernel
theorem dX7_barred_45 : decode cX7_barred 45 = .ok (.iconst 0, 1) := by decide +kernel
theorem dX7_barred_46 : decode cX7_barred 46 = .ok (.iload_n 2, 1) := by decide +kernel
theorem dX7_barred_47 : decode cX7_barred 47 = .ok (.iload_n 3, 1) := by decide +kernel
theorem dX7_barred_48 : decode cX7_barred 48 = .ok (.invokevirtual 218, 3) := by decide +kernel
theorem dX7_barred_51 : decode cX7_barred 51 = .ok (.istore 5, 2) := by decide +kernel
theorem dX7_barred_53 : decode cX7_barred 53 = .ok (.iload 4, 2) := by decide +kernel
theorem dX7_barred_55 : decode cX7_barred 55 = .ok (.ifCond .le 18, 3) := by decide +kernel
theorem dX7_barred_58 : decode cX7_barred 58 = .ok (.aload_n 0, 1) := by decide +kernel
theorem dX7_barred_59 : decode cX7_barred 59 = .ok (.getfield 62, 3) := by decide +kernel
theorem dX7_barred_62 : decode cX7_barred 62 = .ok (.iload 5, 2) := by decide +kernel
theorem dX7_barred_64 : decode cX7_barred 64 = .ok (.iaload, 1) := by decide +kernel
theorem dX7_barred_65 : decode cX7_barred 65 = .ok (.iconst 2, 1) := by decide +kernel
theorem dX7_barred_66 : decode cX7_barred 66 = .ok (.if_icmp .eq 27, 3) := by decide +kernel
theorem dX7_barred_69 : decode cX7_barred 69 = .ok (.iload_n 1, 1) := by decide +kernel
theorem dX7_barred_70 : decode cX7_barred 70 = .ok (.ifCond .lt 23, 3) := by decide +kernel
theorem dX7_barred_73 : decode cX7_barred 73 = .ok (.iload_n 1, 1) := by decide +kernel
theorem dX7_barred_74 : decode cX7_barred 74 = .ok (.ifCond .lt 22, 3) := by decide +kernel
theorem dX7_barred_77 : decode cX7_barred 77 = .ok (.aload_n 0, 1) := by decide +kernel
theorem dX7_barred_78 : decode cX7_barred 78 = .ok (.iconst 0, 1) := by decide +kernel
theorem dX7_barred_79 : decode cX7_barred 79 = .ok (.iload_n 2, 1) := by decide +kernel
theorem dX7_barred_80 : decode cX7_barred 80 = .ok (.iload_n 3, 1) := by decide +kernel
theorem dX7_barred_81 : decode cX7_barred 81 = .ok (.invokevirtual 208, 3) := by decide +kernel
theorem dX7_barred_84 : decode cX7_barred 84 = .ok (.iload_n 1, 1) := by decide +kernel
theorem dX7_barred_85 : decode cX7_barred 85 = .ok (.iadd, 1) := by decide +kernel
theorem dX7_barred_86 : decode cX7_barred 86 = .ok (.aload_n 0, 1) := by decide +kernel
theorem dX7_barred_87 : decode cX7_barred 87 = .ok (.getfield 28, 3) := by decide +kernel
theorem dX7_barred_90 : decode cX7_barred 90 = .ok (.if_icmp .le 6, 3) := by decide +kernel
theorem dX7_barred_93 : decode cX7_barred 93 = .ok (.bipush (-3), 2) := by decide +kernel
theorem dX7_barred_95 : decode cX7_barred 95 = .ok (.ireturn, 1) := by decide +kernel
theorem dX7_barred_96 : decode cX7_barred 96 = .ok (.iload 4, 2) := by decide +kernel
theorem dX7_barred_98 : decode cX7_barred 98 = .ok (.bipush 40, 2) := by decide +kernel
theorem dX7_barred_100 : decode cX7_barred 100 = .ok (.if_icmp .eq 15, 3) := by decide +kernel
theorem dX7_barred_103 : decode cX7_barred 103 = .ok (.aload_n 0, 1) := by decide +kernel
theorem dX7_barred_104 : decode cX7_barred 104 = .ok (.getfield 35, 3) := by decide +kernel
theorem dX7_barred_107 : decode cX7_barred 107 = .ok (.iconst 0, 1) := by decide +kernel
theorem dX7_barred_108 : decode cX7_barred 108 = .ok (.iaload, 1) := by decide +kernel
theorem dX7_barred_109 : decode cX7_barred 109 = .ok (.sipush 600, 3) := by decide +kernel
theorem dX7_barred_112 : decode cX7_barred 112 = .ok (.if_icmp .ne 8, 3) := by decide +kernel
theorem dX7_barred_115 : decode cX7_barred 115 = .ok (.bipush (-4), 2) := by decide +kernel
theorem dX7_barred_117 : decode cX7_barred 117 = .ok (.goto 4, 3) := by decide +kernel
theorem dX7_barred_120 : decode cX7_barred 120 = .ok (.iconst 0, 1) := by decide +kernel
theorem dX7_barred_121 : decode cX7_barred 121 = .ok (.ireturn, 1) := by decide +kernel
theorem dX7_put_0 : decode cX7_put 0 = .ok (.aload_n 0, 1) := by decide +kernel
theorem dX7_put_1 : decode cX7_put 1 = .ok (.getfield 35, 3) := by decide +kernel
theorem dX7_put_4 : decode cX7_put 4 = .ok (.iconst 0, 1) := by decide +kernel
theorem dX7_put_5 : decode cX7_put 5 = .ok (.iaload, 1) := by decide +kernel
theorem dX7_put_6 : decode cX7_put 6 = .ok (.istore 6, 2) := by decide +kernel
theorem dX7_put_8 : decode cX7_put 8 = .ok (.aload_n 0, 1) := by decide +kernel
theorem dX7_put_9 : decode cX7_put 9 = .ok (.getfield 47, 3) := by decide +kernel
theorem dX7_put_12 : decode cX7_put 12 = .ok (.iload 6, 2) := by decide +kernel
theorem dX7_put_14 : decode cX7_put 14 = .ok (.aload_n 0, 1) := by decide +kernel
theorem dX7_put_15 : decode cX7_put 15 = .ok (.getfield 32, 3) := by decide +kernel
theorem dX7_put_18 : decode cX7_put 18 = .ok (.iconst 0, 1) := by decide +kernel
theorem dX7_put_19 : decode cX7_put 19 = .ok (.iaload, 1) := by decide +kernel
theorem dX7_put_20 : decode cX7_put 20 = .ok (.iconst 1, 1) := by decide +kernel
theorem dX7_put_21 : decode cX7_put 21 = .ok (.isub, 1) := by decide +kernel
theorem dX7_put_22 : decode cX7_put 22 = .ok (.iastore, 1) := by decide +kernel
theorem dX7_put_23 : decode cX7_put 23 = .ok (.aload_n 0, 1) := by decide +kernel
theorem dX7_put_24 : decode cX7_put 24 = .ok (.getfield 50, 3) := by decide +kernel
theorem dX7_put_27 : decode cX7_put 27 = .ok (.iload 6, 2) := by decide +kernel
theorem dX7_put_29 : decode cX7_put 29 = .ok (.aload_n 0, 1) := by decide +kernel
theorem dX7_put_30 : decode cX7_put 30 = .ok (.getfield 44, 3) := by decide +kernel
theorem dX7_put_33 : decode cX7_put 33 = .ok (.aload_n 0, 1) := by decide +kernel
theorem dX7_put_34 : decode cX7_put 34 = .ok (.getfield 32, 3) := by decide +kernel
theorem dX7_put_37 : decode cX7_put 37 = .ok (.iconst 0, 1) := by decide +kernel
theorem dX7_put_38 : decode cX7_put 38 = .ok (.iaload, 1) := by decide +kernel
theorem dX7_put_39 : decode cX7_put 39 = .ok (.iconst 1, 1) := by decide +kernel
theorem dX7_put_40 : decode cX7_put 40 = .ok (.isub, 1) := by decide +kernel
theorem dX7_put_41 : decode cX7_put 41 = .ok (.iaload, 1) := by decide +kernel
theorem dX7_put_42 : decode cX7_put 42 = .ok (.iconst 1, 1) := by decide +kernel
theorem dX7_put_43 : decode cX7_put 43 = .ok (.isub, 1) := by decide +kernel
theorem dX7_put_44 : decode cX7_put 44 = .ok (.iastore, 1) := by decide +kernel
theorem dX7_put_45 : decode cX7_put 45 = .ok (.aload_n 0, 1) := by decide +kernel
theorem dX7_put_46 : decode cX7_put 46 = .ok (.getfield 53, 3) := by decide +kernel
theorem dX7_put_49 : decode cX7_put 49 = .ok (.iload 6, 2) := by decide +kernel
theorem dX7_put_51 : decode cX7_put 51 = .ok (.iload_n 1, 1) := by decide +kernel
theorem dX7_put_52 : decode cX7_put 52 = .ok (.iastore, 1) := by decide +kernel
theorem dX7_put_53 : decode cX7_put 53 = .ok (.aload_n 0, 1) := by decide +kernel
theorem dX7_put_54 : decode cX7_put 54 = .ok (.getfield 56, 3) := by decide +kernel
theorem dX7_put_57 : decode cX7_put 57 = .ok (.iload 6, 2) := by decide +kernel
theorem dX7_put_59 : decode cX7_put 59 = .ok (.iload_n 2, 1) := by decide +kernel
theorem dX7_put_60 : decode cX7_put 60 = .ok (.iastore, 1) := by decide +kernel
theorem dX7_put_61 : decode cX7_put 61 = .ok (.aload_n 0, 1) := by decide +kernel
theorem dX7_put_62 : decode cX7_put 62 = .ok (.getfield 59, 3) := by decide +kernel
theorem dX7_put_65 : decode cX7_put 65 = .ok (.iload 6, 2) := by decide +kernel
theorem dX7_put_67 : decode cX7_put 67 = .ok (.iload_n 3, 1) := by decide +kernel
theorem dX7_put_68 : decode cX7_put 68 = .ok (.iastore, 1) := by decide +kernel
theorem dX7_put_69 : decode cX7_put 69 = .ok (.aload_n 0, 1) := by decide +kernel
theorem dX7_put_70 : decode cX7_put 70 = .ok (.getfield 62, 3) := by decide +kernel
theorem dX7_put_73 : decode cX7_put 73 = .ok (.iload 6, 2) := by decide +kernel
theorem dX7_put_75 : decode cX7_put 75 = .ok (.iload 4, 2) := by decide +kernel
theorem dX7_put_77 : decode cX7_put 77 = .ok (.iastore, 1) := by decide +kernel
theorem dX7_put_78 : decode cX7_put 78 = .ok (.aload_n 0, 1) := by decide +kernel
theorem dX7_put_79 : decode cX7_put 79 = .ok (.getfield 65, 3) := by decide +kernel
theorem dX7_put_82 : decode cX7_put 82 = .ok (.iload 6, 2) := by decide +kernel
theorem dX7_put_84 : decode cX7_put 84 = .ok (.iload 5, 2) := by decide +kernel
theorem dX7_put_86 : decode cX7_put 86 = .ok (.iastore, 1) := by decide +kernel
theorem dX7_put_87 : decode cX7_put 87 = .ok (.aload_n 0, 1) := by decide +kernel
theorem dX7_put_88 : decode cX7_put 88 = .ok (.getfield 68, 3) := by decide +kernel
theorem dX7_put_91 : decode cX7_put 91 = .ok (.iload 6, 2) := by decide +kernel
theorem dX7_put_93 : decode cX7_put 93 = .ok (.iconst 0, 1) := by decide +kernel
theorem dX7_put_94 : decode cX7_put 94 = .ok (.iastore, 1) := by decide +kernel
theorem dX7_put_95 : decode cX7_put 95 = .ok (.aload_n 0, 1) := by decide +kernel
theorem dX7_put_96 : decode cX7_put 96 = .ok (.getfield 71, 3) := by decide +kernel
theorem dX7_put_99 : decode cX7_put 99 = .ok (.iload 6, 2) := by decide +kernel
theorem dX7_put_101 : decode cX7_put 101 = .ok (.iconst 0, 1) := by decide +kernel
theorem dX7_put_102 : decode cX7_put 102 = .ok (.iastore, 1) := by decide +kernel
theorem dX7_put_103 : decode cX7_put 103 = .ok (.aload_n 0, 1) := by decide +kernel
theorem dX7_put_104 : decode cX7_put 104 = .ok (.getfield 74, 3) := by decide +kernel
theorem dX7_put_107 : decode cX7_put 107 = .ok (.iload 6, 2) := by decide +kernel
theorem dX7_put_109 : decode cX7_put 109 = .ok (.iconst 0, 1) := by decide +kernel
theorem dX7_put_110 : decode cX7_put 110 = .ok (.iastore, 1) := by decide +kernel
theorem dX7_put_111 : decode cX7_put 111 = .ok (.iconst 0, 1) := by decide +kernel
theorem dX7_put_112 : decode cX7_put 112 = .ok (.istore 7, 2) := by decide +kernel
theorem dX7_put_114 : decode cX7_put 114 = .ok (.iload 7, 2) := by decide +kernel
theorem dX7_put_116 : decode cX7_put 116 = .ok (.iconst 4, 1) := by decide +kernel
theorem dX7_put_117 : decode cX7_put 117 = .ok (.if_icmp .ge 22, 3) := by decide +kernel
theorem dX7_put_120 : decode cX7_put 120 = .ok (.aload_n 0, 1) := by decide +kernel
theorem dX7_put_121 : decode cX7_put 121 = .ok (.getfield 77, 3) := by decide +kernel
theorem dX7_put_124 : decode cX7_put 124 = .ok (.iconst 4, 1) := by decide +kernel
theorem dX7_put_125 : decode cX7_put 125 = .ok (.iload 6, 2) := by decide +kernel
theorem dX7_put_127 : decode cX7_put 127 = .ok (.imul, 1) := by decide +kernel
theorem dX7_put_128 : decode cX7_put 128 = .ok (.iload 7, 2) := by decide +kernel
theorem dX7_put_130 : decode cX7_put 130 = .ok (.iadd, 1) := by decide +kernel
theorem dX7_put_131 : decode cX7_put 131 = .ok (.iconst 0, 1) := by decide +kernel
theorem dX7_put_132 : decode cX7_put 132 = .ok (.iastore, 1) := by decide +kernel
theorem dX7_put_133 : decode cX7_put 133 = .ok (.iinc 7 1, 3) := by decide +kernel
theorem dX7_put_136 : decode cX7_put 136 = .ok (.goto (-22), 3) := by decide +kernel
theorem dX7_put_139 : decode cX7_put 139 = .ok (.aload_n 0, 1) := by decide +kernel
theorem dX7_put_140 : decode cX7_put 140 = .ok (.getfield 35, 3) := by decide +kernel
theorem dX7_put_143 : decode cX7_put 143 = .ok (.iconst 0, 1) := by decide +kernel
theorem dX7_put_144 : decode cX7_put 144 = .ok (.dup2, 1) := by decide +kernel
theorem dX7_put_145 : decode cX7_put 145 = .ok (.iaload, 1) := by decide +kernel
theorem dX7_put_146 : decode cX7_put 146 = .ok (.iconst 1, 1) := by decide +kernel
theorem dX7_put_147 : decode cX7_put 147 = .ok (.iadd, 1) := by decide +kernel
theorem dX7_put_148 : decode cX7_put 148 = .ok (.iastore, 1) := by decide +kernel
theorem dX7_put_149 : decode cX7_put 149 = .ok (.iload 6, 2) := by decide +kernel
theorem dX7_put_151 : decode cX7_put 151 = .ok (.ireturn, 1) := by decide +kernel
theorem dX7_note_0 : decode cX7_note 0 = .ok (.iload_n 1, 1) := by decide +kernel
theorem dX7_note_1 : decode cX7_note 1 = .ok (.bipush 7, 2) := by decide +kernel
theorem dX7_note_3 : decode cX7_note 3 = .ok (.if_icmp .lt 49, 3) := by decide +kernel
theorem dX7_note_6 : decode cX7_note 6 = .ok (.iload_n 1, 1) := by decide +kernel
theorem dX7_note_7 : decode cX7_note 7 = .ok (.bipush 55, 2) := by decide +kernel
theorem dX7_note_9 : decode cX7_note 9 = .ok (.if_icmp .gt 43, 3) := by decide +kernel
theorem dX7_note_12 : decode cX7_note 12 = .ok (.iload_n 2, 1) := by decide +kernel
theorem dX7_note_13 : decode cX7_note 13 = .ok (.ifCond .lt 39, 3) := by decide +kernel
theorem dX7_note_16 : decode cX7_note 16 = .ok (.iload_n 2, 1) := by decide +kernel
theorem dX7_note_17 : decode cX7_note 17 = .ok (.iconst 3, 1) := by decide +kernel
theorem dX7_note_18 : decode cX7_note 18 = .ok (.if_icmp .gt 34, 3) := by decide +kernel
theorem dX7_note_21 : decode cX7_note 21 = .ok (.iload_n 3, 1) := by decide +kernel
theorem dX7_note_22 : decode cX7_note 22 = .ok (.ifCond .lt 30, 3) := by decide +kernel
theorem dX7_note_25 : decode cX7_note 25 = .ok (.iload_n 3, 1) := by decide +kernel
theorem dX7_note_26 : decode cX7_note 26 = .ok (.iconst 3, 1) := by decide +kernel
theorem dX7_note_27 : decode cX7_note 27 = .ok (.if_icmp .gt 25, 3) := by decide +kernel
theorem dX7_note_30 : decode cX7_note 30 = .ok (.iload 4, 2) := by decide +kernel
theorem dX7_note_32 : decode cX7_note 32 = .ok (.ifCond .lt 20, 3) := by decide +kernel
theorem dX7_note_35 : decode cX7_note 35 = .ok (.iload 4, 2) := by decide +kernel
theorem dX7_note_37 : decode cX7_note 37 = .ok (.iconst 1, 1) := by decide +kernel
theorem dX7_note_38 : decode cX7_note 38 = .ok (.if_icmp .gt 14, 3) := by decide +kernel
theorem dX7_note_41 : decode cX7_note 41 = .ok (.iload 5, 2) := by decide +kernel
theorem dX7_note_43 : decode cX7_note 43 = .ok (.ifCond .lt 9, 3) := by decide +kernel
theorem dX7_note_46 : decode cX7_note 46 = .ok (.iload 5, 2) := by decide +kernel
theorem dX7_note_48 : decode cX7_note 48 = .ok (.iconst 2, 1) := by decide +kernel
theorem dX7_note_49 : decode cX7_note 49 = .ok (.if_icmp .le 6, 3) := by decide +kernel
theorem dX7_note_52 : decode cX7_note 52 = .ok (.bipush (-2), 2) := by decide +kernel
theorem dX7_note_54 : decode cX7_note 54 = .ok (.ireturn, 1) := by decide +kernel
theorem dX7_note_55 : decode cX7_note 55 = .ok (.aload_n 0, 1) := by decide +kernel
theorem dX7_note_56 : decode cX7_note 56 = .ok (.iload_n 3, 1) := by decide +kernel
theorem dX7_note_57 : decode cX7_note 57 = .ok (.iload 4, 2) := by decide +kernel
theorem dX7_note_59 : decode cX7_note 59 = .ok (.iload 5, 2) := by decide +kernel
theorem dX7_note_61 : decode cX7_note 61 = .ok (.invokestatic 111, 3) := by decide +kernel
theorem dX7_note_64 : decode cX7_note 64 = .ok (.invokevirtual 221, 3) := by decide +kernel
theorem dX7_note_67 : decode cX7_note 67 = .ok (.istore 6, 2) := by decide +kernel
theorem dX7_note_69 : decode cX7_note 69 = .ok (.iload 6, 2) := by decide +kernel
theorem dX7_note_71 : decode cX7_note 71 = .ok (.ifCond .eq 8, 3) := by decide +kernel
theorem dX7_note_74 : decode cX7_note 74 = .ok (.iload 6, 2) := by decide +kernel
theorem dX7_note_76 : decode cX7_note 76 = .ok (.goto 14, 3) := by decide +kernel
theorem dX7_note_79 : decode cX7_note 79 = .ok (.aload_n 0, 1) := by decide +kernel
theorem dX7_note_80 : decode cX7_note 80 = .ok (.iload_n 1, 1) := by decide +kernel
theorem dX7_note_81 : decode cX7_note 81 = .ok (.iload_n 2, 1) := by decide +kernel
theorem dX7_note_82 : decode cX7_note 82 = .ok (.iload_n 3, 1) := by decide +kernel
theorem dX7_note_83 : decode cX7_note 83 = .ok (.iload 4, 2) := by decide +kernel
theorem dX7_note_85 : decode cX7_note 85 = .ok (.iload 5, 2) := by decide +kernel
theorem dX7_note_87 : decode cX7_note 87 = .ok (.invokevirtual 224, 3) := by decide +kernel
theorem dX7_note_90 : decode cX7_note 90 = .ok (.ireturn, 1) := by decide +kernel
theorem dX7_rest_0 : decode cX7_rest 0 = .ok (.iload_n 1, 1) := by decide +kernel
theorem dX7_rest_1 : decode cX7_rest 1 = .ok (.ifCond .lt 39, 3) := by decide +kernel
theorem dX7_rest_4 : decode cX7_rest 4 = .ok (.iload_n 1, 1) := by decide +kernel
theorem dX7_rest_5 : decode cX7_rest 5 = .ok (.iconst 3, 1) := by decide +kernel
theorem dX7_rest_6 : decode cX7_rest 6 = .ok (.if_icmp .gt 34, 3) := by decide +kernel
theorem dX7_rest_9 : decode cX7_rest 9 = .ok (.iload_n 2, 1) := by decide +kernel
theorem dX7_rest_10 : decode cX7_rest 10 = .ok (.ifCond .lt 30, 3) := by decide +kernel
theorem dX7_rest_13 : decode cX7_rest 13 = .ok (.iload_n 2, 1) := by decide +kernel
theorem dX7_rest_14 : decode cX7_rest 14 = .ok (.iconst 2, 1) := by decide +kernel
theorem dX7_rest_15 : decode cX7_rest 15 = .ok (.if_icmp .gt 25, 3) := by decide +kernel
theorem dX7_rest_18 : decode cX7_rest 18 = .ok (.iload_n 3, 1) := by decide +kernel
theorem dX7_rest_19 : decode cX7_rest 19 = .ok (.ifCond .lt 21, 3) := by decide +kernel
theorem dX7_rest_22 : decode cX7_rest 22 = .ok (.iload_n 3, 1) := by decide +kernel
theorem dX7_rest_23 : decode cX7_rest 23 = .ok (.iconst 2, 1) := by decide +kernel
theorem dX7_rest_24 : decode cX7_rest 24 = .ok (.if_icmp .gt 16, 3) := by decide +kernel
theorem dX7_rest_27 : decode cX7_rest 27 = .ok (.iload_n 2, 1) := by decide +kernel
theorem dX7_rest_28 : decode cX7_rest 28 = .ok (.iconst 2, 1) := by decide +kernel
theorem dX7_rest_29 : decode cX7_rest 29 = .ok (.if_icmp .ne 14, 3) := by decide +kernel
theorem dX7_rest_32 : decode cX7_rest 32 = .ok (.iload_n 1, 1) := by decide +kernel
theorem dX7_rest_33 : decode cX7_rest 33 = .ok (.ifCond .gt 7, 3) := by decide +kernel
theorem dX7_rest_36 : decode cX7_rest 36 = .ok (.iload_n 3, 1) := by decide +kernel
theorem dX7_rest_37 : decode cX7_rest 37 = .ok (.ifCond .le 6, 3) := by decide +kernel
theorem dX7_rest_40 : decode cX7_rest 40 = .ok (.bipush (-2), 2) := by decide +kernel
theorem dX7_rest_42 : decode cX7_rest 42 = .ok (.ireturn, 1) := by decide +kernel
theorem dX7_rest_43 : decode cX7_rest 43 = .ok (.aload_n 0, 1) := by decide +kernel
theorem dX7_rest_44 : decode cX7_rest 44 = .ok (.iload_n 2, 1) := by decide +kernel
theorem dX7_rest_45 : decode cX7_rest 45 = .ok (.iconst 2, 1) := by decide +kernel
theorem dX7_rest_46 : decode cX7_rest 46 = .ok (.if_icmp .ne 7, 3) := by decide +kernel
theorem dX7_rest_49 : decode cX7_rest 49 = .ok (.iconst (-1), 1) := by decide +kernel
theorem dX7_rest_50 : decode cX7_rest 50 = .ok (.goto 9, 3) := by decide +kernel
theorem dX7_rest_53 : decode cX7_rest 53 = .ok (.iload_n 1, 1) := by decide +kernel
theorem dX7_rest_54 : decode cX7_rest 54 = .ok (.iload_n 2, 1) := by decide +kernel
theorem dX7_rest_55 : decode cX7_rest 55 = .ok (.iload_n 3, 1) := by decide +kernel
theorem dX7_rest_56 : decode cX7_rest 56 = .ok (.invokestatic 111, 3) := by decide +kernel
theorem dX7_rest_59 : decode cX7_rest 59 = .ok (.invokevirtual 221, 3) := by decide +kernel
theorem dX7_rest_62 : decode cX7_rest 62 = .ok (.istore 4, 2) := by decide +kernel
theorem dX7_rest_64 : decode cX7_rest 64 = .ok (.iload 4, 2) := by decide +kernel
theorem dX7_rest_66 : decode cX7_rest 66 = .ok (.ifCond .eq 8, 3) := by decide +kernel
theorem dX7_rest_69 : decode cX7_rest 69 = .ok (.iload 4, 2) := by decide +kernel
theorem dX7_rest_71 : decode cX7_rest 71 = .ok (.goto 12, 3) := by decide +kernel
theorem dX7_rest_74 : decode cX7_rest 74 = .ok (.aload_n 0, 1) := by decide +kernel
theorem dX7_rest_75 : decode cX7_rest 75 = .ok (.iconst (-1), 1) := by decide +kernel
theorem dX7_rest_76 : decode cX7_rest 76 = .ok (.iconst 0, 1) := by decide +kernel
theorem dX7_rest_77 : decode cX7_rest 77 = .ok (.iload_n 1, 1) := by decide +kernel
theorem dX7_rest_78 : decode cX7_rest 78 = .ok (.iload_n 2, 1) := by decide +kernel
theorem dX7_rest_79 : decode cX7_rest 79 = .ok (.iload_n 3, 1) := by decide +kernel
theorem dX7_rest_80 : decode cX7_rest 80 = .ok (.invokevirtual 224, 3) := by decide +kernel
theorem dX7_rest_83 : decode cX7_rest 83 = .ok (.ireturn, 1) := by decide +kernel
theorem dX7_interval_0 : decode cX7_interval 0 = .ok (.iload_n 1, 1) := by decide +kernel
theorem dX7_interval_1 : decode cX7_interval 1 = .ok (.iconst 2, 1) := by decide +kernel
theorem dX7_interval_2 : decode cX7_interval 2 = .ok (.if_icmp .lt 18, 3) := by decide +kernel
theorem dX7_interval_5 : decode cX7_interval 5 = .ok (.iload_n 1, 1) := by decide +kernel
theorem dX7_interval_6 : decode cX7_interval 6 = .ok (.bipush 8, 2) := by decide +kernel
theorem dX7_interval_8 : decode cX7_interval 8 = .ok (.if_icmp .gt 12, 3) := by decide +kernel
theorem dX7_interval_11 : decode cX7_interval 11 = .ok (.iload_n 2, 1) := by decide +kernel
theorem dX7_interval_12 : decode cX7_interval 12 = .ok (.ifCond .lt 8, 3) := by decide +kernel
theorem dX7_interval_15 : decode cX7_interval 15 = .ok (.iload_n 2, 1) := by decide +kernel
theorem dX7_interval_16 : decode cX7_interval 16 = .ok (.iconst 3, 1) := by decide +kernel
theorem dX7_interval_17 : decode cX7_interval 17 = .ok (.if_icmp .le 6, 3) := by decide +kernel
theorem dX7_interval_20 : decode cX7_interval 20 = .ok (.bipush (-2), 2) := by decide +kernel
theorem dX7_interval_22 : decode cX7_interval 22 = .ok (.ireturn, 1) := by decide +kernel
theorem dX7_interval_23 : decode cX7_interval 23 = .ok (.aload_n 0, 1) := by decide +kernel
theorem dX7_interval_24 : decode cX7_interval 24 = .ok (.getfield 35, 3) := by decide +kernel
theorem dX7_interval_27 : decode cX7_interval 27 = .ok (.iconst 0, 1) := by decide +kernel
theorem dX7_interval_28 : decode cX7_interval 28 = .ok (.iaload, 1) := by decide +kernel
theorem dX7_interval_29 : decode cX7_interval 29 = .ok (.iconst 1, 1) := by decide +kernel
theorem dX7_interval_30 : decode cX7_interval 30 = .ok (.isub, 1) := by decide +kernel
theorem dX7_interval_31 : decode cX7_interval 31 = .ok (.istore_n 3, 1) := by decide +kernel
theorem dX7_interval_32 : decode cX7_interval 32 = .ok (.iload_n 3, 1) := by decide +kernel
theorem dX7_interval_33 : decode cX7_interval 33 = .ok (.ifCond .lt 12, 3) := by decide +kernel
theorem dX7_interval_36 : decode cX7_interval 36 = .ok (.aload_n 0, 1) := by decide +kernel
theorem dX7_interval_37 : decode cX7_interval 37 = .ok (.getfield 53, 3) := by decide +kernel
theorem dX7_interval_40 : decode cX7_interval 40 = .ok (.iload_n 3, 1) := by decide +kernel
theorem dX7_interval_41 : decode cX7_interval 41 = .ok (.iaload, 1) := by decide +kernel
theorem dX7_interval_42 : decode cX7_interval 42 = .ok (.ifCond .ge 7, 3) := by decide +kernel
theorem dX7_interval_45 : decode cX7_interval 45 = .ok (.iconst (-1), 1) := by decide +kernel
theorem dX7_interval_46 : decode cX7_interval 46 = .ok (.goto 36, 3) := by decide +kernel
theorem dX7_interval_49 : decode cX7_interval 49 = .ok (.aload_n 0, 1) := by decide +kernel
theorem dX7_interval_50 : decode cX7_interval 50 = .ok (.getfield 38, 3) := by decide +kernel
theorem dX7_interval_53 : decode cX7_interval 53 = .ok (.iconst 0, 1) := by decide +kernel
theorem dX7_interval_54 : decode cX7_interval 54 = .ok (.iaload, 1) := by decide +kernel
theorem dX7_interval_55 : decode cX7_interval 55 = .ok (.iconst 2, 1) := by decide +kernel
theorem dX7_interval_56 : decode cX7_interval 56 = .ok (.if_icmp .ne 16, 3) := by decide +kernel
theorem dX7_interval_59 : decode cX7_interval 59 = .ok (.aload_n 0, 1) := by decide +kernel
theorem dX7_interval_60 : decode cX7_interval 60 = .ok (.getfield 53, 3) := by decide +kernel
theorem dX7_interval_63 : decode cX7_interval 63 = .ok (.iload_n 3, 1) := by decide +kernel
theorem dX7_interval_64 : decode cX7_interval 64 = .ok (.iaload, 1) := by decide +kernel
theorem dX7_interval_65 : decode cX7_interval 65 = .ok (.iload_n 1, 1) := by decide +kernel
theorem dX7_interval_66 : decode cX7_interval 66 = .ok (.iadd, 1) := by decide +kernel
theorem dX7_interval_67 : decode cX7_interval 67 = .ok (.iconst 1, 1) := by decide +kernel
theorem dX7_interval_68 : decode cX7_interval 68 = .ok (.isub, 1) := by decide +kernel
theorem dX7_interval_69 : decode cX7_interval 69 = .ok (.goto 13, 3) := by decide +kernel
theorem dX7_interval_72 : decode cX7_interval 72 = .ok (.aload_n 0, 1) := by decide +kernel
theorem dX7_interval_73 : decode cX7_interval 73 = .ok (.getfield 53, 3) := by decide +kernel
theorem dX7_interval_76 : decode cX7_interval 76 = .ok (.iload_n 3, 1) := by decide +kernel
theorem dX7_interval_77 : decode cX7_interval 77 = .ok (.iaload, 1) := by decide +kernel
theorem dX7_interval_78 : decode cX7_interval 78 = .ok (.iload_n 1, 1) := by decide +kernel
theorem dX7_interval_79 : decode cX7_interval 79 = .ok (.isub, 1) := by decide +kernel
theorem dX7_interval_80 : decode cX7_interval 80 = .ok (.iconst 1, 1) := by decide +kernel
theorem dX7_interval_81 : decode cX7_interval 81 = .ok (.iadd, 1) := by decide +kernel
theorem dX7_interval_82 : decode cX7_interval 82 = .ok (.istore 4, 2) := by decide +kernel
theorem dX7_interval_84 : decode cX7_interval 84 = .ok (.iload 4, 2) := by decide +kernel
theorem dX7_interval_86 : decode cX7_interval 86 = .ok (.bipush 7, 2) := by decide +kernel
theorem dX7_interval_88 : decode cX7_interval 88 = .ok (.if_icmp .lt 10, 3) := by decide +kernel
theorem dX7_interval_91 : decode cX7_interval 91 = .ok (.iload 4, 2) := by decide +kernel
theorem dX7_interval_93 : decode cX7_interval 93 = .ok (.bipush 55, 2) := by decide +kernel
theorem dX7_interval_95 : decode cX7_interval 95 = .ok (.if_icmp .le 6, 3) := by decide +kernel
theorem dX7_interval_98 : decode cX7_interval 98 = .ok (.bipush (-3), 2) := by decide +kernel
theorem dX7_interval_100 : decode cX7_interval 100 = .ok (.ireturn, 1) := by decide +kernel
theorem dX7_interval_101 : decode cX7_interval 101 = .ok (.aload_n 0, 1) := by decide +kernel
theorem dX7_interval_102 : decode cX7_interval 102 = .ok (.getfield 74, 3) := by decide +kernel
theorem dX7_interval_105 : decode cX7_interval 105 = .ok (.iload_n 3, 1) := by decide +kernel
theorem dX7_interval_106 : decode cX7_interval 106 = .ok (.iaload, 1) := by decide +kernel
theorem dX7_interval_107 : decode cX7_interval 107 = .ok (.iconst 4, 1) := by decide +kernel
theorem dX7_interval_108 : decode cX7_interval 108 = .ok (.if_icmp .ne 6, 3) := by decide +kernel
theorem dX7_interval_111 : decode cX7_interval 111 = .ok (.bipush (-4), 2) := by decide +kernel
theorem dX7_interval_113 : decode cX7_interval 113 = .ok (.ireturn, 1) := by decide +kernel
theorem dX7_interval_114 : decode cX7_interval 114 = .ok (.aload_n 0, 1) := by decide +kernel
theorem dX7_interval_115 : decode cX7_interval 115 = .ok (.getfield 77, 3) := by decide +kernel
theorem dX7_interval_118 : decode cX7_interval 118 = .ok (.iconst 4, 1) := by decide +kernel
theorem dX7_interval_119 : decode cX7_interval 119 = .ok (.iload_n 3, 1) := by decide +kernel
theorem dX7_interval_120 : decode cX7_interval 120 = .ok (.imul, 1) := by decide +kernel
theorem dX7_interval_121 : decode cX7_interval 121 = .ok (.aload_n 0, 1) := by decide +kernel
theorem dX7_interval_122 : decode cX7_interval 122 = .ok (.getfield 74, 3) := by decide +kernel
theorem dX7_interval_125 : decode cX7_interval 125 = .ok (.iload_n 3, 1) := by decide +kernel
theorem dX7_interval_126 : decode cX7_interval 126 = .ok (.iaload, 1) := by decide +kernel
theorem dX7_interval_127 : decode cX7_interval 127 = .ok (.iadd, 1) := by decide +kernel
theorem dX7_interval_128 : decode cX7_interval 128 = .ok (.iload_n 1, 1) := by decide +kernel
theorem dX7_interval_129 : decode cX7_interval 129 = .ok (.bipush 16, 2) := by decide +kernel
theorem dX7_interval_131 : decode cX7_interval 131 = .ok (.iload_n 2, 1) := by decide +kernel
