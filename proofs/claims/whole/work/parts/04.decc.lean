theorem dX7_init_0 : decode cX7_init 0 = .ok (.aload_n 0, 1) := by decide +kernel
theorem dX7_init_1 : decode cX7_init 1 = .ok (.invokespecial 1, 3) := by decide +kernel
theorem dX7_init_4 : decode cX7_init 4 = .ok (.aload_n 0, 1) := by decide +kernel
theorem dX7_init_5 : decode cX7_init 5 = .ok (.sipush 200, 3) := by decide +kernel
theorem dX7_init_8 : decode cX7_init 8 = .ok (.newarray .int, 2) := by decide +kernel
theorem dX7_init_10 : decode cX7_init 10 = .ok (.putfield 7, 3) := by decide +kernel
theorem dX7_init_13 : decode cX7_init 13 = .ok (.aload_n 0, 1) := by decide +kernel
theorem dX7_init_14 : decode cX7_init 14 = .ok (.bipush 36, 2) := by decide +kernel
theorem dX7_init_16 : decode cX7_init 16 = .ok (.newarray .int, 2) := by decide +kernel
theorem dX7_init_18 : decode cX7_init 18 = .ok (.putfield 13, 3) := by decide +kernel
theorem dX7_init_21 : decode cX7_init 21 = .ok (.aload_n 0, 1) := by decide +kernel
theorem dX7_init_22 : decode cX7_init 22 = .ok (.bipush 12, 2) := by decide +kernel
theorem dX7_init_24 : decode cX7_init 24 = .ok (.newarray .int, 2) := by decide +kernel
theorem dX7_init_26 : decode cX7_init 26 = .ok (.putfield 16, 3) := by decide +kernel
theorem dX7_init_29 : decode cX7_init 29 = .ok (.aload_n 0, 1) := by decide +kernel
theorem dX7_init_30 : decode cX7_init 30 = .ok (.bipush 6, 2) := by decide +kernel
theorem dX7_init_32 : decode cX7_init 32 = .ok (.newarray .int, 2) := by decide +kernel
theorem dX7_init_34 : decode cX7_init 34 = .ok (.putfield 19, 3) := by decide +kernel
theorem dX7_init_37 : decode cX7_init 37 = .ok (.aload_n 0, 1) := by decide +kernel
theorem dX7_init_38 : decode cX7_init 38 = .ok (.bipush 36, 2) := by decide +kernel
theorem dX7_init_40 : decode cX7_init 40 = .ok (.newarray .int, 2) := by decide +kernel
theorem dX7_init_42 : decode cX7_init 42 = .ok (.putfield 22, 3) := by decide +kernel
theorem dX7_init_45 : decode cX7_init 45 = .ok (.aload_n 0, 1) := by decide +kernel
theorem dX7_init_46 : decode cX7_init 46 = .ok (.bipush 12, 2) := by decide +kernel
theorem dX7_init_48 : decode cX7_init 48 = .ok (.newarray .int, 2) := by decide +kernel
theorem dX7_init_50 : decode cX7_init 50 = .ok (.putfield 25, 3) := by decide +kernel
theorem dX7_init_53 : decode cX7_init 53 = .ok (.aload_n 0, 1) := by decide +kernel
theorem dX7_init_54 : decode cX7_init 54 = .ok (.bipush 6, 2) := by decide +kernel
theorem dX7_init_56 : decode cX7_init 56 = .ok (.newarray .int, 2) := by decide +kernel
theorem dX7_init_58 : decode cX7_init 58 = .ok (.putfield 28, 3) := by decide +kernel
theorem dX7_init_61 : decode cX7_init 61 = .ok (.aload_n 0, 1) := by decide +kernel
theorem dX7_init_62 : decode cX7_init 62 = .ok (.bipush 32, 2) := by decide +kernel
theorem dX7_init_64 : decode cX7_init 64 = .ok (.newarray .int, 2) := by decide +kernel
theorem dX7_init_66 : decode cX7_init 66 = .ok (.putfield 31, 3) := by decide +kernel
theorem dX7_init_69 : decode cX7_init 69 = .ok (.aload_n 0, 1) := by decide +kernel
theorem dX7_init_70 : decode cX7_init 70 = .ok (.bipush 32, 2) := by decide +kernel
theorem dX7_init_72 : decode cX7_init 72 = .ok (.newarray .int, 2) := by decide +kernel
theorem dX7_init_74 : decode cX7_init 74 = .ok (.putfield 34, 3) := by decide +kernel
theorem dX7_init_77 : decode cX7_init 77 = .ok (.aload_n 0, 1) := by decide +kernel
theorem dX7_init_78 : decode cX7_init 78 = .ok (.sipush 256, 3) := by decide +kernel
theorem dX7_init_81 : decode cX7_init 81 = .ok (.newarray .int, 2) := by decide +kernel
theorem dX7_init_83 : decode cX7_init 83 = .ok (.putfield 37, 3) := by decide +kernel
theorem dX7_init_86 : decode cX7_init 86 = .ok (.aload_n 0, 1) := by decide +kernel
theorem dX7_init_87 : decode cX7_init 87 = .ok (.bipush 64, 2) := by decide +kernel
theorem dX7_init_89 : decode cX7_init 89 = .ok (.newarray .int, 2) := by decide +kernel
theorem dX7_init_91 : decode cX7_init 91 = .ok (.putfield 40, 3) := by decide +kernel
theorem dX7_init_94 : decode cX7_init 94 = .ok (.aload_n 0, 1) := by decide +kernel
theorem dX7_init_95 : decode cX7_init 95 = .ok (.bipush 12, 2) := by decide +kernel
theorem dX7_init_97 : decode cX7_init 97 = .ok (.newarray .int, 2) := by decide +kernel
theorem dX7_init_99 : decode cX7_init 99 = .ok (.putfield 43, 3) := by decide +kernel
theorem dX7_init_102 : decode cX7_init 102 = .ok (.aload_n 0, 1) := by decide +kernel
theorem dX7_init_103 : decode cX7_init 103 = .ok (.bipush 12, 2) := by decide +kernel
theorem dX7_init_105 : decode cX7_init 105 = .ok (.newarray .int, 2) := by decide +kernel
theorem dX7_init_107 : decode cX7_init 107 = .ok (.putfield 46, 3) := by decide +kernel
theorem dX7_init_110 : decode cX7_init 110 = .ok (.aload_n 0, 1) := by decide +kernel
theorem dX7_init_111 : decode cX7_init 111 = .ok (.bipush 12, 2) := by decide +kernel
theorem dX7_init_113 : decode cX7_init 113 = .ok (.newarray .int, 2) := by decide +kernel
theorem dX7_init_115 : decode cX7_init 115 = .ok (.putfield 49, 3) := by decide +kernel
theorem dX7_init_118 : decode cX7_init 118 = .ok (.aload_n 0, 1) := by decide +kernel
theorem dX7_init_119 : decode cX7_init 119 = .ok (.iconst 0, 1) := by decide +kernel
theorem dX7_init_120 : decode cX7_init 120 = .ok (.bipush 11, 2) := by decide +kernel
theorem dX7_init_122 : decode cX7_init 122 = .ok (.iconst 3, 1) := by decide +kernel
theorem dX7_init_123 : decode cX7_init 123 = .ok (.iconst 2, 1) := by decide +kernel
theorem dX7_init_124 : decode cX7_init 124 = .ok (.invokevirtual 52, 3) := by decide +kernel
theorem dX7_init_127 : decode cX7_init 127 = .ok (.aload_n 0, 1) := by decide +kernel
theorem dX7_init_128 : decode cX7_init 128 = .ok (.iconst 1, 1) := by decide +kernel
theorem dX7_init_129 : decode cX7_init 129 = .ok (.bipush 11, 2) := by decide +kernel
theorem dX7_init_131 : decode cX7_init 131 = .ok (.bipush 7, 2) := by decide +kernel
theorem dX7_init_133 : decode cX7_init 133 = .ok (.iconst 1, 1) := by decide +kernel
theorem dX7_init_134 : decode cX7_init 134 = .ok (.invokevirtual 52, 3) := by decide +kernel
theorem dX7_init_137 : decode cX7_init 137 = .ok (.aload_n 0, 1) := by decide +kernel
theorem dX7_init_138 : decode cX7_init 138 = .ok (.iconst 2, 1) := by decide +kernel
theorem dX7_init_139 : decode cX7_init 139 = .ok (.bipush 12, 2) := by decide +kernel
theorem dX7_init_141 : decode cX7_init 141 = .ok (.iconst 2, 1) := by decide +kernel
theorem dX7_init_142 : decode cX7_init 142 = .ok (.bipush 8, 2) := by decide +kernel
theorem dX7_init_144 : decode cX7_init 144 = .ok (.invokevirtual 52, 3) := by decide +kernel
theorem dX7_init_147 : decode cX7_init 147 = .ok (.aload_n 0, 1) := by decide +kernel
theorem dX7_init_148 : decode cX7_init 148 = .ok (.iconst 3, 1) := by decide +kernel
theorem dX7_init_149 : decode cX7_init 149 = .ok (.bipush 9, 2) := by decide +kernel
theorem dX7_init_151 : decode cX7_init 151 = .ok (.iconst 1, 1) := by decide +kernel
theorem dX7_init_152 : decode cX7_init 152 = .ok (.iconst 3, 1) := by decide +kernel
theorem dX7_init_153 : decode cX7_init 153 = .ok (.invokevirtual 52, 3) := by decide +kernel
theorem dX7_init_156 : decode cX7_init 156 = .ok (.aload_n 0, 1) := by decide +kernel
theorem dX7_init_157 : decode cX7_init 157 = .ok (.iconst 4, 1) := by decide +kernel
theorem dX7_init_158 : decode cX7_init 158 = .ok (.bipush 9, 2) := by decide +kernel
theorem dX7_init_160 : decode cX7_init 160 = .ok (.iconst 5, 1) := by decide +kernel
theorem dX7_init_161 : decode cX7_init 161 = .ok (.iconst 0, 1) := by decide +kernel
theorem dX7_init_162 : decode cX7_init 162 = .ok (.invokevirtual 52, 3) := by decide +kernel
theorem dX7_init_165 : decode cX7_init 165 = .ok (.aload_n 0, 1) := by decide +kernel
theorem dX7_init_166 : decode cX7_init 166 = .ok (.iconst 5, 1) := by decide +kernel
theorem dX7_init_167 : decode cX7_init 167 = .ok (.bipush 11, 2) := by decide +kernel
theorem dX7_init_169 : decode cX7_init 169 = .ok (.iconst 0, 1) := by decide +kernel
theorem dX7_init_170 : decode cX7_init 170 = .ok (.bipush 6, 2) := by decide +kernel
theorem dX7_init_172 : decode cX7_init 172 = .ok (.invokevirtual 52, 3) := by decide +kernel
theorem dX7_init_175 : decode cX7_init 175 = .ok (.aload_n 0, 1) := by decide +kernel
theorem dX7_init_176 : decode cX7_init 176 = .ok (.bipush 6, 2) := by decide +kernel
theorem dX7_init_178 : decode cX7_init 178 = .ok (.bipush 11, 2) := by decide +kernel
theorem dX7_init_180 : decode cX7_init 180 = .ok (.iconst 4, 1) := by decide +kernel
theorem dX7_init_181 : decode cX7_init 181 = .ok (.iconst 4, 1) := by decide +kernel
theorem dX7_init_182 : decode cX7_init 182 = .ok (.invokevirtual 52, 3) := by decide +kernel
theorem dX7_init_185 : decode cX7_init 185 = .ok (.aload_n 0, 1) := by decide +kernel
theorem dX7_init_186 : decode cX7_init 186 = .ok (.bipush 7, 2) := by decide +kernel
theorem dX7_init_188 : decode cX7_init 188 = .ok (.putfield 56, 3) := by decide +kernel
theorem dX7_init_191 : decode cX7_init 191 = .ok (.aload_n 0, 1) := by decide +kernel
theorem dX7_init_192 : decode cX7_init 192 = .ok (.getfield 28, 3) := by decide +kernel
theorem dX7_init_195 : decode cX7_init 195 = .ok (.iconst 0, 1) := by decide +kernel
theorem dX7_init_196 : decode cX7_init 196 = .ok (.iconst 3, 1) := by decide +kernel
theorem dX7_init_197 : decode cX7_init 197 = .ok (.iastore, 1) := by decide +kernel
theorem dX7_init_198 : decode cX7_init 198 = .ok (.aload_n 0, 1) := by decide +kernel
theorem dX7_init_199 : decode cX7_init 199 = .ok (.getfield 28, 3) := by decide +kernel
theorem dX7_init_202 : decode cX7_init 202 = .ok (.iconst 1, 1) := by decide +kernel
theorem dX7_init_203 : decode cX7_init 203 = .ok (.bipush 50, 2) := by decide +kernel
theorem dX7_init_205 : decode cX7_init 205 = .ok (.iastore, 1) := by decide +kernel
theorem dX7_init_206 : decode cX7_init 206 = .ok (.aload_n 0, 1) := by decide +kernel
theorem dX7_init_207 : decode cX7_init 207 = .ok (.getfield 28, 3) := by decide +kernel
theorem dX7_init_210 : decode cX7_init 210 = .ok (.iconst 2, 1) := by decide +kernel
theorem dX7_init_211 : decode cX7_init 211 = .ok (.iconst 2, 1) := by decide +kernel
theorem dX7_init_212 : decode cX7_init 212 = .ok (.iastore, 1) := by decide +kernel
theorem dX7_init_213 : decode cX7_init 213 = .ok (.aload_n 0, 1) := by decide +kernel
theorem dX7_init_214 : decode cX7_init 214 = .ok (.getfield 28, 3) := by decide +kernel
theorem dX7_init_217 : decode cX7_init 217 = .ok (.iconst 3, 1) := by decide +kernel
theorem dX7_init_218 : decode cX7_init 218 = .ok (.bipush 12, 2) := by decide +kernel
theorem dX7_init_220 : decode cX7_init 220 = .ok (.iastore, 1) := by decide +kernel
theorem dX7_init_221 : decode cX7_init 221 = .ok (.aload_n 0, 1) := by decide +kernel
theorem dX7_init_222 : decode cX7_init 222 = .ok (.getfield 28, 3) := by decide +kernel
theorem dX7_init_225 : decode cX7_init 225 = .ok (.iconst 4, 1) := by decide +kernel
theorem dX7_init_226 : decode cX7_init 226 = .ok (.iconst 1, 1) := by decide +kernel
theorem dX7_init_227 : decode cX7_init 227 = .ok (.iastore, 1) := by decide +kernel
theorem dX7_init_228 : decode cX7_init 228 = .ok (.aload_n 0, 1) := by decide +kernel
theorem dX7_init_229 : decode cX7_init 229 = .ok (.getfield 28, 3) := by decide +kernel
theorem dX7_init_232 : decode cX7_init 232 = .ok (.iconst 5, 1) := by decide +kernel
theorem dX7_init_233 : decode cX7_init 233 = .ok (.iconst 3, 1) := by decide +kernel
theorem dX7_init_234 : decode cX7_init 234 = .ok (.iastore, 1) := by decide +kernel
theorem dX7_init_235 : decode cX7_init 235 = .ok (.aload_n 0, 1) := by decide +kernel
theorem dX7_init_236 : decode cX7_init 236 = .ok (.getfield 25, 3) := by decide +kernel
theorem dX7_init_239 : decode cX7_init 239 = .ok (.iconst 0, 1) := by decide +kernel
theorem dX7_init_240 : decode cX7_init 240 = .ok (.iconst 3, 1) := by decide +kernel
theorem dX7_init_241 : decode cX7_init 241 = .ok (.iastore, 1) := by decide +kernel
theorem dX7_init_242 : decode cX7_init 242 = .ok (.aload_n 0, 1) := by decide +kernel
theorem dX7_init_243 : decode cX7_init 243 = .ok (.getfield 25, 3) := by decide +kernel
theorem dX7_init_246 : decode cX7_init 246 = .ok (.iconst 1, 1) := by decide +kernel
theorem dX7_init_247 : decode cX7_init 247 = .ok (.iconst 5, 1) := by decide +kernel
theorem dX7_init_248 : decode cX7_init 248 = .ok (.iastore, 1) := by decide +kernel
theorem dX7_init_249 : decode cX7_init 249 = .ok (.aload_n 0, 1) := by decide +kernel
theorem dX7_init_250 : decode cX7_init 250 = .ok (.getfield 25, 3) := by decide +kernel
theorem dX7_init_253 : decode cX7_init 253 = .ok (.iconst 2, 1) := by decide +kernel
theorem dX7_init_254 : decode cX7_init 254 = .ok (.bipush 8, 2) := by decide +kernel
theorem dX7_init_256 : decode cX7_init 256 = .ok (.iastore, 1) := by decide +kernel
theorem dX7_init_257 : decode cX7_init 257 = .ok (.aload_n 0, 1) := by decide +kernel
theorem dX7_init_258 : decode cX7_init 258 = .ok (.getfield 25, 3) := by decide +kernel
theorem dX7_init_261 : decode cX7_init 261 = .ok (.iconst 3, 1) := by decide +kernel
theorem dX7_init_262 : decode cX7_init 262 = .ok (.iconst 2, 1) := by decide +kernel
theorem dX7_init_263 : decode cX7_init 263 = .ok (.iastore, 1) := by decide +kernel
theorem dX7_init_264 : decode cX7_init 264 = .ok (.aload_n 0, 1) := by decide +kernel
theorem dX7_init_265 : decode cX7_init 265 = .ok (.iconst 4, 1) := by decide +kernel
theorem dX7_init_266 : decode cX7_init 266 = .ok (.putfield 60, 3) := by decide +kernel
theorem dX7_init_269 : decode cX7_init 269 = .ok (.return_, 1) := by decide +kernel
theorem dX7_addStrip_0 : decode cX7_addStrip 0 = .ok (.aload_n 0, 1) := by decide +kernel
theorem dX7_addStrip_1 : decode cX7_addStrip 1 = .ok (.getfield 22, 3) := by decide +kernel
theorem dX7_addStrip_4 : decode cX7_addStrip 4 = .ok (.iconst 3, 1) := by decide +kernel
theorem dX7_addStrip_5 : decode cX7_addStrip 5 = .ok (.iload_n 1, 1) := by decide +kernel
theorem dX7_addStrip_6 : decode cX7_addStrip 6 = .ok (.imul, 1) := by decide +kernel
theorem dX7_addStrip_7 : decode cX7_addStrip 7 = .ok (.iload_n 2, 1) := by decide +kernel
theorem dX7_addStrip_8 : decode cX7_addStrip 8 = .ok (.iastore, 1) := by decide +kernel
theorem dX7_addStrip_9 : decode cX7_addStrip 9 = .ok (.aload_n 0, 1) := by decide +kernel
theorem dX7_addStrip_10 : decode cX7_addStrip 10 = .ok (.getfield 22, 3) := by decide +kernel
theorem dX7_addStrip_13 : decode cX7_addStrip 13 = .ok (.iconst 3, 1) := by decide +kernel
theorem dX7_addStrip_14 : decode cX7_addStrip 14 = .ok (.iload_n 1, 1) := by decide +kernel
theorem dX7_addStrip_15 : decode cX7_addStrip 15 = .ok (.imul, 1) := by decide +kernel
theorem dX7_addStrip_16 : decode cX7_addStrip 16 = .ok (.iconst 1, 1) := by decide +kernel
theorem dX7_addStrip_17 : decode cX7_addStrip 17 = .ok (.iadd, 1) := by decide +kernel
theorem dX7_addStrip_18 : decode cX7_addStrip 18 = .ok (.iload_n 3, 1) := by decide +kernel
theorem dX7_addStrip_19 : decode cX7_addStrip 19 = .ok (.iastore, 1) := by decide +kernel
theorem dX7_addStrip_20 : decode cX7_addStrip 20 = .ok (.aload_n 0, 1) := by decide +kernel
theorem dX7_addStrip_21 : decode cX7_addStrip 21 = .ok (.getfield 22, 3) := by decide +kernel
theorem dX7_addStrip_24 : decode cX7_addStrip 24 = .ok (.iconst 3, 1) := by decide +kernel
theorem dX7_addStrip_25 : decode cX7_addStrip 25 = .ok (.iload_n 1, 1) := by decide +kernel
theorem dX7_addStrip_26 : decode cX7_addStrip 26 = .ok (.imul, 1) := by decide +kernel
theorem dX7_addStrip_27 : decode cX7_addStrip 27 = .ok (.iconst 2, 1) := by decide +kernel
theorem dX7_addStrip_28 : decode cX7_addStrip 28 = .ok (.iadd, 1) := by decide +kernel
theorem dX7_addStrip_29 : decode cX7_addStrip 29 = .ok (.iload 4, 2) := by decide +kernel
theorem dX7_addStrip_31 : decode cX7_addStrip 31 = .ok (.iastore, 1) := by decide +kernel
theorem dX7_addStrip_32 : decode cX7_addStrip 32 = .ok (.return_, 1) := by decide +kernel
theorem dX7_in_0 : decode cX7_in 0 = .ok (.iload_n 0, 1) := by decide +kernel
theorem dX7_in_1 : decode cX7_in 1 = .ok (.iload_n 1, 1) := by decide +kernel
theorem dX7_in_2 : decode cX7_in 2 = .ok (.if_icmp .lt 12, 3) := by decide +kernel
theorem dX7_in_5 : decode cX7_in 5 = .ok (.iload_n 0, 1) := by decide +kernel
theorem dX7_in_6 : decode cX7_in 6 = .ok (.iload_n 2, 1) := by decide +kernel
theorem dX7_in_7 : decode cX7_in 7 = .ok (.if_icmp .gt 7, 3) := by decide +kernel
theorem dX7_in_10 : decode cX7_in 10 = .ok (.iconst 1, 1) := by decide +kernel
theorem dX7_in_11 : decode cX7_in 11 = .ok (.goto 4, 3) := by decide +kernel
theorem dX7_in_14 : decode cX7_in 14 = .ok (.iconst 0, 1) := by decide +kernel
theorem dX7_in_15 : decode cX7_in 15 = .ok (.ireturn, 1) := by decide +kernel
theorem dX7_has_0 : decode cX7_has 0 = .ok (.iload_n 0, 1) := by decide +kernel
theorem dX7_has_1 : decode cX7_has 1 = .ok (.iload_n 1, 1) := by decide +kernel
theorem dX7_has_2 : decode cX7_has 2 = .ok (.ishr, 1) := by decide +kernel
theorem dX7_has_3 : decode cX7_has 3 = .ok (.iconst 1, 1) := by decide +kernel
theorem dX7_has_4 : decode cX7_has 4 = .ok (.iand, 1) := by decide +kernel
theorem dX7_has_5 : decode cX7_has 5 = .ok (.iconst 1, 1) := by decide +kernel
theorem dX7_has_6 : decode cX7_has 6 = .ok (.if_icmp .ne 7, 3) := by decide +kernel
theorem dX7_has_9 : decode cX7_has 9 = .ok (.iconst 1, 1) := by decide +kernel
theorem dX7_has_10 : decode cX7_has 10 = .ok (.goto 4, 3) := by decide +kernel
theorem dX7_has_13 : decode cX7_has 13 = .ok (.iconst 0, 1) := by decide +kernel
theorem dX7_has_14 : decode cX7_has 14 = .ok (.ireturn, 1) := by decide +kernel
theorem dX7_bits_0 : decode cX7_bits 0 = .ok (.iconst 0, 1) := by decide +kernel
theorem dX7_bits_1 : decode cX7_bits 1 = .ok (.istore_n 1, 1) := by decide +kernel
theorem dX7_bits_2 : decode cX7_bits 2 = .ok (.iconst 0, 1) := by decide +kernel
theorem dX7_bits_3 : decode cX7_bits 3 = .ok (.istore_n 2, 1) := by decide +kernel
theorem dX7_bits_4 : decode cX7_bits 4 = .ok (.iload_n 2, 1) := by decide +kernel
theorem dX7_bits_5 : decode cX7_bits 5 = .ok (.iconst 4, 1) := by decide +kernel
theorem dX7_bits_6 : decode cX7_bits 6 = .ok (.if_icmp .ge 17, 3) := by decide +kernel
theorem dX7_bits_9 : decode cX7_bits 9 = .ok (.iload_n 1, 1) := by decide +kernel
theorem dX7_bits_10 : decode cX7_bits 10 = .ok (.iload_n 0, 1) := by decide +kernel
theorem dX7_bits_11 : decode cX7_bits 11 = .ok (.iload_n 2, 1) := by decide +kernel
theorem dX7_bits_12 : decode cX7_bits 12 = .ok (.ishr, 1) := by decide +kernel
theorem dX7_bits_13 : decode cX7_bits 13 = .ok (.iconst 1, 1) := by decide +kernel
theorem dX7_bits_14 : decode cX7_bits 14 = .ok (.iand, 1) := by decide +kernel
theorem dX7_bits_15 : decode cX7_bits 15 = .ok (.iadd, 1) := by decide +kernel
theorem dX7_bits_16 : decode cX7_bits 16 = .ok (.istore_n 1, 1) := by decide +kernel
theorem dX7_bits_17 : decode cX7_bits 17 = .ok (.iinc 2 1, 3) := by decide +kernel
theorem dX7_bits_20 : decode cX7_bits 20 = .ok (.goto (-16), 3) := by decide +kernel
theorem dX7_bits_23 : decode cX7_bits 23 = .ok (.iload_n 1, 1) := by decide +kernel
theorem dX7_bits_24 : decode cX7_bits 24 = .ok (.ireturn, 1) := by decide +kernel
theorem dX7_bring_0 : decode cX7_bring 0 = .ok (.iconst 0, 1) := by decide +kernel
theorem dX7_bring_1 : decode cX7_bring 1 = .ok (.istore 5, 2) := by decide +kernel
theorem dX7_bring_3 : decode cX7_bring 3 = .ok (.iload 5, 2) := by decide +kernel
theorem dX7_bring_5 : decode cX7_bring 5 = .ok (.iload 4, 2) := by decide +kernel
theorem dX7_bring_7 : decode cX7_bring 7 = .ok (.if_icmp .ge 21, 3) := by decide +kernel
theorem dX7_bring_10 : decode cX7_bring 10 = .ok (.aload_n 2, 1) := by decide +kernel
theorem dX7_bring_11 : decode cX7_bring 11 = .ok (.iload_n 3, 1) := by decide +kernel
theorem dX7_bring_12 : decode cX7_bring 12 = .ok (.iload 5, 2) := by decide +kernel
theorem dX7_bring_14 : decode cX7_bring 14 = .ok (.iadd, 1) := by decide +kernel
theorem dX7_bring_15 : decode cX7_bring 15 = .ok (.aload_n 0, 1) := by decide +kernel
theorem dX7_bring_16 : decode cX7_bring 16 = .ok (.iload_n 1, 1) := by decide +kernel
theorem dX7_bring_17 : decode cX7_bring 17 = .ok (.iload 5, 2) := by decide +kernel
theorem dX7_bring_19 : decode cX7_bring 19 = .ok (.iadd, 1) := by decide +kernel
theorem dX7_bring_20 : decode cX7_bring 20 = .ok (.iaload, 1) := by decide +kernel
theorem dX7_bring_21 : decode cX7_bring 21 = .ok (.iastore, 1) := by decide +kernel
theorem dX7_bring_22 : decode cX7_bring 22 = .ok (.iinc 5 1, 3) := by decide +kernel
theorem dX7_bring_25 : decode cX7_bring 25 = .ok (.goto (-22), 3) := by decide +kernel
theorem dX7_bring_28 : decode cX7_bring 28 = .ok (.return_, 1) := by decide +kernel
theorem dX7_write_0 : decode cX7_write 0 = .ok (.iload_n 1, 1) := by decide +kernel
theorem dX7_write_1 : decode cX7_write 1 = .ok (.bipush 32, 2) := by decide +kernel
theorem dX7_write_3 : decode cX7_write 3 = .ok (.bipush 126, 2) := by decide +kernel
theorem dX7_write_5 : decode cX7_write 5 = .ok (.invokestatic 63, 3) := by decide +kernel
theorem dX7_write_8 : decode cX7_write 8 = .ok (.ifCond .ne 5, 3) := by decide +kernel
theorem dX7_write_11 : decode cX7_write 11 = .ok (.iconst (-1), 1) := by decide +kernel
theorem dX7_write_12 : decode cX7_write 12 = .ok (.ireturn, 1) := by decide +kernel
theorem dX7_write_13 : decode cX7_write 13 = .ok (.aload_n 0, 1) := by decide +kernel
theorem dX7_write_14 : decode cX7_write 14 = .ok (.getfield 67, 3) := by decide +kernel
theorem dX7_write_17 : decode cX7_write 17 = .ok (.sipush 200, 3) := by decide +kernel
theorem dX7_write_20 : decode cX7_write 20 = .ok (.if_icmp .ne 6, 3) := by decide +kernel
theorem dX7_write_23 : decode cX7_write 23 = .ok (.bipush (-3), 2) := by decide +kernel
theorem dX7_write_25 : decode cX7_write 25 = .ok (.ireturn, 1) := by decide +kernel
theorem dX7_write_26 : decode cX7_write 26 = .ok (.aload_n 0, 1) := by decide +kernel
theorem dX7_write_27 : decode cX7_write 27 = .ok (.getfield 7, 3) := by decide +kernel
theorem dX7_write_30 : decode cX7_write 30 = .ok (.aload_n 0, 1) := by decide +kernel
theorem dX7_write_31 : decode cX7_write 31 = .ok (.getfield 67, 3) := by decide +kernel
theorem dX7_write_34 : decode cX7_write 34 = .ok (.iload_n 1, 1) := by decide +kernel
theorem dX7_write_35 : decode cX7_write 35 = .ok (.iastore, 1) := by decide +kernel
theorem dX7_write_36 : decode cX7_write 36 = .ok (.aload_n 0, 1) := by decide +kernel
theorem dX7_write_37 : decode cX7_write 37 = .ok (.dup, 1) := by decide +kernel
theorem dX7_write_38 : decode cX7_write 38 = .ok (.getfield 67, 3) := by decide +kernel
theorem dX7_write_41 : decode cX7_write 41 = .ok (.iconst 1, 1) := by decide +kernel
theorem dX7_write_42 : decode cX7_write 42 = .ok (.iadd, 1) := by decide +kernel
theorem dX7_write_43 : decode cX7_write 43 = .ok (.putfield 67, 3) := by decide +kernel
theorem dX7_write_46 : decode cX7_write 46 = .ok (.aload_n 0, 1) := by decide +kernel
theorem dX7_write_47 : decode cX7_write 47 = .ok (.getfield 67, 3) := by decide +kernel
theorem dX7_write_50 : decode cX7_write 50 = .ok (.ireturn, 1) := by decide +kernel
theorem dX7_wipe_0 : decode cX7_wipe 0 = .ok (.aload_n 0, 1) := by decide +kernel
theorem dX7_wipe_1 : decode cX7_wipe 1 = .ok (.getfield 67, 3) := by decide +kernel
theorem dX7_wipe_4 : decode cX7_wipe 4 = .ok (.istore_n 1, 1) := by decide +kernel
theorem dX7_wipe_5 : decode cX7_wipe 5 = .ok (.aload_n 0, 1) := by decide +kernel
theorem dX7_wipe_6 : decode cX7_wipe 6 = .ok (.iconst 0, 1) := by decide +kernel
theorem dX7_wipe_7 : decode cX7_wipe 7 = .ok (.putfield 67, 3) := by decide +kernel
theorem dX7_wipe_10 : decode cX7_wipe 10 = .ok (.iload_n 1, 1) := by decide +kernel
theorem dX7_wipe_11 : decode cX7_wipe 11 = .ok (.ireturn, 1) := by decide +kernel
theorem dX7_letterAt_0 : decode cX7_letterAt 0 = .ok (.iload_n 1, 1) := by decide +kernel
theorem dX7_letterAt_1 : decode cX7_letterAt 1 = .ok (.aload_n 0, 1) := by decide +kernel
theorem dX7_letterAt_2 : decode cX7_letterAt 2 = .ok (.getfield 67, 3) := by decide +kernel
theorem dX7_letterAt_5 : decode cX7_letterAt 5 = .ok (.if_icmp .ge 12, 3) := by decide +kernel
theorem dX7_letterAt_8 : decode cX7_letterAt 8 = .ok (.aload_n 0, 1) := by decide +kernel
theorem dX7_letterAt_9 : decode cX7_letterAt 9 = .ok (.getfield 7, 3) := by decide +kernel
theorem dX7_letterAt_12 : decode cX7_letterAt 12 = .ok (.iload_n 1, 1) := by decide +kernel
theorem dX7_letterAt_13 : decode cX7_letterAt 13 = .ok (.iaload, 1) := by decide +kernel
theorem dX7_letterAt_14 : decode cX7_letterAt 14 = .ok (.goto 4, 3) := by decide +kernel
theorem dX7_letterAt_17 : decode cX7_letterAt 17 = .ok (.iconst 0, 1) := by decide +kernel
theorem dX7_letterAt_18 : decode cX7_letterAt 18 = .ok (.ireturn, 1) := by decide +kernel
theorem dX7_isNumber_0 : decode cX7_isNumber 0 = .ok (.iconst 0, 1) := by decide +kernel
theorem dX7_isNumber_1 : decode cX7_isNumber 1 = .ok (.istore 4, 2) := by decide +kernel
theorem dX7_isNumber_3 : decode cX7_isNumber 3 = .ok (.aload_n 0, 1) := by decide +kernel
theorem dX7_isNumber_4 : decode cX7_isNumber 4 = .ok (.iconst 0, 1) := by decide +kernel
theorem dX7_isNumber_5 : decode cX7_isNumber 5 = .ok (.putfield 70, 3) := by decide +kernel
theorem dX7_isNumber_8 : decode cX7_isNumber 8 = .ok (.iload 4, 2) := by decide +kernel
theorem dX7_isNumber_10 : decode cX7_isNumber 10 = .ok (.iconst 2, 1) := by decide +kernel
theorem dX7_isNumber_11 : decode cX7_isNumber 11 = .ok (.if_icmp .ge 60, 3) := by decide +kernel
theorem dX7_isNumber_14 : decode cX7_isNumber 14 = .ok (.aload_n 0, 1) := by decide +kernel
theorem dX7_isNumber_15 : decode cX7_isNumber 15 = .ok (.aload_n 0, 1) := by decide +kernel
theorem dX7_isNumber_16 : decode cX7_isNumber 16 = .ok (.getfield 73, 3) := by decide +kernel
theorem dX7_isNumber_19 : decode cX7_isNumber 19 = .ok (.invokevirtual 76, 3) := by decide +kernel
theorem dX7_isNumber_22 : decode cX7_isNumber 22 = .ok (.bipush 48, 2) := by decide +kernel
theorem dX7_isNumber_24 : decode cX7_isNumber 24 = .ok (.bipush 57, 2) := by decide +kernel
theorem dX7_isNumber_26 : decode cX7_isNumber 26 = .ok (.invokestatic 63, 3) := by decide +kernel
theorem dX7_isNumber_29 : decode cX7_isNumber 29 = .ok (.ifCond .eq 42, 3) := by decide +kernel
theorem dX7_isNumber_32 : decode cX7_isNumber 32 = .ok (.aload_n 0, 1) := by decide +kernel
theorem dX7_isNumber_33 : decode cX7_isNumber 33 = .ok (.bipush 10, 2) := by decide +kernel
theorem dX7_isNumber_35 : decode cX7_isNumber 35 = .ok (.aload_n 0, 1) := by decide +kernel
theorem dX7_isNumber_36 : decode cX7_isNumber 36 = .ok (.getfield 70, 3) := by decide +kernel
theorem dX7_isNumber_39 : decode cX7_isNumber 39 = .ok (.imul, 1) := by decide +kernel
theorem dX7_isNumber_40 : decode cX7_isNumber 40 = .ok (.aload_n 0, 1) := by decide +kernel
theorem dX7_isNumber_41 : decode cX7_isNumber 41 = .ok (.aload_n 0, 1) := by decide +kernel
theorem dX7_isNumber_42 : decode cX7_isNumber 42 = .ok (.getfield 73, 3) := by decide +kernel
theorem dX7_isNumber_45 : decode cX7_isNumber 45 = .ok (.invokevirtual 76, 3) := by decide +kernel
theorem dX7_isNumber_48 : decode cX7_isNumber 48 = .ok (.iadd, 1) := by decide +kernel
theorem dX7_isNumber_49 : decode cX7_isNumber 49 = .ok (.bipush 48, 2) := by decide +kernel
theorem dX7_isNumber_51 : decode cX7_isNumber 51 = .ok (.isub, 1) := by decide +kernel
theorem dX7_isNumber_52 : decode cX7_isNumber 52 = .ok (.putfield 70, 3) := by decide +kernel
theorem dX7_isNumber_55 : decode cX7_isNumber 55 = .ok (.aload_n 0, 1) := by decide +kernel
theorem dX7_isNumber_56 : decode cX7_isNumber 56 = .ok (.dup, 1) := by decide +kernel
theorem dX7_isNumber_57 : decode cX7_isNumber 57 = .ok (.getfield 73, 3) := by decide +kernel
theorem dX7_isNumber_60 : decode cX7_isNumber 60 = .ok (.iconst 1, 1) := by decide +kernel
theorem dX7_isNumber_61 : decode cX7_isNumber 61 = .ok (.iadd, 1) := by decide +kernel
theorem dX7_isNumber_62 : decode cX7_isNumber 62 = .ok (.putfield 73, 3) := by decide +kernel
theorem dX7_isNumber_65 : decode cX7_isNumber 65 = .ok (.iinc 4 1, 3) := by decide +kernel
theorem dX7_isNumber_68 : decode cX7_isNumber 68 = .ok (.goto (-60), 3) := by decide +kernel
theorem dX7_isNumber_71 : decode cX7_isNumber 71 = .ok (.iload 4, 2) := by decide +kernel
theorem dX7_isNumber_73 : decode cX7_isNumber 73 = .ok (.ifCond .eq 27, 3) := by decide +kernel
theorem dX7_isNumber_76 : decode cX7_isNumber 76 = .ok (.aload_n 0, 1) := by decide +kernel
theorem dX7_isNumber_77 : decode cX7_isNumber 77 = .ok (.getfield 70, 3) := by decide +kernel
theorem dX7_isNumber_80 : decode cX7_isNumber 80 = .ok (.iload_n 1, 1) := by decide +kernel
theorem dX7_isNumber_81 : decode cX7_isNumber 81 = .ok (.iload_n 2, 1) := by decide +kernel
theorem dX7_isNumber_82 : decode cX7_isNumber 82 = .ok (.invokestatic 63, 3) := by decide +kernel
theorem dX7_isNumber_85 : decode cX7_isNumber 85 = .ok (.ifCond .eq 15, 3) := by decide +kernel
theorem dX7_isNumber_88 : decode cX7_isNumber 88 = .ok (.aload_n 0, 1) := by decide +kernel
theorem dX7_isNumber_89 : decode cX7_isNumber 89 = .ok (.aload_n 0, 1) := by decide +kernel
theorem dX7_isNumber_90 : decode cX7_isNumber 90 = .ok (.getfield 73, 3) := by decide +kernel
theorem dX7_isNumber_93 : decode cX7_isNumber 93 = .ok (.invokevirtual 76, 3) := by decide +kernel
theorem dX7_isNumber_96 : decode cX7_isNumber 96 = .ok (.iload_n 3, 1) := by decide +kernel
theorem dX7_isNumber_97 : decode cX7_isNumber 97 = .ok (.if_icmp .eq 5, 3) := by decide +kernel
theorem dX7_isNumber_100 : decode cX7_isNumber 100 = .ok (.iconst 0, 1) := by decide +kernel
theorem dX7_isNumber_101 : decode cX7_isNumber 101 = .ok (.ireturn, 1) := by decide +kernel
theorem dX7_isNumber_102 : decode cX7_isNumber 102 = .ok (.aload_n 0, 1) := by decide +kernel
theorem dX7_isNumber_103 : decode cX7_isNumber 103 = .ok (.dup, 1) := by decide +kernel
theorem dX7_isNumber_104 : decode cX7_isNumber 104 = .ok (.getfield 73, 3) := by decide +kernel
theorem dX7_isNumber_107 : decode cX7_isNumber 107 = .ok (.iconst 1, 1) := by decide +kernel
theorem dX7_isNumber_108 : decode cX7_isNumber 108 = .ok (.iadd, 1) := by decide +kernel
theorem dX7_isNumber_109 : decode cX7_isNumber 109 = .ok (.putfield 73, 3) := by decide +kernel
theorem dX7_isNumber_112 : decode cX7_isNumber 112 = .ok (.iconst 1, 1) := by decide +kernel
theorem dX7_isNumber_113 : decode cX7_isNumber 113 = .ok (.ireturn, 1) := by decide +kernel
theorem dX7_isStripItem_0 : decode cX7_isStripItem 0 = .ok (.iconst 3, 1) := by decide +kernel
theorem dX7_isStripItem_1 : decode cX7_isStripItem 1 = .ok (.aload_n 0, 1) := by decide +kernel
theorem dX7_isStripItem_2 : decode cX7_isStripItem 2 = .ok (.getfield 80, 3) := by decide +kernel
theorem dX7_isStripItem_5 : decode cX7_isStripItem 5 = .ok (.imul, 1) := by decide +kernel
theorem dX7_isStripItem_6 : decode cX7_isStripItem 6 = .ok (.istore_n 1, 1) := by decide +kernel
theorem dX7_isStripItem_7 : decode cX7_isStripItem 7 = .ok (.aload_n 0, 1) := by decide +kernel
theorem dX7_isStripItem_8 : decode cX7_isStripItem 8 = .ok (.getfield 80, 3) := by decide +kernel
theorem dX7_isStripItem_11 : decode cX7_isStripItem 11 = .ok (.bipush 12, 2) := by decide +kernel
theorem dX7_isStripItem_13 : decode cX7_isStripItem 13 = .ok (.if_icmp .ne 5, 3) := by decide +kernel
theorem dX7_isStripItem_16 : decode cX7_isStripItem 16 = .ok (.iconst 0, 1) := by decide +kernel
theorem dX7_isStripItem_17 : decode cX7_isStripItem 17 = .ok (.ireturn, 1) := by decide +kernel
theorem dX7_isStripItem_18 : decode cX7_isStripItem 18 = .ok (.iconst 0, 1) := by decide +kernel
theorem dX7_isStripItem_19 : decode cX7_isStripItem 19 = .ok (.istore_n 2, 1) := by decide +kernel
theorem dX7_isStripItem_20 : decode cX7_isStripItem 20 = .ok (.iload_n 2, 1) := by decide +kernel
theorem dX7_isStripItem_21 : decode cX7_isStripItem 21 = .ok (.iconst 3, 1) := by decide +kernel
theorem dX7_isStripItem_22 : decode cX7_isStripItem 22 = .ok (.if_icmp .ge 62, 3) := by decide +kernel
theorem dX7_isStripItem_25 : decode cX7_isStripItem 25 = .ok (.aload_n 0, 1) := by decide +kernel
theorem dX7_isStripItem_26 : decode cX7_isStripItem 26 = .ok (.iload_n 2, 1) := by decide +kernel
theorem dX7_isStripItem_27 : decode cX7_isStripItem 27 = .ok (.ifCond .ne 7, 3) := by decide +kernel
theorem dX7_isStripItem_30 : decode cX7_isStripItem 30 = .ok (.iconst 1, 1) := by decide +kernel
theorem dX7_isStripItem_31 : decode cX7_isStripItem 31 = .ok (.goto 4, 3) := by decide +kernel
theorem dX7_isStripItem_34 : decode cX7_isStripItem 34 = .ok (.iconst 0, 1) := by decide +kernel
theorem dX7_isStripItem_35 : decode cX7_isStripItem 35 = .ok (.iload_n 2, 1) := by decide +kernel
theorem dX7_isStripItem_36 : decode cX7_isStripItem 36 = .ok (.ifCond .ne 8, 3) := by decide +kernel
theorem dX7_isStripItem_39 : decode cX7_isStripItem 39 = .ok (.bipush 40, 2) := by decide +kernel
theorem dX7_isStripItem_41 : decode cX7_isStripItem 41 = .ok (.goto 5, 3) := by decide +kernel
theorem dX7_isStripItem_44 : decode cX7_isStripItem 44 = .ok (.bipush 9, 2) := by decide +kernel
theorem dX7_isStripItem_46 : decode cX7_isStripItem 46 = .ok (.iload_n 2, 1) := by decide +kernel
theorem dX7_isStripItem_47 : decode cX7_isStripItem 47 = .ok (.iconst 2, 1) := by decide +kernel
theorem dX7_isStripItem_48 : decode cX7_isStripItem 48 = .ok (.if_icmp .ne 8, 3) := by decide +kernel
theorem dX7_isStripItem_51 : decode cX7_isStripItem 51 = .ok (.bipush 59, 2) := by decide +kernel
theorem dX7_isStripItem_53 : decode cX7_isStripItem 53 = .ok (.goto 5, 3) := by decide +kernel
theorem dX7_isStripItem_56 : decode cX7_isStripItem 56 = .ok (.bipush 44, 2) := by decide +kernel
theorem dX7_isStripItem_58 : decode cX7_isStripItem 58 = .ok (.invokevirtual 83, 3) := by decide +kernel
theorem dX7_isStripItem_61 : decode cX7_isStripItem 61 = .ok (.ifCond .ne 5, 3) := by decide +kernel
theorem dX7_isStripItem_64 : decode cX7_isStripItem 64 = .ok (.iconst 0, 1) := by decide +kernel
theorem dX7_isStripItem_65 : decode cX7_isStripItem 65 = .ok (.ireturn, 1) := by decide +kernel
theorem dX7_isStripItem_66 : decode cX7_isStripItem 66 = .ok (.aload_n 0, 1) := by decide +kernel
theorem dX7_isStripItem_67 : decode cX7_isStripItem 67 = .ok (.getfield 13, 3) := by decide +kernel
theorem dX7_isStripItem_70 : decode cX7_isStripItem 70 = .ok (.iload_n 1, 1) := by decide +kernel
theorem dX7_isStripItem_71 : decode cX7_isStripItem 71 = .ok (.iload_n 2, 1) := by decide +kernel
theorem dX7_isStripItem_72 : decode cX7_isStripItem 72 = .ok (.iadd, 1) := by decide +kernel
theorem dX7_isStripItem_73 : decode cX7_isStripItem 73 = .ok (.aload_n 0, 1) := by decide +kernel
theorem dX7_isStripItem_74 : decode cX7_isStripItem 74 = .ok (.getfield 70, 3) := by decide +kernel
theorem dX7_isStripItem_77 : decode cX7_isStripItem 77 = .ok (.iastore, 1) := by decide +kernel
theorem dX7_isStripItem_78 : decode cX7_isStripItem 78 = .ok (.iinc 2 1, 3) := by decide +kernel
theorem dX7_isStripItem_81 : decode cX7_isStripItem 81 = .ok (.goto (-61), 3) := by decide +kernel
theorem dX7_isStripItem_84 : decode cX7_isStripItem 84 = .ok (.aload_n 0, 1) := by decide +kernel
theorem dX7_isStripItem_85 : decode cX7_isStripItem 85 = .ok (.dup, 1) := by decide +kernel
theorem dX7_isStripItem_86 : decode cX7_isStripItem 86 = .ok (.getfield 80, 3) := by decide +kernel
theorem dX7_isStripItem_89 : decode cX7_isStripItem 89 = .ok (.iconst 1, 1) := by decide +kernel
theorem dX7_isStripItem_90 : decode cX7_isStripItem 90 = .ok (.iadd, 1) := by decide +kernel
theorem dX7_isStripItem_91 : decode cX7_isStripItem 91 = .ok (.putfield 80, 3) := by decide +kernel
theorem dX7_isStripItem_94 : decode cX7_isStripItem 94 = .ok (.iconst 1, 1) := by decide +kernel
theorem dX7_isStripItem_95 : decode cX7_isStripItem 95 = .ok (.ireturn, 1) := by decide +kernel
theorem dX7_isDampItem_0 : decode cX7_isDampItem 0 = .ok (.aload_n 0, 1) := by decide +kernel
theorem dX7_isDampItem_1 : decode cX7_isDampItem 1 = .ok (.getfield 86, 3) := by decide +kernel
theorem dX7_isDampItem_4 : decode cX7_isDampItem 4 = .ok (.bipush 12, 2) := by decide +kernel
theorem dX7_isDampItem_6 : decode cX7_isDampItem 6 = .ok (.if_icmp .eq 15, 3) := by decide +kernel
theorem dX7_isDampItem_9 : decode cX7_isDampItem 9 = .ok (.aload_n 0, 1) := by decide +kernel
theorem dX7_isDampItem_10 : decode cX7_isDampItem 10 = .ok (.iconst 0, 1) := by decide +kernel
theorem dX7_isDampItem_11 : decode cX7_isDampItem 11 = .ok (.bipush 9, 2) := by decide +kernel
theorem dX7_isDampItem_13 : decode cX7_isDampItem 13 = .ok (.bipush 59, 2) := by decide +kernel
theorem dX7_isDampItem_15 : decode cX7_isDampItem 15 = .ok (.invokevirtual 83, 3) := by decide +kernel
theorem dX7_isDampItem_18 : decode cX7_isDampItem 18 = .ok (.ifCond .ne 5, 3) := by decide +kernel
theorem dX7_isDampItem_21 : decode cX7_isDampItem 21 = .ok (.iconst 0, 1) := by decide +kernel
theorem dX7_isDampItem_22 : decode cX7_isDampItem 22 = .ok (.ireturn, 1) := by decide +kernel
theorem dX7_isDampItem_23 : decode cX7_isDampItem 23 = .ok (.aload_n 0, 1) := by decide +kernel
theorem dX7_isDampItem_24 : decode cX7_isDampItem 24 = .ok (.getfield 16, 3) := by decide +kernel
theorem dX7_isDampItem_27 : decode cX7_isDampItem 27 = .ok (.aload_n 0, 1) := by decide +kernel
theorem dX7_isDampItem_28 : decode cX7_isDampItem 28 = .ok (.getfield 86, 3) := by decide +kernel
theorem dX7_isDampItem_31 : decode cX7_isDampItem 31 = .ok (.aload_n 0, 1) := by decide +kernel
theorem dX7_isDampItem_32 : decode cX7_isDampItem 32 = .ok (.getfield 70, 3) := by decide +kernel
theorem dX7_isDampItem_35 : decode cX7_isDampItem 35 = .ok (.iastore, 1) := by decide +kernel
theorem dX7_isDampItem_36 : decode cX7_isDampItem 36 = .ok (.aload_n 0, 1) := by decide +kernel
theorem dX7_isDampItem_37 : decode cX7_isDampItem 37 = .ok (.dup, 1) := by decide +kernel
theorem dX7_isDampItem_38 : decode cX7_isDampItem 38 = .ok (.getfield 86, 3) := by decide +kernel
theorem dX7_isDampItem_41 : decode cX7_isDampItem 41 = .ok (.iconst 1, 1) := by decide +kernel
theorem dX7_isDampItem_42 : decode cX7_isDampItem 42 = .ok (.iadd, 1) := by decide +kernel
theorem dX7_isDampItem_43 : decode cX7_isDampItem 43 = .ok (.putfield 86, 3) := by decide +kernel
theorem dX7_isDampItem_46 : decode cX7_isDampItem 46 = .ok (.iconst 1, 1) := by decide +kernel
theorem dX7_isDampItem_47 : decode cX7_isDampItem 47 = .ok (.ireturn, 1) := by decide +kernel
theorem dX7_isPair_0 : decode cX7_isPair 0 = .ok (.aload_n 0, 1) := by decide +kernel
theorem dX7_isPair_1 : decode cX7_isPair 1 = .ok (.iload_n 2, 1) := by decide +kernel
theorem dX7_isPair_2 : decode cX7_isPair 2 = .ok (.iload_n 3, 1) := by decide +kernel
theorem dX7_isPair_3 : decode cX7_isPair 3 = .ok (.bipush 44, 2) := by decide +kernel
theorem dX7_isPair_5 : decode cX7_isPair 5 = .ok (.invokevirtual 83, 3) := by decide +kernel
theorem dX7_isPair_8 : decode cX7_isPair 8 = .ok (.ifCond .ne 5, 3) := by decide +kernel
theorem dX7_isPair_11 : decode cX7_isPair 11 = .ok (.iconst 0, 1) := by decide +kernel
theorem dX7_isPair_12 : decode cX7_isPair 12 = .ok (.ireturn, 1) := by decide +kernel
theorem dX7_isPair_13 : decode cX7_isPair 13 = .ok (.aload_n 0, 1) := by decide +kernel
theorem dX7_isPair_14 : decode cX7_isPair 14 = .ok (.getfield 70, 3) := by decide +kernel
theorem dX7_isPair_17 : decode cX7_isPair 17 = .ok (.istore 6, 2) := by decide +kernel
theorem dX7_isPair_19 : decode cX7_isPair 19 = .ok (.aload_n 0, 1) := by decide +kernel
theorem dX7_isPair_20 : decode cX7_isPair 20 = .ok (.iload 4, 2) := by decide +kernel
theorem dX7_isPair_22 : decode cX7_isPair 22 = .ok (.iload 5, 2) := by decide +kernel
theorem dX7_isPair_24 : decode cX7_isPair 24 = .ok (.bipush 59, 2) := by decide +kernel
theorem dX7_isPair_26 : decode cX7_isPair 26 = .ok (.invokevirtual 83, 3) := by decide +kernel
theorem dX7_isPair_29 : decode cX7_isPair 29 = .ok (.ifCond .ne 5, 3) := by decide +kernel
theorem dX7_isPair_32 : decode cX7_isPair 32 = .ok (.iconst 0, 1) := by decide +kernel
theorem dX7_isPair_33 : decode cX7_isPair 33 = .ok (.ireturn, 1) := by decide +kernel
theorem dX7_isPair_34 : decode cX7_isPair 34 = .ok (.aload_n 0, 1) := by decide +kernel
theorem dX7_isPair_35 : decode cX7_isPair 35 = .ok (.getfield 19, 3) := by decide +kernel
theorem dX7_isPair_38 : decode cX7_isPair 38 = .ok (.iload_n 1, 1) := by decide +kernel
theorem dX7_isPair_39 : decode cX7_isPair 39 = .ok (.iload 6, 2) := by decide +kernel
theorem dX7_isPair_41 : decode cX7_isPair 41 = .ok (.iastore, 1) := by decide +kernel
theorem dX7_isPair_42 : decode cX7_isPair 42 = .ok (.aload_n 0, 1) := by decide +kernel
theorem dX7_isPair_43 : decode cX7_isPair 43 = .ok (.getfield 19, 3) := by decide +kernel
theorem dX7_isPair_46 : decode cX7_isPair 46 = .ok (.iload_n 1, 1) := by decide +kernel
theorem dX7_isPair_47 : decode cX7_isPair 47 = .ok (.iconst 1, 1) := by decide +kernel
theorem dX7_isPair_48 : decode cX7_isPair 48 = .ok (.iadd, 1) := by decide +kernel
theorem dX7_isPair_49 : decode cX7_isPair 49 = .ok (.aload_n 0, 1) := by decide +kernel
theorem dX7_isPair_50 : decode cX7_isPair 50 = .ok (.getfield 70, 3) := by decide +kernel
theorem dX7_isPair_53 : decode cX7_isPair 53 = .ok (.iastore, 1) := by decide +kernel
theorem dX7_isPair_54 : decode cX7_isPair 54 = .ok (.iconst 1, 1) := by decide +kernel
theorem dX7_isPair_55 : decode cX7_isPair 55 = .ok (.ireturn, 1) := by decide +kernel
theorem dX7_isOne_0 : decode cX7_isOne 0 = .ok (.aload_n 0, 1) := by decide +kernel
theorem dX7_isOne_1 : decode cX7_isOne 1 = .ok (.iload_n 2, 1) := by decide +kernel
theorem dX7_isOne_2 : decode cX7_isOne 2 = .ok (.iload_n 3, 1) := by decide +kernel
theorem dX7_isOne_3 : decode cX7_isOne 3 = .ok (.bipush 59, 2) := by decide +kernel
theorem dX7_isOne_5 : decode cX7_isOne 5 = .ok (.invokevirtual 83, 3) := by decide +kernel
theorem dX7_isOne_8 : decode cX7_isOne 8 = .ok (.ifCond .ne 5, 3) := by decide +kernel
theorem dX7_isOne_11 : decode cX7_isOne 11 = .ok (.iconst 0, 1) := by decide +kernel
theorem dX7_isOne_12 : decode cX7_isOne 12 = .ok (.ireturn, 1) := by decide +kernel
theorem dX7_isOne_13 : decode cX7_isOne 13 = .ok (.aload_n 0, 1) := by decide +kernel
theorem dX7_isOne_14 : decode cX7_isOne 14 = .ok (.getfield 19, 3) := by decide +kernel
theorem dX7_isOne_17 : decode cX7_isOne 17 = .ok (.iload_n 1, 1) := by decide +kernel
theorem dX7_isOne_18 : decode cX7_isOne 18 = .ok (.aload_n 0, 1) := by decide +kernel
theorem dX7_isOne_19 : decode cX7_isOne 19 = .ok (.getfield 70, 3) := by decide +kernel
theorem dX7_isOne_22 : decode cX7_isOne 22 = .ok (.iastore, 1) := by decide +kernel
theorem dX7_isOne_23 : decode cX7_isOne 23 = .ok (.iconst 1, 1) := by decide +kernel
theorem dX7_isOne_24 : decode cX7_isOne 24 = .ok (.ireturn, 1) := by decide +kernel
theorem dX7_isItem_0 : decode cX7_isItem 0 = .ok (.aload_n 0, 1) := by decide +kernel
theorem dX7_isItem_1 : decode cX7_isItem 1 = .ok (.aload_n 0, 1) := by decide +kernel
theorem dX7_isItem_2 : decode cX7_isItem 2 = .ok (.getfield 73, 3) := by decide +kernel
theorem dX7_isItem_5 : decode cX7_isItem 5 = .ok (.invokevirtual 76, 3) := by decide +kernel
theorem dX7_isItem_8 : decode cX7_isItem 8 = .ok (.istore_n 1, 1) := by decide +kernel
theorem dX7_isItem_9 : decode cX7_isItem 9 = .ok (.aload_n 0, 1) := by decide +kernel
theorem dX7_isItem_10 : decode cX7_isItem 10 = .ok (.dup, 1) := by decide +kernel
theorem dX7_isItem_11 : decode cX7_isItem 11 = .ok (.getfield 73, 3) := by decide +kernel
theorem dX7_isItem_14 : decode cX7_isItem 14 = .ok (.iconst 1, 1) := by decide +kernel
theorem dX7_isItem_15 : decode cX7_isItem 15 = .ok (.iadd, 1) := by decide +kernel
theorem dX7_isItem_16 : decode cX7_isItem 16 = .ok (.putfield 73, 3) := by decide +kernel
theorem dX7_isItem_19 : decode cX7_isItem 19 = .ok (.iload_n 1, 1) := by decide +kernel
theorem dX7_isItem_20 : decode cX7_isItem 20 = .ok (.tableswitch 130 100 115 #[125, 130, 130, 130, 105, 130, 130, 114, 130, 130, 130, 97, 130, 130, 85, 80], 80) := by decide +kernel
theorem dX7_isItem_100 : decode cX7_isItem 100 = .ok (.aload_n 0, 1) := by decide +kernel
theorem dX7_isItem_101 : decode cX7_isItem 101 = .ok (.invokevirtual 89, 3) := by decide +kernel
theorem dX7_isItem_104 : decode cX7_isItem 104 = .ok (.ireturn, 1) := by decide +kernel
theorem dX7_isItem_105 : decode cX7_isItem 105 = .ok (.aload_n 0, 1) := by decide +kernel
theorem dX7_isItem_106 : decode cX7_isItem 106 = .ok (.iconst 0, 1) := by decide +kernel
theorem dX7_isItem_107 : decode cX7_isItem 107 = .ok (.iconst 1, 1) := by decide +kernel
theorem dX7_isItem_108 : decode cX7_isItem 108 = .ok (.bipush 6, 2) := by decide +kernel
theorem dX7_isItem_110 : decode cX7_isItem 110 = .ok (.iconst 1, 1) := by decide +kernel
theorem dX7_isItem_111 : decode cX7_isItem 111 = .ok (.bipush 99, 2) := by decide +kernel
theorem dX7_isItem_113 : decode cX7_isItem 113 = .ok (.invokevirtual 93, 3) := by decide +kernel
theorem dX7_isItem_116 : decode cX7_isItem 116 = .ok (.ireturn, 1) := by decide +kernel
theorem dX7_isItem_117 : decode cX7_isItem 117 = .ok (.aload_n 0, 1) := by decide +kernel
theorem dX7_isItem_118 : decode cX7_isItem 118 = .ok (.iconst 2, 1) := by decide +kernel
theorem dX7_isItem_119 : decode cX7_isItem 119 = .ok (.iconst 0, 1) := by decide +kernel
theorem dX7_isItem_120 : decode cX7_isItem 120 = .ok (.iconst 5, 1) := by decide +kernel
theorem dX7_isItem_121 : decode cX7_isItem 121 = .ok (.invokevirtual 97, 3) := by decide +kernel
theorem dX7_isItem_124 : decode cX7_isItem 124 = .ok (.ireturn, 1) := by decide +kernel
theorem dX7_isItem_125 : decode cX7_isItem 125 = .ok (.aload_n 0, 1) := by decide +kernel
theorem dX7_isItem_126 : decode cX7_isItem 126 = .ok (.iconst 3, 1) := by decide +kernel
theorem dX7_isItem_127 : decode cX7_isItem 127 = .ok (.iconst 1, 1) := by decide +kernel
theorem dX7_isItem_128 : decode cX7_isItem 128 = .ok (.bipush 30, 2) := by decide +kernel
theorem dX7_isItem_130 : decode cX7_isItem 130 = .ok (.invokevirtual 97, 3) := by decide +kernel
theorem dX7_isItem_133 : decode cX7_isItem 133 = .ok (.ireturn, 1) := by decide +kernel
theorem dX7_isItem_134 : decode cX7_isItem 134 = .ok (.aload_n 0, 1) := by decide +kernel
theorem dX7_isItem_135 : decode cX7_isItem 135 = .ok (.iconst 4, 1) := by decide +kernel
theorem dX7_isItem_136 : decode cX7_isItem 136 = .ok (.iconst 0, 1) := by decide +kernel
theorem dX7_isItem_137 : decode cX7_isItem 137 = .ok (.iconst 3, 1) := by decide +kernel
theorem dX7_isItem_138 : decode cX7_isItem 138 = .ok (.iconst 1, 1) := by decide +kernel
theorem dX7_isItem_139 : decode cX7_isItem 139 = .ok (.bipush 9, 2) := by decide +kernel
theorem dX7_isItem_141 : decode cX7_isItem 141 = .ok (.invokevirtual 93, 3) := by decide +kernel
theorem dX7_isItem_144 : decode cX7_isItem 144 = .ok (.ireturn, 1) := by decide +kernel
theorem dX7_isItem_145 : decode cX7_isItem 145 = .ok (.aload_n 0, 1) := by decide +kernel
theorem dX7_isItem_146 : decode cX7_isItem 146 = .ok (.invokevirtual 100, 3) := by decide +kernel
theorem dX7_isItem_149 : decode cX7_isItem 149 = .ok (.ireturn, 1) := by decide +kernel
theorem dX7_isItem_150 : decode cX7_isItem 150 = .ok (.iconst 0, 1) := by decide +kernel
theorem dX7_isItem_151 : decode cX7_isItem 151 = .ok (.ireturn, 1) := by decide +kernel
theorem dX7_fault_0 : decode cX7_fault 0 = .ok (.aload_n 0, 1) := by decide +kernel
theorem dX7_fault_1 : decode cX7_fault 1 = .ok (.iconst 0, 1) := by decide +kernel
theorem dX7_fault_2 : decode cX7_fault 2 = .ok (.putfield 73, 3) := by decide +kernel
theorem dX7_fault_5 : decode cX7_fault 5 = .ok (.aload_n 0, 1) := by decide +kernel
theorem dX7_fault_6 : decode cX7_fault 6 = .ok (.iconst 0, 1) := by decide +kernel
theorem dX7_fault_7 : decode cX7_fault 7 = .ok (.putfield 80, 3) := by decide +kernel
theorem dX7_fault_10 : decode cX7_fault 10 = .ok (.aload_n 0, 1) := by decide +kernel
theorem dX7_fault_11 : decode cX7_fault 11 = .ok (.iconst 0, 1) := by decide +kernel
theorem dX7_fault_12 : decode cX7_fault 12 = .ok (.putfield 86, 3) := by decide +kernel
theorem dX7_fault_15 : decode cX7_fault 15 = .ok (.aload_n 0, 1) := by decide +kernel
theorem dX7_fault_16 : decode cX7_fault 16 = .ok (.getfield 19, 3) := by decide +kernel
theorem dX7_fault_19 : decode cX7_fault 19 = .ok (.iconst 0, 1) := by decide +kernel
theorem dX7_fault_20 : decode cX7_fault 20 = .ok (.iconst 3, 1) := by decide +kernel
theorem dX7_fault_21 : decode cX7_fault 21 = .ok (.iastore, 1) := by decide +kernel
theorem dX7_fault_22 : decode cX7_fault 22 = .ok (.aload_n 0, 1) := by decide +kernel
theorem dX7_fault_23 : decode cX7_fault 23 = .ok (.getfield 19, 3) := by decide +kernel
theorem dX7_fault_26 : decode cX7_fault 26 = .ok (.iconst 1, 1) := by decide +kernel
theorem dX7_fault_27 : decode cX7_fault 27 = .ok (.bipush 60, 2) := by decide +kernel
theorem dX7_fault_29 : decode cX7_fault 29 = .ok (.iastore, 1) := by decide +kernel
theorem dX7_fault_30 : decode cX7_fault 30 = .ok (.aload_n 0, 1) := by decide +kernel
theorem dX7_fault_31 : decode cX7_fault 31 = .ok (.getfield 19, 3) := by decide +kernel
theorem dX7_fault_34 : decode cX7_fault 34 = .ok (.iconst 2, 1) := by decide +kernel
theorem dX7_fault_35 : decode cX7_fault 35 = .ok (.iconst 2, 1) := by decide +kernel
theorem dX7_fault_36 : decode cX7_fault 36 = .ok (.iastore, 1) := by decide +kernel
theorem dX7_fault_37 : decode cX7_fault 37 = .ok (.aload_n 0, 1) := by decide +kernel
theorem dX7_fault_38 : decode cX7_fault 38 = .ok (.getfield 19, 3) := by decide +kernel
theorem dX7_fault_41 : decode cX7_fault 41 = .ok (.iconst 3, 1) := by decide +kernel
theorem dX7_fault_42 : decode cX7_fault 42 = .ok (.bipush 12, 2) := by decide +kernel
theorem dX7_fault_44 : decode cX7_fault 44 = .ok (.iastore, 1) := by decide +kernel
theorem dX7_fault_45 : decode cX7_fault 45 = .ok (.aload_n 0, 1) := by decide +kernel
theorem dX7_fault_46 : decode cX7_fault 46 = .ok (.getfield 19, 3) := by decide +kernel
theorem dX7_fault_49 : decode cX7_fault 49 = .ok (.iconst 4, 1) := by decide +kernel
theorem dX7_fault_50 : decode cX7_fault 50 = .ok (.iconst 0, 1) := by decide +kernel
theorem dX7_fault_51 : decode cX7_fault 51 = .ok (.iastore, 1) := by decide +kernel
theorem dX7_fault_52 : decode cX7_fault 52 = .ok (.aload_n 0, 1) := by decide +kernel
theorem dX7_fault_53 : decode cX7_fault 53 = .ok (.getfield 19, 3) := by decide +kernel
theorem dX7_fault_56 : decode cX7_fault 56 = .ok (.iconst 5, 1) := by decide +kernel
theorem dX7_fault_57 : decode cX7_fault 57 = .ok (.iconst 3, 1) := by decide +kernel
theorem dX7_fault_58 : decode cX7_fault 58 = .ok (.iastore, 1) := by decide +kernel
theorem dX7_fault_59 : decode cX7_fault 59 = .ok (.aload_n 0, 1) := by decide +kernel
theorem dX7_fault_60 : decode cX7_fault 60 = .ok (.getfield 73, 3) := by decide +kernel
theorem dX7_fault_63 : decode cX7_fault 63 = .ok (.aload_n 0, 1) := by decide +kernel
theorem dX7_fault_64 : decode cX7_fault 64 = .ok (.getfield 67, 3) := by decide +kernel
theorem dX7_fault_67 : decode cX7_fault 67 = .ok (.if_icmp .ge 20, 3) := by decide +kernel
theorem dX7_fault_70 : decode cX7_fault 70 = .ok (.aload_n 0, 1) := by decide +kernel
theorem dX7_fault_71 : decode cX7_fault 71 = .ok (.getfield 73, 3) := by decide +kernel
theorem dX7_fault_74 : decode cX7_fault 74 = .ok (.istore_n 1, 1) := by decide +kernel
theorem dX7_fault_75 : decode cX7_fault 75 = .ok (.aload_n 0, 1) := by decide +kernel
theorem dX7_fault_76 : decode cX7_fault 76 = .ok (.invokevirtual 103, 3) := by decide +kernel
theorem dX7_fault_79 : decode cX7_fault 79 = .ok (.ifCond .ne 5, 3) := by decide +kernel
theorem dX7_fault_82 : decode cX7_fault 82 = .ok (.iload_n 1, 1) := by decide +kernel
theorem dX7_fault_83 : decode cX7_fault 83 = .ok (.ireturn, 1) := by decide +kernel
theorem dX7_fault_84 : decode cX7_fault 84 = .ok (.goto (-25), 3) := by decide +kernel
theorem dX7_fault_87 : decode cX7_fault 87 = .ok (.bipush (-4), 2) := by decide +kernel
theorem dX7_fault_89 : decode cX7_fault 89 = .ok (.ireturn, 1) := by decide +kernel
theorem dX7_lay_0 : decode cX7_lay 0 = .ok (.aload_n 0, 1) := by decide +kernel
theorem dX7_lay_1 : decode cX7_lay 1 = .ok (.invokevirtual 106, 3) := by decide +kernel
theorem dX7_lay_4 : decode cX7_lay 4 = .ok (.bipush (-4), 2) := by decide +kernel
theorem dX7_lay_6 : decode cX7_lay 6 = .ok (.if_icmp .ne 10, 3) := by decide +kernel
theorem dX7_lay_9 : decode cX7_lay 9 = .ok (.aload_n 0, 1) := by decide +kernel
theorem dX7_lay_10 : decode cX7_lay 10 = .ok (.getfield 80, 3) := by decide +kernel
theorem dX7_lay_13 : decode cX7_lay 13 = .ok (.ifCond .ne 6, 3) := by decide +kernel
theorem dX7_lay_16 : decode cX7_lay 16 = .ok (.bipush (-2), 2) := by decide +kernel
theorem dX7_lay_18 : decode cX7_lay 18 = .ok (.ireturn, 1) := by decide +kernel
theorem dX7_lay_19 : decode cX7_lay 19 = .ok (.aload_n 0, 1) := by decide +kernel
theorem dX7_lay_20 : decode cX7_lay 20 = .ok (.aload_n 0, 1) := by decide +kernel
theorem dX7_lay_21 : decode cX7_lay 21 = .ok (.getfield 80, 3) := by decide +kernel
theorem dX7_lay_24 : decode cX7_lay 24 = .ok (.putfield 56, 3) := by decide +kernel
theorem dX7_lay_27 : decode cX7_lay 27 = .ok (.aload_n 0, 1) := by decide +kernel
theorem dX7_lay_28 : decode cX7_lay 28 = .ok (.aload_n 0, 1) := by decide +kernel
theorem dX7_lay_29 : decode cX7_lay 29 = .ok (.getfield 86, 3) := by decide +kernel
theorem dX7_lay_32 : decode cX7_lay 32 = .ok (.putfield 60, 3) := by decide +kernel
theorem dX7_lay_35 : decode cX7_lay 35 = .ok (.aload_n 0, 1) := by decide +kernel
theorem dX7_lay_36 : decode cX7_lay 36 = .ok (.getfield 13, 3) := by decide +kernel
theorem dX7_lay_39 : decode cX7_lay 39 = .ok (.iconst 0, 1) := by decide +kernel
theorem dX7_lay_40 : decode cX7_lay 40 = .ok (.aload_n 0, 1) := by decide +kernel
theorem dX7_lay_41 : decode cX7_lay 41 = .ok (.getfield 22, 3) := by decide +kernel
theorem dX7_lay_44 : decode cX7_lay 44 = .ok (.iconst 0, 1) := by decide +kernel
theorem dX7_lay_45 : decode cX7_lay 45 = .ok (.bipush 36, 2) := by decide +kernel
theorem dX7_lay_47 : decode cX7_lay 47 = .ok (.invokestatic 110, 3) := by decide +kernel
theorem dX7_lay_50 : decode cX7_lay 50 = .ok (.aload_n 0, 1) := by decide +kernel
theorem dX7_lay_51 : decode cX7_lay 51 = .ok (.getfield 16, 3) := by decide +kernel
theorem dX7_lay_54 : decode cX7_lay 54 = .ok (.iconst 0, 1) := by decide +kernel
theorem dX7_lay_55 : decode cX7_lay 55 = .ok (.aload_n 0, 1) := by decide +kernel
theorem dX7_lay_56 : decode cX7_lay 56 = .ok (.getfield 25, 3) := by decide +kernel
theorem dX7_lay_59 : decode cX7_lay 59 = .ok (.iconst 0, 1) := by decide +kernel
theorem dX7_lay_60 : decode cX7_lay 60 = .ok (.bipush 12, 2) := by decide +kernel
theorem dX7_lay_62 : decode cX7_lay 62 = .ok (.invokestatic 110, 3) := by decide +kernel
theorem dX7_lay_65 : decode cX7_lay 65 = .ok (.aload_n 0, 1) := by decide +kernel
theorem dX7_lay_66 : decode cX7_lay 66 = .ok (.getfield 19, 3) := by decide +kernel
theorem dX7_lay_69 : decode cX7_lay 69 = .ok (.iconst 0, 1) := by decide +kernel
theorem dX7_lay_70 : decode cX7_lay 70 = .ok (.aload_n 0, 1) := by decide +kernel
theorem dX7_lay_71 : decode cX7_lay 71 = .ok (.getfield 28, 3) := by decide +kernel
theorem dX7_lay_74 : decode cX7_lay 74 = .ok (.iconst 0, 1) := by decide +kernel
theorem dX7_lay_75 : decode cX7_lay 75 = .ok (.bipush 6, 2) := by decide +kernel
theorem dX7_lay_77 : decode cX7_lay 77 = .ok (.invokestatic 110, 3) := by decide +kernel
theorem dX7_lay_80 : decode cX7_lay 80 = .ok (.iconst 0, 1) := by decide +kernel
theorem dX7_lay_81 : decode cX7_lay 81 = .ok (.istore_n 1, 1) := by decide +kernel
theorem dX7_lay_82 : decode cX7_lay 82 = .ok (.iload_n 1, 1) := by decide +kernel
theorem dX7_lay_83 : decode cX7_lay 83 = .ok (.bipush 32, 2) := by decide +kernel
theorem dX7_lay_85 : decode cX7_lay 85 = .ok (.if_icmp .ge 16, 3) := by decide +kernel
theorem dX7_lay_88 : decode cX7_lay 88 = .ok (.aload_n 0, 1) := by decide +kernel
theorem dX7_lay_89 : decode cX7_lay 89 = .ok (.getfield 31, 3) := by decide +kernel
theorem dX7_lay_92 : decode cX7_lay 92 = .ok (.iload_n 1, 1) := by decide +kernel
theorem dX7_lay_93 : decode cX7_lay 93 = .ok (.iconst 0, 1) := by decide +kernel
theorem dX7_lay_94 : decode cX7_lay 94 = .ok (.iastore, 1) := by decide +kernel
theorem dX7_lay_95 : decode cX7_lay 95 = .ok (.iinc 1 1, 3) := by decide +kernel
theorem dX7_lay_98 : decode cX7_lay 98 = .ok (.goto (-16), 3) := by decide +kernel
theorem dX7_lay_101 : decode cX7_lay 101 = .ok (.aload_n 0, 1) := by decide +kernel
theorem dX7_lay_102 : decode cX7_lay 102 = .ok (.iconst 0, 1) := by decide +kernel
theorem dX7_lay_103 : decode cX7_lay 103 = .ok (.putfield 114, 3) := by decide +kernel
theorem dX7_lay_106 : decode cX7_lay 106 = .ok (.aload_n 0, 1) := by decide +kernel
theorem dX7_lay_107 : decode cX7_lay 107 = .ok (.iconst 0, 1) := by decide +kernel
theorem dX7_lay_108 : decode cX7_lay 108 = .ok (.putfield 117, 3) := by decide +kernel
theorem dX7_lay_111 : decode cX7_lay 111 = .ok (.aload_n 0, 1) := by decide +kernel
theorem dX7_lay_112 : decode cX7_lay 112 = .ok (.iconst 0, 1) := by decide +kernel
theorem dX7_lay_113 : decode cX7_lay 113 = .ok (.putfield 120, 3) := by decide +kernel
theorem dX7_lay_116 : decode cX7_lay 116 = .ok (.aload_n 0, 1) := by decide +kernel
theorem dX7_lay_117 : decode cX7_lay 117 = .ok (.getfield 56, 3) := by decide +kernel
theorem dX7_lay_120 : decode cX7_lay 120 = .ok (.ireturn, 1) := by decide +kernel
theorem dX7_coveredIn_0 : decode cX7_coveredIn 0 = .ok (.iconst 0, 1) := by decide +kernel
theorem dX7_coveredIn_1 : decode cX7_coveredIn 1 = .ok (.istore_n 1, 1) := by decide +kernel
theorem dX7_coveredIn_2 : decode cX7_coveredIn 2 = .ok (.iconst 0, 1) := by decide +kernel
theorem dX7_coveredIn_3 : decode cX7_coveredIn 3 = .ok (.istore_n 2, 1) := by decide +kernel
theorem dX7_coveredIn_4 : decode cX7_coveredIn 4 = .ok (.iload_n 2, 1) := by decide +kernel
theorem dX7_coveredIn_5 : decode cX7_coveredIn 5 = .ok (.aload_n 0, 1) := by decide +kernel
theorem dX7_coveredIn_6 : decode cX7_coveredIn 6 = .ok (.iconst 0, 1) := by decide +kernel
theorem dX7_coveredIn_7 : decode cX7_coveredIn 7 = .ok (.iaload, 1) := by decide +kernel
theorem dX7_coveredIn_8 : decode cX7_coveredIn 8 = .ok (.if_icmp .ge 17, 3) := by decide +kernel
theorem dX7_coveredIn_11 : decode cX7_coveredIn 11 = .ok (.iload_n 1, 1) := by decide +kernel
theorem dX7_coveredIn_12 : decode cX7_coveredIn 12 = .ok (.aload_n 0, 1) := by decide +kernel
theorem dX7_coveredIn_13 : decode cX7_coveredIn 13 = .ok (.iconst 1, 1) := by decide +kernel
theorem dX7_coveredIn_14 : decode cX7_coveredIn 14 = .ok (.iload_n 2, 1) := by decide +kernel
theorem dX7_coveredIn_15 : decode cX7_coveredIn 15 = .ok (.iadd, 1) := by decide +kernel
theorem dX7_coveredIn_16 : decode cX7_coveredIn 16 = .ok (.iaload, 1) := by decide +kernel
theorem dX7_coveredIn_17 : decode cX7_coveredIn 17 = .ok (.iadd, 1) := by decide +kernel
theorem dX7_coveredIn_18 : decode cX7_coveredIn 18 = .ok (.istore_n 1, 1) := by decide +kernel
theorem dX7_coveredIn_19 : decode cX7_coveredIn 19 = .ok (.iinc 2 1, 3) := by decide +kernel
theorem dX7_coveredIn_22 : decode cX7_coveredIn 22 = .ok (.goto (-18), 3) := by decide +kernel
theorem dX7_coveredIn_25 : decode cX7_coveredIn 25 = .ok (.iload_n 1, 1) := by decide +kernel
theorem dX7_coveredIn_26 : decode cX7_coveredIn 26 = .ok (.ireturn, 1) := by decide +kernel
theorem dX7_rollIn_0 : decode cX7_rollIn 0 = .ok (.aload_n 0, 1) := by decide +kernel
theorem dX7_rollIn_1 : decode cX7_rollIn 1 = .ok (.getfield 28, 3) := by decide +kernel
theorem dX7_rollIn_4 : decode cX7_rollIn 4 = .ok (.iconst 1, 1) := by decide +kernel
theorem dX7_rollIn_5 : decode cX7_rollIn 5 = .ok (.iaload, 1) := by decide +kernel
theorem dX7_rollIn_6 : decode cX7_rollIn 6 = .ok (.istore_n 2, 1) := by decide +kernel
theorem dX7_rollIn_7 : decode cX7_rollIn 7 = .ok (.iconst 0, 1) := by decide +kernel
theorem dX7_rollIn_8 : decode cX7_rollIn 8 = .ok (.istore_n 3, 1) := by decide +kernel
theorem dX7_rollIn_9 : decode cX7_rollIn 9 = .ok (.iload_n 3, 1) := by decide +kernel
theorem dX7_rollIn_10 : decode cX7_rollIn 10 = .ok (.aload_n 1, 1) := by decide +kernel
theorem dX7_rollIn_11 : decode cX7_rollIn 11 = .ok (.iconst 0, 1) := by decide +kernel
theorem dX7_rollIn_12 : decode cX7_rollIn 12 = .ok (.iaload, 1) := by decide +kernel
theorem dX7_rollIn_13 : decode cX7_rollIn 13 = .ok (.if_icmp .ge 18, 3) := by decide +kernel
theorem dX7_rollIn_16 : decode cX7_rollIn 16 = .ok (.iload_n 2, 1) := by decide +kernel
theorem dX7_rollIn_17 : decode cX7_rollIn 17 = .ok (.aload_n 1, 1) := by decide +kernel
theorem dX7_rollIn_18 : decode cX7_rollIn 18 = .ok (.bipush 13, 2) := by decide +kernel
theorem dX7_rollIn_20 : decode cX7_rollIn 20 = .ok (.iload_n 3, 1) := by decide +kernel
theorem dX7_rollIn_21 : decode cX7_rollIn 21 = .ok (.iadd, 1) := by decide +kernel
theorem dX7_rollIn_22 : decode cX7_rollIn 22 = .ok (.iaload, 1) := by decide +kernel
theorem dX7_rollIn_23 : decode cX7_rollIn 23 = .ok (.isub, 1) := by decide +kernel
theorem dX7_rollIn_24 : decode cX7_rollIn 24 = .ok (.istore_n 2, 1) := by decide +kernel
theorem dX7_rollIn_25 : decode cX7_rollIn 25 = .ok (.iinc 3 1, 3) := by decide +kernel
theorem dX7_rollIn_28 : decode cX7_rollIn 28 = .ok (.goto (-19), 3) := by decide +kernel
theorem dX7_rollIn_31 : decode cX7_rollIn 31 = .ok (.iload_n 2, 1) := by decide +kernel
theorem dX7_rollIn_32 : decode cX7_rollIn 32 = .ok (.ireturn, 1) := by decide +kernel
theorem dX7_lengthOf_0 : decode cX7_lengthOf 0 = .ok (.iconst 0, 1) := by decide +kernel
theorem dX7_lengthOf_1 : decode cX7_lengthOf 1 = .ok (.istore_n 2, 1) := by decide +kernel
theorem dX7_lengthOf_2 : decode cX7_lengthOf 2 = .ok (.iconst 0, 1) := by decide +kernel
theorem dX7_lengthOf_3 : decode cX7_lengthOf 3 = .ok (.istore_n 3, 1) := by decide +kernel
theorem dX7_lengthOf_4 : decode cX7_lengthOf 4 = .ok (.iload_n 3, 1) := by decide +kernel
theorem dX7_lengthOf_5 : decode cX7_lengthOf 5 = .ok (.aload_n 0, 1) := by decide +kernel
theorem dX7_lengthOf_6 : decode cX7_lengthOf 6 = .ok (.getfield 31, 3) := by decide +kernel
theorem dX7_lengthOf_9 : decode cX7_lengthOf 9 = .ok (.iconst 0, 1) := by decide +kernel
theorem dX7_lengthOf_10 : decode cX7_lengthOf 10 = .ok (.iaload, 1) := by decide +kernel
theorem dX7_lengthOf_11 : decode cX7_lengthOf 11 = .ok (.if_icmp .ge 27, 3) := by decide +kernel
theorem dX7_lengthOf_14 : decode cX7_lengthOf 14 = .ok (.iload_n 2, 1) := by decide +kernel
theorem dX7_lengthOf_15 : decode cX7_lengthOf 15 = .ok (.aload_n 0, 1) := by decide +kernel
theorem dX7_lengthOf_16 : decode cX7_lengthOf 16 = .ok (.getfield 31, 3) := by decide +kernel
theorem dX7_lengthOf_19 : decode cX7_lengthOf 19 = .ok (.iconst 1, 1) := by decide +kernel
theorem dX7_lengthOf_20 : decode cX7_lengthOf 20 = .ok (.iload_n 3, 1) := by decide +kernel
theorem dX7_lengthOf_21 : decode cX7_lengthOf 21 = .ok (.iadd, 1) := by decide +kernel
theorem dX7_lengthOf_22 : decode cX7_lengthOf 22 = .ok (.iaload, 1) := by decide +kernel
theorem dX7_lengthOf_23 : decode cX7_lengthOf 23 = .ok (.iadd, 1) := by decide +kernel
theorem dX7_lengthOf_24 : decode cX7_lengthOf 24 = .ok (.istore_n 2, 1) := by decide +kernel
theorem dX7_lengthOf_25 : decode cX7_lengthOf 25 = .ok (.iload_n 1, 1) := by decide +kernel
theorem dX7_lengthOf_26 : decode cX7_lengthOf 26 = .ok (.iload_n 2, 1) := by decide +kernel
theorem dX7_lengthOf_27 : decode cX7_lengthOf 27 = .ok (.if_icmp .ge 5, 3) := by decide +kernel
theorem dX7_lengthOf_30 : decode cX7_lengthOf 30 = .ok (.iload_n 3, 1) := by decide +kernel
theorem dX7_lengthOf_31 : decode cX7_lengthOf 31 = .ok (.ireturn, 1) := by decide +kernel
theorem dX7_lengthOf_32 : decode cX7_lengthOf 32 = .ok (.iinc 3 1, 3) := by decide +kernel
theorem dX7_lengthOf_35 : decode cX7_lengthOf 35 = .ok (.goto (-31), 3) := by decide +kernel
theorem dX7_lengthOf_38 : decode cX7_lengthOf 38 = .ok (.bipush (-4), 2) := by decide +kernel
theorem dX7_lengthOf_40 : decode cX7_lengthOf 40 = .ok (.ireturn, 1) := by decide +kernel
theorem dX7_strip_0 : decode cX7_strip 0 = .ok (.iload_n 1, 1) := by decide +kernel
theorem dX7_strip_1 : decode cX7_strip 1 = .ok (.iconst 0, 1) := by decide +kernel
theorem dX7_strip_2 : decode cX7_strip 2 = .ok (.aload_n 0, 1) := by decide +kernel
theorem dX7_strip_3 : decode cX7_strip 3 = .ok (.getfield 56, 3) := by decide +kernel
theorem dX7_strip_6 : decode cX7_strip 6 = .ok (.iconst 1, 1) := by decide +kernel
theorem dX7_strip_7 : decode cX7_strip 7 = .ok (.isub, 1) := by decide +kernel
theorem dX7_strip_8 : decode cX7_strip 8 = .ok (.invokestatic 63, 3) := by decide +kernel
theorem dX7_strip_11 : decode cX7_strip 11 = .ok (.ifCond .eq 12, 3) := by decide +kernel
theorem dX7_strip_14 : decode cX7_strip 14 = .ok (.iload_n 2, 1) := by decide +kernel
theorem dX7_strip_15 : decode cX7_strip 15 = .ok (.iconst 0, 1) := by decide +kernel
theorem dX7_strip_16 : decode cX7_strip 16 = .ok (.iconst 4, 1) := by decide +kernel
theorem dX7_strip_17 : decode cX7_strip 17 = .ok (.invokestatic 63, 3) := by decide +kernel
theorem dX7_strip_20 : decode cX7_strip 20 = .ok (.ifCond .ne 5, 3) := by decide +kernel
theorem dX7_strip_23 : decode cX7_strip 23 = .ok (.iconst (-1), 1) := by decide +kernel
theorem dX7_strip_24 : decode cX7_strip 24 = .ok (.ireturn, 1) := by decide +kernel
theorem dX7_strip_25 : decode cX7_strip 25 = .ok (.iload_n 2, 1) := by decide +kernel
theorem dX7_strip_26 : decode cX7_strip 26 = .ok (.iconst 3, 1) := by decide +kernel
theorem dX7_strip_27 : decode cX7_strip 27 = .ok (.if_icmp .ge 14, 3) := by decide +kernel
theorem dX7_strip_30 : decode cX7_strip 30 = .ok (.aload_n 0, 1) := by decide +kernel
theorem dX7_strip_31 : decode cX7_strip 31 = .ok (.getfield 22, 3) := by decide +kernel
theorem dX7_strip_34 : decode cX7_strip 34 = .ok (.iconst 3, 1) := by decide +kernel
theorem dX7_strip_35 : decode cX7_strip 35 = .ok (.iload_n 1, 1) := by decide +kernel
theorem dX7_strip_36 : decode cX7_strip 36 = .ok (.imul, 1) := by decide +kernel
theorem dX7_strip_37 : decode cX7_strip 37 = .ok (.iload_n 2, 1) := by decide +kernel
theorem dX7_strip_38 : decode cX7_strip 38 = .ok (.iadd, 1) := by decide +kernel
theorem dX7_strip_39 : decode cX7_strip 39 = .ok (.iaload, 1) := by decide +kernel
theorem dX7_strip_40 : decode cX7_strip 40 = .ok (.ireturn, 1) := by decide +kernel
theorem dX7_strip_41 : decode cX7_strip 41 = .ok (.aload_n 0, 1) := by decide +kernel
theorem dX7_strip_42 : decode cX7_strip 42 = .ok (.iload_n 1, 1) := by decide +kernel
theorem dX7_strip_43 : decode cX7_strip 43 = .ok (.invokevirtual 123, 3) := by decide +kernel
theorem dX7_strip_46 : decode cX7_strip 46 = .ok (.istore_n 3, 1) := by decide +kernel
theorem dX7_strip_47 : decode cX7_strip 47 = .ok (.aload_n 0, 1) := by decide +kernel
theorem dX7_strip_48 : decode cX7_strip 48 = .ok (.iload_n 1, 1) := by decide +kernel
theorem dX7_strip_49 : decode cX7_strip 49 = .ok (.iconst 1, 1) := by decide +kernel
theorem dX7_strip_50 : decode cX7_strip 50 = .ok (.iadd, 1) := by decide +kernel
theorem dX7_strip_51 : decode cX7_strip 51 = .ok (.invokevirtual 123, 3) := by decide +kernel
theorem dX7_strip_54 : decode cX7_strip 54 = .ok (.istore 4, 2) := by decide +kernel
theorem dX7_strip_56 : decode cX7_strip 56 = .ok (.iload_n 2, 1) := by decide +kernel
theorem dX7_strip_57 : decode cX7_strip 57 = .ok (.iconst 3, 1) := by decide +kernel
theorem dX7_strip_58 : decode cX7_strip 58 = .ok (.if_icmp .ne 7, 3) := by decide +kernel
theorem dX7_strip_61 : decode cX7_strip 61 = .ok (.iload_n 3, 1) := by decide +kernel
theorem dX7_strip_62 : decode cX7_strip 62 = .ok (.goto 27, 3) := by decide +kernel
theorem dX7_strip_65 : decode cX7_strip 65 = .ok (.iload_n 3, 1) := by decide +kernel
theorem dX7_strip_66 : decode cX7_strip 66 = .ok (.bipush (-4), 2) := by decide +kernel
theorem dX7_strip_68 : decode cX7_strip 68 = .ok (.if_icmp .eq 20, 3) := by decide +kernel
theorem dX7_strip_71 : decode cX7_strip 71 = .ok (.iload 4, 2) := by decide +kernel
theorem dX7_strip_73 : decode cX7_strip 73 = .ok (.bipush (-4), 2) := by decide +kernel
theorem dX7_strip_75 : decode cX7_strip 75 = .ok (.if_icmp .eq 13, 3) := by decide +kernel
theorem dX7_strip_78 : decode cX7_strip 78 = .ok (.iload 4, 2) := by decide +kernel
theorem dX7_strip_80 : decode cX7_strip 80 = .ok (.iload_n 3, 1) := by decide +kernel
theorem dX7_strip_81 : decode cX7_strip 81 = .ok (.if_icmp .eq 7, 3) := by decide +kernel
theorem dX7_strip_84 : decode cX7_strip 84 = .ok (.iconst 1, 1) := by decide +kernel
theorem dX7_strip_85 : decode cX7_strip 85 = .ok (.goto 4, 3) := by decide +kernel
theorem dX7_strip_88 : decode cX7_strip 88 = .ok (.iconst 0, 1) := by decide +kernel
theorem dX7_strip_89 : decode cX7_strip 89 = .ok (.ireturn, 1) := by decide +kernel
theorem dX7_isHooked_0 : decode cX7_isHooked 0 = .ok (.aload_n 0, 1) := by decide +kernel
theorem dX7_isHooked_1 : decode cX7_isHooked 1 = .ok (.bipush 29, 2) := by decide +kernel
theorem dX7_isHooked_3 : decode cX7_isHooked 3 = .ok (.iaload, 1) := by decide +kernel
theorem dX7_isHooked_4 : decode cX7_isHooked 4 = .ok (.iload_n 1, 1) := by decide +kernel
theorem dX7_isHooked_5 : decode cX7_isHooked 5 = .ok (.invokestatic 126, 3) := by decide +kernel
theorem dX7_isHooked_8 : decode cX7_isHooked 8 = .ok (.ireturn, 1) := by decide +kernel
theorem dX7_wall_0 : decode cX7_wall 0 = .ok (.iload_n 1, 1) := by decide +kernel
theorem dX7_wall_1 : decode cX7_wall 1 = .ok (.iconst 0, 1) := by decide +kernel
theorem dX7_wall_2 : decode cX7_wall 2 = .ok (.iconst 3, 1) := by decide +kernel
theorem dX7_wall_3 : decode cX7_wall 3 = .ok (.invokestatic 63, 3) := by decide +kernel
theorem dX7_wall_6 : decode cX7_wall 6 = .ok (.ifCond .ne 5, 3) := by decide +kernel
theorem dX7_wall_9 : decode cX7_wall 9 = .ok (.iconst (-1), 1) := by decide +kernel
theorem dX7_wall_10 : decode cX7_wall 10 = .ok (.ireturn, 1) := by decide +kernel
theorem dX7_wall_11 : decode cX7_wall 11 = .ok (.iload_n 2, 1) := by decide +kernel
theorem dX7_wall_12 : decode cX7_wall 12 = .ok (.tableswitch 96 0 3 #[32, 42, 54, 66], 32) := by decide +kernel
theorem dX7_wall_44 : decode cX7_wall 44 = .ok (.aload_n 0, 1) := by decide +kernel
theorem dX7_wall_45 : decode cX7_wall 45 = .ok (.getfield 31, 3) := by decide +kernel
theorem dX7_wall_48 : decode cX7_wall 48 = .ok (.bipush 25, 2) := by decide +kernel
theorem dX7_wall_50 : decode cX7_wall 50 = .ok (.iload_n 1, 1) := by decide +kernel
theorem dX7_wall_51 : decode cX7_wall 51 = .ok (.iadd, 1) := by decide +kernel
theorem dX7_wall_52 : decode cX7_wall 52 = .ok (.iaload, 1) := by decide +kernel
theorem dX7_wall_53 : decode cX7_wall 53 = .ok (.ireturn, 1) := by decide +kernel
theorem dX7_wall_54 : decode cX7_wall 54 = .ok (.aload_n 0, 1) := by decide +kernel
theorem dX7_wall_55 : decode cX7_wall 55 = .ok (.getfield 31, 3) := by decide +kernel
theorem dX7_wall_58 : decode cX7_wall 58 = .ok (.bipush 29, 2) := by decide +kernel
theorem dX7_wall_60 : decode cX7_wall 60 = .ok (.iaload, 1) := by decide +kernel
theorem dX7_wall_61 : decode cX7_wall 61 = .ok (.iload_n 1, 1) := by decide +kernel
theorem dX7_wall_62 : decode cX7_wall 62 = .ok (.ishr, 1) := by decide +kernel
theorem dX7_wall_63 : decode cX7_wall 63 = .ok (.iconst 1, 1) := by decide +kernel
theorem dX7_wall_64 : decode cX7_wall 64 = .ok (.iand, 1) := by decide +kernel
theorem dX7_wall_65 : decode cX7_wall 65 = .ok (.ireturn, 1) := by decide +kernel
theorem dX7_wall_66 : decode cX7_wall 66 = .ok (.aload_n 0, 1) := by decide +kernel
theorem dX7_wall_67 : decode cX7_wall 67 = .ok (.getfield 31, 3) := by decide +kernel
theorem dX7_wall_70 : decode cX7_wall 70 = .ok (.bipush 30, 2) := by decide +kernel
theorem dX7_wall_72 : decode cX7_wall 72 = .ok (.iaload, 1) := by decide +kernel
theorem dX7_wall_73 : decode cX7_wall 73 = .ok (.iload_n 1, 1) := by decide +kernel
theorem dX7_wall_74 : decode cX7_wall 74 = .ok (.ishr, 1) := by decide +kernel
theorem dX7_wall_75 : decode cX7_wall 75 = .ok (.iconst 1, 1) := by decide +kernel
theorem dX7_wall_76 : decode cX7_wall 76 = .ok (.iand, 1) := by decide +kernel
theorem dX7_wall_77 : decode cX7_wall 77 = .ok (.ireturn, 1) := by decide +kernel
theorem dX7_wall_78 : decode cX7_wall 78 = .ok (.aload_n 0, 1) := by decide +kernel
theorem dX7_wall_79 : decode cX7_wall 79 = .ok (.getfield 31, 3) := by decide +kernel
theorem dX7_wall_82 : decode cX7_wall 82 = .ok (.iload_n 1, 1) := by decide +kernel
theorem dX7_wall_83 : decode cX7_wall 83 = .ok (.invokestatic 130, 3) := by decide +kernel
theorem dX7_wall_86 : decode cX7_wall 86 = .ok (.ifCond .eq 20, 3) := by decide +kernel
theorem dX7_wall_89 : decode cX7_wall 89 = .ok (.aload_n 0, 1) := by decide +kernel
theorem dX7_wall_90 : decode cX7_wall 90 = .ok (.getfield 31, 3) := by decide +kernel
theorem dX7_wall_93 : decode cX7_wall 93 = .ok (.bipush 25, 2) := by decide +kernel
theorem dX7_wall_95 : decode cX7_wall 95 = .ok (.iload_n 1, 1) := by decide +kernel
theorem dX7_wall_96 : decode cX7_wall 96 = .ok (.iadd, 1) := by decide +kernel
theorem dX7_wall_97 : decode cX7_wall 97 = .ok (.iaload, 1) := by decide +kernel
theorem dX7_wall_98 : decode cX7_wall 98 = .ok (.iconst 2, 1) := by decide +kernel
theorem dX7_wall_99 : decode cX7_wall 99 = .ok (.if_icmp .ge 7, 3) := by decide +kernel
theorem dX7_wall_102 : decode cX7_wall 102 = .ok (.iconst 1, 1) := by decide +kernel
theorem dX7_wall_103 : decode cX7_wall 103 = .ok (.goto 4, 3) := by decide +kernel
theorem dX7_wall_106 : decode cX7_wall 106 = .ok (.iconst 0, 1) := by decide +kernel
theorem dX7_wall_107 : decode cX7_wall 107 = .ok (.ireturn, 1) := by decide +kernel
theorem dX7_wall_108 : decode cX7_wall 108 = .ok (.iconst (-1), 1) := by decide +kernel
theorem dX7_wall_109 : decode cX7_wall 109 = .ok (.ireturn, 1) := by decide +kernel
theorem dX7_dampBy_0 : decode cX7_dampBy 0 = .ok (.aload_n 0, 1) := by decide +kernel
theorem dX7_dampBy_1 : decode cX7_dampBy 1 = .ok (.getfield 60, 3) := by decide +kernel
theorem dX7_dampBy_4 : decode cX7_dampBy 4 = .ok (.ifCond .ne 7, 3) := by decide +kernel
theorem dX7_dampBy_7 : decode cX7_dampBy 7 = .ok (.iconst 4, 1) := by decide +kernel
theorem dX7_dampBy_8 : decode cX7_dampBy 8 = .ok (.goto 14, 3) := by decide +kernel
theorem dX7_dampBy_11 : decode cX7_dampBy 11 = .ok (.aload_n 0, 1) := by decide +kernel
theorem dX7_dampBy_12 : decode cX7_dampBy 12 = .ok (.getfield 25, 3) := by decide +kernel
theorem dX7_dampBy_15 : decode cX7_dampBy 15 = .ok (.iload_n 1, 1) := by decide +kernel
theorem dX7_dampBy_16 : decode cX7_dampBy 16 = .ok (.aload_n 0, 1) := by decide +kernel
theorem dX7_dampBy_17 : decode cX7_dampBy 17 = .ok (.getfield 60, 3) := by decide +kernel
theorem dX7_dampBy_20 : decode cX7_dampBy 20 = .ok (.irem, 1) := by decide +kernel
theorem dX7_dampBy_21 : decode cX7_dampBy 21 = .ok (.iaload, 1) := by decide +kernel
theorem dX7_dampBy_22 : decode cX7_dampBy 22 = .ok (.ireturn, 1) := by decide +kernel
theorem dX7_damp_0 : decode cX7_damp 0 = .ok (.iload_n 1, 1) := by decide +kernel
theorem dX7_damp_1 : decode cX7_damp 1 = .ok (.iconst 0, 1) := by decide +kernel
theorem dX7_damp_2 : decode cX7_damp 2 = .ok (.sipush 999, 3) := by decide +kernel
theorem dX7_damp_5 : decode cX7_damp 5 = .ok (.invokestatic 63, 3) := by decide +kernel
theorem dX7_damp_8 : decode cX7_damp 8 = .ok (.ifCond .eq 11, 3) := by decide +kernel
theorem dX7_damp_11 : decode cX7_damp 11 = .ok (.aload_n 0, 1) := by decide +kernel
theorem dX7_damp_12 : decode cX7_damp 12 = .ok (.iload_n 1, 1) := by decide +kernel
theorem dX7_damp_13 : decode cX7_damp 13 = .ok (.invokevirtual 134, 3) := by decide +kernel
theorem dX7_damp_16 : decode cX7_damp 16 = .ok (.goto 4, 3) := by decide +kernel
theorem dX7_damp_19 : decode cX7_damp 19 = .ok (.iconst (-1), 1) := by decide +kernel
theorem dX7_damp_20 : decode cX7_damp 20 = .ok (.ireturn, 1) := by decide +kernel
theorem dX7_note_0 : decode cX7_note 0 = .ok (.aload_n 0, 1) := by decide +kernel
theorem dX7_note_1 : decode cX7_note 1 = .ok (.getfield 117, 3) := by decide +kernel
theorem dX7_note_4 : decode cX7_note 4 = .ok (.bipush 8, 2) := by decide +kernel
theorem dX7_note_6 : decode cX7_note 6 = .ok (.if_icmp .ne 30, 3) := by decide +kernel
theorem dX7_note_9 : decode cX7_note 9 = .ok (.aload_n 0, 1) := by decide +kernel
theorem dX7_note_10 : decode cX7_note 10 = .ok (.getfield 37, 3) := by decide +kernel
theorem dX7_note_13 : decode cX7_note 13 = .ok (.bipush 32, 2) := by decide +kernel
theorem dX7_note_15 : decode cX7_note 15 = .ok (.aload_n 0, 1) := by decide +kernel
theorem dX7_note_16 : decode cX7_note 16 = .ok (.getfield 37, 3) := by decide +kernel
theorem dX7_note_19 : decode cX7_note 19 = .ok (.iconst 0, 1) := by decide +kernel
theorem dX7_note_20 : decode cX7_note 20 = .ok (.sipush 224, 3) := by decide +kernel
theorem dX7_note_23 : decode cX7_note 23 = .ok (.invokestatic 110, 3) := by decide +kernel
theorem dX7_note_26 : decode cX7_note 26 = .ok (.aload_n 0, 1) := by decide +kernel
theorem dX7_note_27 : decode cX7_note 27 = .ok (.dup, 1) := by decide +kernel
theorem dX7_note_28 : decode cX7_note 28 = .ok (.getfield 117, 3) := by decide +kernel
theorem dX7_note_31 : decode cX7_note 31 = .ok (.iconst 1, 1) := by decide +kernel
theorem dX7_note_32 : decode cX7_note 32 = .ok (.isub, 1) := by decide +kernel
theorem dX7_note_33 : decode cX7_note 33 = .ok (.putfield 117, 3) := by decide +kernel
theorem dX7_note_36 : decode cX7_note 36 = .ok (.aload_n 0, 1) := by decide +kernel
theorem dX7_note_37 : decode cX7_note 37 = .ok (.getfield 31, 3) := by decide +kernel
theorem dX7_note_40 : decode cX7_note 40 = .ok (.iconst 0, 1) := by decide +kernel
theorem dX7_note_41 : decode cX7_note 41 = .ok (.aload_n 0, 1) := by decide +kernel
theorem dX7_note_42 : decode cX7_note 42 = .ok (.getfield 37, 3) := by decide +kernel
theorem dX7_note_45 : decode cX7_note 45 = .ok (.bipush 32, 2) := by decide +kernel
theorem dX7_note_47 : decode cX7_note 47 = .ok (.aload_n 0, 1) := by decide +kernel
theorem dX7_note_48 : decode cX7_note 48 = .ok (.getfield 117, 3) := by decide +kernel
theorem dX7_note_51 : decode cX7_note 51 = .ok (.imul, 1) := by decide +kernel
theorem dX7_note_52 : decode cX7_note 52 = .ok (.bipush 32, 2) := by decide +kernel
theorem dX7_note_54 : decode cX7_note 54 = .ok (.invokestatic 110, 3) := by decide +kernel
theorem dX7_note_57 : decode cX7_note 57 = .ok (.aload_n 0, 1) := by decide +kernel
theorem dX7_note_58 : decode cX7_note 58 = .ok (.dup, 1) := by decide +kernel
theorem dX7_note_59 : decode cX7_note 59 = .ok (.getfield 117, 3) := by decide +kernel
theorem dX7_note_62 : decode cX7_note 62 = .ok (.iconst 1, 1) := by decide +kernel
theorem dX7_note_63 : decode cX7_note 63 = .ok (.iadd, 1) := by decide +kernel
theorem dX7_note_64 : decode cX7_note 64 = .ok (.putfield 117, 3) := by decide +kernel
theorem dX7_note_67 : decode cX7_note 67 = .ok (.return_, 1) := by decide +kernel
theorem dX7_longFor_0 : decode cX7_longFor 0 = .ok (.iconst 0, 1) := by decide +kernel
theorem dX7_longFor_1 : decode cX7_longFor 1 = .ok (.istore_n 3, 1) := by decide +kernel
theorem dX7_longFor_2 : decode cX7_longFor 2 = .ok (.iload_n 1, 1) := by decide +kernel
theorem dX7_longFor_3 : decode cX7_longFor 3 = .ok (.istore 4, 2) := by decide +kernel
theorem dX7_longFor_5 : decode cX7_longFor 5 = .ok (.iload 4, 2) := by decide +kernel
theorem dX7_longFor_7 : decode cX7_longFor 7 = .ok (.iload_n 1, 1) := by decide +kernel
theorem dX7_longFor_8 : decode cX7_longFor 8 = .ok (.iload_n 2, 1) := by decide +kernel
theorem dX7_longFor_9 : decode cX7_longFor 9 = .ok (.iadd, 1) := by decide +kernel
theorem dX7_longFor_10 : decode cX7_longFor 10 = .ok (.if_icmp .ge 36, 3) := by decide +kernel
theorem dX7_longFor_13 : decode cX7_longFor 13 = .ok (.aload_n 0, 1) := by decide +kernel
theorem dX7_longFor_14 : decode cX7_longFor 14 = .ok (.getfield 22, 3) := by decide +kernel
theorem dX7_longFor_17 : decode cX7_longFor 17 = .ok (.iconst 3, 1) := by decide +kernel
theorem dX7_longFor_18 : decode cX7_longFor 18 = .ok (.iload 4, 2) := by decide +kernel
theorem dX7_longFor_20 : decode cX7_longFor 20 = .ok (.imul, 1) := by decide +kernel
theorem dX7_longFor_21 : decode cX7_longFor 21 = .ok (.iaload, 1) := by decide +kernel
theorem dX7_longFor_22 : decode cX7_longFor 22 = .ok (.iload_n 3, 1) := by decide +kernel
theorem dX7_longFor_23 : decode cX7_longFor 23 = .ok (.if_icmp .le 15, 3) := by decide +kernel
theorem dX7_longFor_26 : decode cX7_longFor 26 = .ok (.aload_n 0, 1) := by decide +kernel
theorem dX7_longFor_27 : decode cX7_longFor 27 = .ok (.getfield 22, 3) := by decide +kernel
theorem dX7_longFor_30 : decode cX7_longFor 30 = .ok (.iconst 3, 1) := by decide +kernel
theorem dX7_longFor_31 : decode cX7_longFor 31 = .ok (.iload 4, 2) := by decide +kernel
theorem dX7_longFor_33 : decode cX7_longFor 33 = .ok (.imul, 1) := by decide +kernel
theorem dX7_longFor_34 : decode cX7_longFor 34 = .ok (.iaload, 1) := by decide +kernel
theorem dX7_longFor_35 : decode cX7_longFor 35 = .ok (.goto 4, 3) := by decide +kernel
theorem dX7_longFor_38 : decode cX7_longFor 38 = .ok (.iload_n 3, 1) := by decide +kernel
theorem dX7_longFor_39 : decode cX7_longFor 39 = .ok (.istore_n 3, 1) := by decide +kernel
theorem dX7_longFor_40 : decode cX7_longFor 40 = .ok (.iinc 4 1, 3) := by decide +kernel
theorem dX7_longFor_43 : decode cX7_longFor 43 = .ok (.goto (-38), 3) := by decide +kernel
theorem dX7_longFor_46 : decode cX7_longFor 46 = .ok (.iload_n 3, 1) := by decide +kernel
theorem dX7_longFor_47 : decode cX7_longFor 47 = .ok (.aload_n 0, 1) := by decide +kernel
theorem dX7_longFor_48 : decode cX7_longFor 48 = .ok (.getfield 28, 3) := by decide +kernel
theorem dX7_longFor_51 : decode cX7_longFor 51 = .ok (.iconst 2, 1) := by decide +kernel
theorem dX7_longFor_52 : decode cX7_longFor 52 = .ok (.iaload, 1) := by decide +kernel
theorem dX7_longFor_53 : decode cX7_longFor 53 = .ok (.iadd, 1) := by decide +kernel
theorem dX7_longFor_54 : decode cX7_longFor 54 = .ok (.ireturn, 1) := by decide +kernel
theorem dX7_cut_0 : decode cX7_cut 0 = .ok (.iload_n 1, 1) := by decide +kernel
theorem dX7_cut_1 : decode cX7_cut 1 = .ok (.iconst 1, 1) := by decide +kernel
theorem dX7_cut_2 : decode cX7_cut 2 = .ok (.bipush 6, 2) := by decide +kernel
theorem dX7_cut_4 : decode cX7_cut 4 = .ok (.invokestatic 63, 3) := by decide +kernel
theorem dX7_cut_7 : decode cX7_cut 7 = .ok (.ifCond .ne 5, 3) := by decide +kernel
theorem dX7_cut_10 : decode cX7_cut 10 = .ok (.iconst (-1), 1) := by decide +kernel
theorem dX7_cut_11 : decode cX7_cut 11 = .ok (.ireturn, 1) := by decide +kernel
theorem dX7_cut_12 : decode cX7_cut 12 = .ok (.aload_n 0, 1) := by decide +kernel
theorem dX7_cut_13 : decode cX7_cut 13 = .ok (.getfield 31, 3) := by decide +kernel
theorem dX7_cut_16 : decode cX7_cut 16 = .ok (.invokestatic 137, 3) := by decide +kernel
theorem dX7_cut_19 : decode cX7_cut 19 = .ok (.istore_n 2, 1) := by decide +kernel
theorem dX7_cut_20 : decode cX7_cut 20 = .ok (.iload_n 1, 1) := by decide +kernel
theorem dX7_cut_21 : decode cX7_cut 21 = .ok (.aload_n 0, 1) := by decide +kernel
theorem dX7_cut_22 : decode cX7_cut 22 = .ok (.getfield 28, 3) := by decide +kernel
theorem dX7_cut_25 : decode cX7_cut 25 = .ok (.iconst 0, 1) := by decide +kernel
theorem dX7_cut_26 : decode cX7_cut 26 = .ok (.iaload, 1) := by decide +kernel
theorem dX7_cut_27 : decode cX7_cut 27 = .ok (.if_icmp .gt 30, 3) := by decide +kernel
theorem dX7_cut_30 : decode cX7_cut 30 = .ok (.iload_n 2, 1) := by decide +kernel
theorem dX7_cut_31 : decode cX7_cut 31 = .ok (.iload_n 1, 1) := by decide +kernel
theorem dX7_cut_32 : decode cX7_cut 32 = .ok (.iadd, 1) := by decide +kernel
theorem dX7_cut_33 : decode cX7_cut 33 = .ok (.aload_n 0, 1) := by decide +kernel
theorem dX7_cut_34 : decode cX7_cut 34 = .ok (.getfield 56, 3) := by decide +kernel
theorem dX7_cut_37 : decode cX7_cut 37 = .ok (.if_icmp .gt 20, 3) := by decide +kernel
theorem dX7_cut_40 : decode cX7_cut 40 = .ok (.aload_n 0, 1) := by decide +kernel
theorem dX7_cut_41 : decode cX7_cut 41 = .ok (.iload_n 2, 1) := by decide +kernel
theorem dX7_cut_42 : decode cX7_cut 42 = .ok (.iload_n 1, 1) := by decide +kernel
theorem dX7_cut_43 : decode cX7_cut 43 = .ok (.invokevirtual 141, 3) := by decide +kernel
theorem dX7_cut_46 : decode cX7_cut 46 = .ok (.aload_n 0, 1) := by decide +kernel
theorem dX7_cut_47 : decode cX7_cut 47 = .ok (.aload_n 0, 1) := by decide +kernel
theorem dX7_cut_48 : decode cX7_cut 48 = .ok (.getfield 31, 3) := by decide +kernel
theorem dX7_cut_51 : decode cX7_cut 51 = .ok (.invokevirtual 145, 3) := by decide +kernel
theorem dX7_cut_54 : decode cX7_cut 54 = .ok (.if_icmp .le 6, 3) := by decide +kernel
theorem dX7_cut_57 : decode cX7_cut 57 = .ok (.bipush (-2), 2) := by decide +kernel
theorem dX7_cut_59 : decode cX7_cut 59 = .ok (.ireturn, 1) := by decide +kernel
theorem dX7_cut_60 : decode cX7_cut 60 = .ok (.aload_n 0, 1) := by decide +kernel
theorem dX7_cut_61 : decode cX7_cut 61 = .ok (.invokevirtual 148, 3) := by decide +kernel
theorem dX7_cut_64 : decode cX7_cut 64 = .ok (.aload_n 0, 1) := by decide +kernel
theorem dX7_cut_65 : decode cX7_cut 65 = .ok (.iload_n 2, 1) := by decide +kernel
theorem dX7_cut_66 : decode cX7_cut 66 = .ok (.iload_n 1, 1) := by decide +kernel
theorem dX7_cut_67 : decode cX7_cut 67 = .ok (.invokevirtual 141, 3) := by decide +kernel
theorem dX7_cut_70 : decode cX7_cut 70 = .ok (.istore_n 3, 1) := by decide +kernel
theorem dX7_cut_71 : decode cX7_cut 71 = .ok (.aload_n 0, 1) := by decide +kernel
theorem dX7_cut_72 : decode cX7_cut 72 = .ok (.getfield 31, 3) := by decide +kernel
theorem dX7_cut_75 : decode cX7_cut 75 = .ok (.iconst 1, 1) := by decide +kernel
theorem dX7_cut_76 : decode cX7_cut 76 = .ok (.aload_n 0, 1) := by decide +kernel
theorem dX7_cut_77 : decode cX7_cut 77 = .ok (.getfield 31, 3) := by decide +kernel
theorem dX7_cut_80 : decode cX7_cut 80 = .ok (.iconst 0, 1) := by decide +kernel
theorem dX7_cut_81 : decode cX7_cut 81 = .ok (.iaload, 1) := by decide +kernel
theorem dX7_cut_82 : decode cX7_cut 82 = .ok (.iadd, 1) := by decide +kernel
theorem dX7_cut_83 : decode cX7_cut 83 = .ok (.iload_n 1, 1) := by decide +kernel
theorem dX7_cut_84 : decode cX7_cut 84 = .ok (.iastore, 1) := by decide +kernel
theorem dX7_cut_85 : decode cX7_cut 85 = .ok (.aload_n 0, 1) := by decide +kernel
theorem dX7_cut_86 : decode cX7_cut 86 = .ok (.getfield 31, 3) := by decide +kernel
theorem dX7_cut_89 : decode cX7_cut 89 = .ok (.bipush 13, 2) := by decide +kernel
theorem dX7_cut_91 : decode cX7_cut 91 = .ok (.aload_n 0, 1) := by decide +kernel
theorem dX7_cut_92 : decode cX7_cut 92 = .ok (.getfield 31, 3) := by decide +kernel
theorem dX7_cut_95 : decode cX7_cut 95 = .ok (.iconst 0, 1) := by decide +kernel
theorem dX7_cut_96 : decode cX7_cut 96 = .ok (.iaload, 1) := by decide +kernel
theorem dX7_cut_97 : decode cX7_cut 97 = .ok (.iadd, 1) := by decide +kernel
theorem dX7_cut_98 : decode cX7_cut 98 = .ok (.iload_n 3, 1) := by decide +kernel
theorem dX7_cut_99 : decode cX7_cut 99 = .ok (.iastore, 1) := by decide +kernel
theorem dX7_cut_100 : decode cX7_cut 100 = .ok (.aload_n 0, 1) := by decide +kernel
theorem dX7_cut_101 : decode cX7_cut 101 = .ok (.getfield 31, 3) := by decide +kernel
theorem dX7_cut_104 : decode cX7_cut 104 = .ok (.iconst 0, 1) := by decide +kernel
theorem dX7_cut_105 : decode cX7_cut 105 = .ok (.dup2, 1) := by decide +kernel
theorem dX7_cut_106 : decode cX7_cut 106 = .ok (.iaload, 1) := by decide +kernel
theorem dX7_cut_107 : decode cX7_cut 107 = .ok (.iconst 1, 1) := by decide +kernel
theorem dX7_cut_108 : decode cX7_cut 108 = .ok (.iadd, 1) := by decide +kernel
theorem dX7_cut_109 : decode cX7_cut 109 = .ok (.iastore, 1) := by decide +kernel
theorem dX7_cut_110 : decode cX7_cut 110 = .ok (.iload_n 3, 1) := by decide +kernel
theorem dX7_cut_111 : decode cX7_cut 111 = .ok (.ireturn, 1) := by decide +kernel
theorem dX7_givesBy_0 : decode cX7_givesBy 0 = .ok (.iload_n 0, 1) := by decide +kernel
theorem dX7_givesBy_1 : decode cX7_givesBy 1 = .ok (.ifCond .ne 9, 3) := by decide +kernel
theorem dX7_givesBy_4 : decode cX7_givesBy 4 = .ok (.iload_n 1, 1) := by decide +kernel
theorem dX7_givesBy_5 : decode cX7_givesBy 5 = .ok (.iconst 2, 1) := by decide +kernel
theorem dX7_givesBy_6 : decode cX7_givesBy 6 = .ok (.idiv, 1) := by decide +kernel
theorem dX7_givesBy_7 : decode cX7_givesBy 7 = .ok (.goto 26, 3) := by decide +kernel
theorem dX7_givesBy_10 : decode cX7_givesBy 10 = .ok (.iload_n 0, 1) := by decide +kernel
theorem dX7_givesBy_11 : decode cX7_givesBy 11 = .ok (.iconst 1, 1) := by decide +kernel
theorem dX7_givesBy_12 : decode cX7_givesBy 12 = .ok (.if_icmp .ne 7, 3) := by decide +kernel
theorem dX7_givesBy_15 : decode cX7_givesBy 15 = .ok (.iload_n 1, 1) := by decide +kernel
theorem dX7_givesBy_16 : decode cX7_givesBy 16 = .ok (.goto 17, 3) := by decide +kernel
theorem dX7_givesBy_19 : decode cX7_givesBy 19 = .ok (.iload_n 0, 1) := by decide +kernel
theorem dX7_givesBy_20 : decode cX7_givesBy 20 = .ok (.iconst 2, 1) := by decide +kernel
theorem dX7_givesBy_21 : decode cX7_givesBy 21 = .ok (.if_icmp .ne 9, 3) := by decide +kernel
theorem dX7_givesBy_24 : decode cX7_givesBy 24 = .ok (.iconst 2, 1) := by decide +kernel
theorem dX7_givesBy_25 : decode cX7_givesBy 25 = .ok (.iload_n 1, 1) := by decide +kernel
theorem dX7_givesBy_26 : decode cX7_givesBy 26 = .ok (.imul, 1) := by decide +kernel
theorem dX7_givesBy_27 : decode cX7_givesBy 27 = .ok (.goto 6, 3) := by decide +kernel
theorem dX7_givesBy_30 : decode cX7_givesBy 30 = .ok (.iload_n 1, 1) := by decide +kernel
theorem dX7_givesBy_31 : decode cX7_givesBy 31 = .ok (.iload_n 2, 1) := by decide +kernel
theorem dX7_givesBy_32 : decode cX7_givesBy 32 = .ok (.iadd, 1) := by decide +kernel
theorem dX7_givesBy_33 : decode cX7_givesBy 33 = .ok (.ireturn, 1) := by decide +kernel
theorem dX7_tightBy_0 : decode cX7_tightBy 0 = .ok (.aload_n 1, 1) := by decide +kernel
theorem dX7_tightBy_1 : decode cX7_tightBy 1 = .ok (.bipush 29, 2) := by decide +kernel
theorem dX7_tightBy_3 : decode cX7_tightBy 3 = .ok (.iaload, 1) := by decide +kernel
theorem dX7_tightBy_4 : decode cX7_tightBy 4 = .ok (.ifCond .ne 5, 3) := by decide +kernel
theorem dX7_tightBy_7 : decode cX7_tightBy 7 = .ok (.iconst 2, 1) := by decide +kernel
theorem dX7_tightBy_8 : decode cX7_tightBy 8 = .ok (.ireturn, 1) := by decide +kernel
theorem dX7_tightBy_9 : decode cX7_tightBy 9 = .ok (.iload_n 2, 1) := by decide +kernel
theorem dX7_tightBy_10 : decode cX7_tightBy 10 = .ok (.iconst 2, 1) := by decide +kernel
theorem dX7_tightBy_11 : decode cX7_tightBy 11 = .ok (.iadd, 1) := by decide +kernel
theorem dX7_tightBy_12 : decode cX7_tightBy 12 = .ok (.iconst 4, 1) := by decide +kernel
theorem dX7_tightBy_13 : decode cX7_tightBy 13 = .ok (.irem, 1) := by decide +kernel
theorem dX7_tightBy_14 : decode cX7_tightBy 14 = .ok (.istore 4, 2) := by decide +kernel
theorem dX7_tightBy_16 : decode cX7_tightBy 16 = .ok (.aload_n 1, 1) := by decide +kernel
theorem dX7_tightBy_17 : decode cX7_tightBy 17 = .ok (.iload 4, 2) := by decide +kernel
theorem dX7_tightBy_19 : decode cX7_tightBy 19 = .ok (.invokestatic 130, 3) := by decide +kernel
theorem dX7_tightBy_22 : decode cX7_tightBy 22 = .ok (.ifCond .eq 15, 3) := by decide +kernel
theorem dX7_tightBy_25 : decode cX7_tightBy 25 = .ok (.aload_n 1, 1) := by decide +kernel
theorem dX7_tightBy_26 : decode cX7_tightBy 26 = .ok (.bipush 25, 2) := by decide +kernel
theorem dX7_tightBy_28 : decode cX7_tightBy 28 = .ok (.iload 4, 2) := by decide +kernel
theorem dX7_tightBy_30 : decode cX7_tightBy 30 = .ok (.iadd, 1) := by decide +kernel
theorem dX7_tightBy_31 : decode cX7_tightBy 31 = .ok (.iaload, 1) := by decide +kernel
theorem dX7_tightBy_32 : decode cX7_tightBy 32 = .ok (.iconst 2, 1) := by decide +kernel
theorem dX7_tightBy_33 : decode cX7_tightBy 33 = .ok (.idiv, 1) := by decide +kernel
theorem dX7_tightBy_34 : decode cX7_tightBy 34 = .ok (.goto 4, 3) := by decide +kernel
theorem dX7_tightBy_37 : decode cX7_tightBy 37 = .ok (.iconst 0, 1) := by decide +kernel
theorem dX7_tightBy_38 : decode cX7_tightBy 38 = .ok (.istore 5, 2) := by decide +kernel
theorem dX7_tightBy_40 : decode cX7_tightBy 40 = .ok (.iload_n 3, 1) := by decide +kernel
theorem dX7_tightBy_41 : decode cX7_tightBy 41 = .ok (.iload 5, 2) := by decide +kernel
theorem dX7_tightBy_43 : decode cX7_tightBy 43 = .ok (.iadd, 1) := by decide +kernel
theorem dX7_tightBy_44 : decode cX7_tightBy 44 = .ok (.aload_n 0, 1) := by decide +kernel
theorem dX7_tightBy_45 : decode cX7_tightBy 45 = .ok (.getfield 28, 3) := by decide +kernel
theorem dX7_tightBy_48 : decode cX7_tightBy 48 = .ok (.iconst 4, 1) := by decide +kernel
theorem dX7_tightBy_49 : decode cX7_tightBy 49 = .ok (.iaload, 1) := by decide +kernel
theorem dX7_tightBy_50 : decode cX7_tightBy 50 = .ok (.aload_n 0, 1) := by decide +kernel
theorem dX7_tightBy_51 : decode cX7_tightBy 51 = .ok (.getfield 28, 3) := by decide +kernel
theorem dX7_tightBy_54 : decode cX7_tightBy 54 = .ok (.iconst 5, 1) := by decide +kernel
theorem dX7_tightBy_55 : decode cX7_tightBy 55 = .ok (.iaload, 1) := by decide +kernel
theorem dX7_tightBy_56 : decode cX7_tightBy 56 = .ok (.aload_n 1, 1) := by decide +kernel
theorem dX7_tightBy_57 : decode cX7_tightBy 57 = .ok (.bipush 29, 2) := by decide +kernel
theorem dX7_tightBy_59 : decode cX7_tightBy 59 = .ok (.iaload, 1) := by decide +kernel
theorem dX7_tightBy_60 : decode cX7_tightBy 60 = .ok (.invokestatic 151, 3) := by decide +kernel
theorem dX7_tightBy_63 : decode cX7_tightBy 63 = .ok (.invokestatic 154, 3) := by decide +kernel
theorem dX7_tightBy_66 : decode cX7_tightBy 66 = .ok (.isub, 1) := by decide +kernel
theorem dX7_tightBy_67 : decode cX7_tightBy 67 = .ok (.istore 6, 2) := by decide +kernel
theorem dX7_tightBy_69 : decode cX7_tightBy 69 = .ok (.iload 6, 2) := by decide +kernel
theorem dX7_tightBy_71 : decode cX7_tightBy 71 = .ok (.ifCond .ge 7, 3) := by decide +kernel
theorem dX7_tightBy_74 : decode cX7_tightBy 74 = .ok (.iconst 0, 1) := by decide +kernel
theorem dX7_tightBy_75 : decode cX7_tightBy 75 = .ok (.goto 5, 3) := by decide +kernel
theorem dX7_tightBy_78 : decode cX7_tightBy 78 = .ok (.iload 6, 2) := by decide +kernel
theorem dX7_tightBy_80 : decode cX7_tightBy 80 = .ok (.ireturn, 1) := by decide +kernel
theorem dX7_isFree_0 : decode cX7_isFree 0 = .ok (.aload_n 0, 1) := by decide +kernel
theorem dX7_isFree_1 : decode cX7_isFree 1 = .ok (.bipush 29, 2) := by decide +kernel
theorem dX7_isFree_3 : decode cX7_isFree 3 = .ok (.iaload, 1) := by decide +kernel
theorem dX7_isFree_4 : decode cX7_isFree 4 = .ok (.aload_n 0, 1) := by decide +kernel
theorem dX7_isFree_5 : decode cX7_isFree 5 = .ok (.bipush 30, 2) := by decide +kernel
theorem dX7_isFree_7 : decode cX7_isFree 7 = .ok (.iaload, 1) := by decide +kernel
theorem dX7_isFree_8 : decode cX7_isFree 8 = .ok (.ior, 1) := by decide +kernel
theorem dX7_isFree_9 : decode cX7_isFree 9 = .ok (.iload_n 1, 1) := by decide +kernel
theorem dX7_isFree_10 : decode cX7_isFree 10 = .ok (.invokestatic 126, 3) := by decide +kernel
theorem dX7_isFree_13 : decode cX7_isFree 13 = .ok (.ifCond .ne 7, 3) := by decide +kernel
theorem dX7_isFree_16 : decode cX7_isFree 16 = .ok (.iconst 1, 1) := by decide +kernel
theorem dX7_isFree_17 : decode cX7_isFree 17 = .ok (.goto 4, 3) := by decide +kernel
theorem dX7_isFree_20 : decode cX7_isFree 20 = .ok (.iconst 0, 1) := by decide +kernel
theorem dX7_isFree_21 : decode cX7_isFree 21 = .ok (.ireturn, 1) := by decide +kernel
theorem dX7_kick_0 : decode cX7_kick 0 = .ok (.aload_n 0, 1) := by decide +kernel
theorem dX7_kick_1 : decode cX7_kick 1 = .ok (.aload_n 1, 1) := by decide +kernel
theorem dX7_kick_2 : decode cX7_kick 2 = .ok (.iload_n 2, 1) := by decide +kernel
theorem dX7_kick_3 : decode cX7_kick 3 = .ok (.iload_n 3, 1) := by decide +kernel
theorem dX7_kick_4 : decode cX7_kick 4 = .ok (.invokevirtual 158, 3) := by decide +kernel
theorem dX7_kick_7 : decode cX7_kick 7 = .ok (.istore 4, 2) := by decide +kernel
theorem dX7_kick_9 : decode cX7_kick 9 = .ok (.iload 4, 2) := by decide +kernel
theorem dX7_kick_11 : decode cX7_kick 11 = .ok (.aload_n 0, 1) := by decide +kernel
theorem dX7_kick_12 : decode cX7_kick 12 = .ok (.getfield 28, 3) := by decide +kernel
theorem dX7_kick_15 : decode cX7_kick 15 = .ok (.iconst 3, 1) := by decide +kernel
theorem dX7_kick_16 : decode cX7_kick 16 = .ok (.iaload, 1) := by decide +kernel
theorem dX7_kick_17 : decode cX7_kick 17 = .ok (.if_icmp .le 18, 3) := by decide +kernel
theorem dX7_kick_20 : decode cX7_kick 20 = .ok (.aload_n 1, 1) := by decide +kernel
theorem dX7_kick_21 : decode cX7_kick 21 = .ok (.bipush 30, 2) := by decide +kernel
theorem dX7_kick_23 : decode cX7_kick 23 = .ok (.aload_n 1, 1) := by decide +kernel
theorem dX7_kick_24 : decode cX7_kick 24 = .ok (.bipush 30, 2) := by decide +kernel
theorem dX7_kick_26 : decode cX7_kick 26 = .ok (.iaload, 1) := by decide +kernel
theorem dX7_kick_27 : decode cX7_kick 27 = .ok (.iconst 1, 1) := by decide +kernel
theorem dX7_kick_28 : decode cX7_kick 28 = .ok (.iload_n 2, 1) := by decide +kernel
theorem dX7_kick_29 : decode cX7_kick 29 = .ok (.ishl, 1) := by decide +kernel
theorem dX7_kick_30 : decode cX7_kick 30 = .ok (.ior, 1) := by decide +kernel
theorem dX7_kick_31 : decode cX7_kick 31 = .ok (.iastore, 1) := by decide +kernel
theorem dX7_kick_32 : decode cX7_kick 32 = .ok (.goto 23, 3) := by decide +kernel
theorem dX7_kick_35 : decode cX7_kick 35 = .ok (.aload_n 1, 1) := by decide +kernel
theorem dX7_kick_36 : decode cX7_kick 36 = .ok (.bipush 29, 2) := by decide +kernel
theorem dX7_kick_38 : decode cX7_kick 38 = .ok (.aload_n 1, 1) := by decide +kernel
theorem dX7_kick_39 : decode cX7_kick 39 = .ok (.bipush 29, 2) := by decide +kernel
theorem dX7_kick_41 : decode cX7_kick 41 = .ok (.iaload, 1) := by decide +kernel
theorem dX7_kick_42 : decode cX7_kick 42 = .ok (.iconst 1, 1) := by decide +kernel
theorem dX7_kick_43 : decode cX7_kick 43 = .ok (.iload_n 2, 1) := by decide +kernel
theorem dX7_kick_44 : decode cX7_kick 44 = .ok (.ishl, 1) := by decide +kernel
theorem dX7_kick_45 : decode cX7_kick 45 = .ok (.ior, 1) := by decide +kernel
theorem dX7_kick_46 : decode cX7_kick 46 = .ok (.iastore, 1) := by decide +kernel
theorem dX7_kick_47 : decode cX7_kick 47 = .ok (.aload_n 1, 1) := by decide +kernel
theorem dX7_kick_48 : decode cX7_kick 48 = .ok (.bipush 25, 2) := by decide +kernel
theorem dX7_kick_50 : decode cX7_kick 50 = .ok (.iload_n 2, 1) := by decide +kernel
theorem dX7_kick_51 : decode cX7_kick 51 = .ok (.iadd, 1) := by decide +kernel
theorem dX7_kick_52 : decode cX7_kick 52 = .ok (.iload 4, 2) := by decide +kernel
theorem dX7_kick_54 : decode cX7_kick 54 = .ok (.iastore, 1) := by decide +kernel
theorem dX7_kick_55 : decode cX7_kick 55 = .ok (.return_, 1) := by decide +kernel
theorem dX7_isCovered_0 : decode cX7_isCovered 0 = .ok (.aload_n 0, 1) := by decide +kernel
theorem dX7_isCovered_1 : decode cX7_isCovered 1 = .ok (.getfield 31, 3) := by decide +kernel
theorem dX7_isCovered_4 : decode cX7_isCovered 4 = .ok (.invokestatic 137, 3) := by decide +kernel
theorem dX7_isCovered_7 : decode cX7_isCovered 7 = .ok (.aload_n 0, 1) := by decide +kernel
theorem dX7_isCovered_8 : decode cX7_isCovered 8 = .ok (.getfield 56, 3) := by decide +kernel
theorem dX7_isCovered_11 : decode cX7_isCovered 11 = .ok (.if_icmp .ne 7, 3) := by decide +kernel
theorem dX7_isCovered_14 : decode cX7_isCovered 14 = .ok (.iconst 1, 1) := by decide +kernel
theorem dX7_isCovered_15 : decode cX7_isCovered 15 = .ok (.goto 4, 3) := by decide +kernel
theorem dX7_isCovered_18 : decode cX7_isCovered 18 = .ok (.iconst 0, 1) := by decide +kernel
theorem dX7_isCovered_19 : decode cX7_isCovered 19 = .ok (.ireturn, 1) := by decide +kernel
theorem dX7_hook_0 : decode cX7_hook 0 = .ok (.iload_n 1, 1) := by decide +kernel
theorem dX7_hook_1 : decode cX7_hook 1 = .ok (.iconst 0, 1) := by decide +kernel
theorem dX7_hook_2 : decode cX7_hook 2 = .ok (.iconst 3, 1) := by decide +kernel
theorem dX7_hook_3 : decode cX7_hook 3 = .ok (.invokestatic 63, 3) := by decide +kernel
theorem dX7_hook_6 : decode cX7_hook 6 = .ok (.ifCond .eq 13, 3) := by decide +kernel
theorem dX7_hook_9 : decode cX7_hook 9 = .ok (.iload_n 2, 1) := by decide +kernel
theorem dX7_hook_10 : decode cX7_hook 10 = .ok (.iconst 0, 1) := by decide +kernel
theorem dX7_hook_11 : decode cX7_hook 11 = .ok (.bipush 20, 2) := by decide +kernel
theorem dX7_hook_13 : decode cX7_hook 13 = .ok (.invokestatic 63, 3) := by decide +kernel
theorem dX7_hook_16 : decode cX7_hook 16 = .ok (.ifCond .ne 5, 3) := by decide +kernel
theorem dX7_hook_19 : decode cX7_hook 19 = .ok (.iconst (-1), 1) := by decide +kernel
theorem dX7_hook_20 : decode cX7_hook 20 = .ok (.ireturn, 1) := by decide +kernel
theorem dX7_hook_21 : decode cX7_hook 21 = .ok (.aload_n 0, 1) := by decide +kernel
theorem dX7_hook_22 : decode cX7_hook 22 = .ok (.invokevirtual 162, 3) := by decide +kernel
theorem dX7_hook_25 : decode cX7_hook 25 = .ok (.ifCond .eq 14, 3) := by decide +kernel
theorem dX7_hook_28 : decode cX7_hook 28 = .ok (.aload_n 0, 1) := by decide +kernel
theorem dX7_hook_29 : decode cX7_hook 29 = .ok (.getfield 31, 3) := by decide +kernel
theorem dX7_hook_32 : decode cX7_hook 32 = .ok (.iload_n 1, 1) := by decide +kernel
theorem dX7_hook_33 : decode cX7_hook 33 = .ok (.invokestatic 165, 3) := by decide +kernel
theorem dX7_hook_36 : decode cX7_hook 36 = .ok (.ifCond .ne 6, 3) := by decide +kernel
theorem dX7_hook_39 : decode cX7_hook 39 = .ok (.bipush (-2), 2) := by decide +kernel
theorem dX7_hook_41 : decode cX7_hook 41 = .ok (.ireturn, 1) := by decide +kernel
theorem dX7_hook_42 : decode cX7_hook 42 = .ok (.aload_n 0, 1) := by decide +kernel
theorem dX7_hook_43 : decode cX7_hook 43 = .ok (.invokevirtual 148, 3) := by decide +kernel
theorem dX7_hook_46 : decode cX7_hook 46 = .ok (.aload_n 0, 1) := by decide +kernel
theorem dX7_hook_47 : decode cX7_hook 47 = .ok (.aload_n 0, 1) := by decide +kernel
theorem dX7_hook_48 : decode cX7_hook 48 = .ok (.getfield 31, 3) := by decide +kernel
theorem dX7_hook_51 : decode cX7_hook 51 = .ok (.iload_n 1, 1) := by decide +kernel
theorem dX7_hook_52 : decode cX7_hook 52 = .ok (.iload_n 2, 1) := by decide +kernel
theorem dX7_hook_53 : decode cX7_hook 53 = .ok (.invokevirtual 168, 3) := by decide +kernel
theorem dX7_hook_56 : decode cX7_hook 56 = .ok (.aload_n 0, 1) := by decide +kernel
theorem dX7_hook_57 : decode cX7_hook 57 = .ok (.getfield 31, 3) := by decide +kernel
theorem dX7_hook_60 : decode cX7_hook 60 = .ok (.bipush 25, 2) := by decide +kernel
theorem dX7_hook_62 : decode cX7_hook 62 = .ok (.iload_n 1, 1) := by decide +kernel
theorem dX7_hook_63 : decode cX7_hook 63 = .ok (.iadd, 1) := by decide +kernel
theorem dX7_hook_64 : decode cX7_hook 64 = .ok (.iaload, 1) := by decide +kernel
theorem dX7_hook_65 : decode cX7_hook 65 = .ok (.ireturn, 1) := by decide +kernel
theorem dX7_loosen_0 : decode cX7_loosen 0 = .ok (.aload_n 0, 1) := by decide +kernel
theorem dX7_loosen_1 : decode cX7_loosen 1 = .ok (.bipush 29, 2) := by decide +kernel
theorem dX7_loosen_3 : decode cX7_loosen 3 = .ok (.aload_n 0, 1) := by decide +kernel
theorem dX7_loosen_4 : decode cX7_loosen 4 = .ok (.bipush 29, 2) := by decide +kernel
theorem dX7_loosen_6 : decode cX7_loosen 6 = .ok (.iaload, 1) := by decide +kernel
theorem dX7_loosen_7 : decode cX7_loosen 7 = .ok (.iconst 1, 1) := by decide +kernel
theorem dX7_loosen_8 : decode cX7_loosen 8 = .ok (.iload_n 1, 1) := by decide +kernel
theorem dX7_loosen_9 : decode cX7_loosen 9 = .ok (.ishl, 1) := by decide +kernel
theorem dX7_loosen_10 : decode cX7_loosen 10 = .ok (.iconst (-1), 1) := by decide +kernel
theorem dX7_loosen_11 : decode cX7_loosen 11 = .ok (.ixor, 1) := by decide +kernel
theorem dX7_loosen_12 : decode cX7_loosen 12 = .ok (.iand, 1) := by decide +kernel
theorem dX7_loosen_13 : decode cX7_loosen 13 = .ok (.iastore, 1) := by decide +kernel
theorem dX7_loosen_14 : decode cX7_loosen 14 = .ok (.aload_n 0, 1) := by decide +kernel
theorem dX7_loosen_15 : decode cX7_loosen 15 = .ok (.bipush 25, 2) := by decide +kernel
theorem dX7_loosen_17 : decode cX7_loosen 17 = .ok (.iload_n 1, 1) := by decide +kernel
theorem dX7_loosen_18 : decode cX7_loosen 18 = .ok (.iadd, 1) := by decide +kernel
theorem dX7_loosen_19 : decode cX7_loosen 19 = .ok (.iconst 0, 1) := by decide +kernel
theorem dX7_loosen_20 : decode cX7_loosen 20 = .ok (.iastore, 1) := by decide +kernel
theorem dX7_loosen_21 : decode cX7_loosen 21 = .ok (.return_, 1) := by decide +kernel
theorem dX7_letGo_0 : decode cX7_letGo 0 = .ok (.iload_n 1, 1) := by decide +kernel
theorem dX7_letGo_1 : decode cX7_letGo 1 = .ok (.iconst 0, 1) := by decide +kernel
theorem dX7_letGo_2 : decode cX7_letGo 2 = .ok (.iconst 3, 1) := by decide +kernel
theorem dX7_letGo_3 : decode cX7_letGo 3 = .ok (.invokestatic 63, 3) := by decide +kernel
theorem dX7_letGo_6 : decode cX7_letGo 6 = .ok (.ifCond .ne 5, 3) := by decide +kernel
theorem dX7_letGo_9 : decode cX7_letGo 9 = .ok (.iconst (-1), 1) := by decide +kernel
theorem dX7_letGo_10 : decode cX7_letGo 10 = .ok (.ireturn, 1) := by decide +kernel
theorem dX7_letGo_11 : decode cX7_letGo 11 = .ok (.aload_n 0, 1) := by decide +kernel
theorem dX7_letGo_12 : decode cX7_letGo 12 = .ok (.getfield 31, 3) := by decide +kernel
theorem dX7_letGo_15 : decode cX7_letGo 15 = .ok (.iload_n 1, 1) := by decide +kernel
theorem dX7_letGo_16 : decode cX7_letGo 16 = .ok (.invokestatic 130, 3) := by decide +kernel
theorem dX7_letGo_19 : decode cX7_letGo 19 = .ok (.ifCond .ne 6, 3) := by decide +kernel
theorem dX7_letGo_22 : decode cX7_letGo 22 = .ok (.bipush (-2), 2) := by decide +kernel
theorem dX7_letGo_24 : decode cX7_letGo 24 = .ok (.ireturn, 1) := by decide +kernel
theorem dX7_letGo_25 : decode cX7_letGo 25 = .ok (.aload_n 0, 1) := by decide +kernel
theorem dX7_letGo_26 : decode cX7_letGo 26 = .ok (.invokevirtual 148, 3) := by decide +kernel
theorem dX7_letGo_29 : decode cX7_letGo 29 = .ok (.aload_n 0, 1) := by decide +kernel
theorem dX7_letGo_30 : decode cX7_letGo 30 = .ok (.getfield 31, 3) := by decide +kernel
theorem dX7_letGo_33 : decode cX7_letGo 33 = .ok (.bipush 25, 2) := by decide +kernel
theorem dX7_letGo_35 : decode cX7_letGo 35 = .ok (.iload_n 1, 1) := by decide +kernel
theorem dX7_letGo_36 : decode cX7_letGo 36 = .ok (.iadd, 1) := by decide +kernel
theorem dX7_letGo_37 : decode cX7_letGo 37 = .ok (.iaload, 1) := by decide +kernel
theorem dX7_letGo_38 : decode cX7_letGo 38 = .ok (.istore_n 2, 1) := by decide +kernel
theorem dX7_letGo_39 : decode cX7_letGo 39 = .ok (.aload_n 0, 1) := by decide +kernel
theorem dX7_letGo_40 : decode cX7_letGo 40 = .ok (.getfield 31, 3) := by decide +kernel
theorem dX7_letGo_43 : decode cX7_letGo 43 = .ok (.iload_n 1, 1) := by decide +kernel
theorem dX7_letGo_44 : decode cX7_letGo 44 = .ok (.invokestatic 172, 3) := by decide +kernel
theorem dX7_letGo_47 : decode cX7_letGo 47 = .ok (.iload_n 2, 1) := by decide +kernel
theorem dX7_letGo_48 : decode cX7_letGo 48 = .ok (.ireturn, 1) := by decide +kernel
theorem dX7_passMonth_0 : decode cX7_passMonth 0 = .ok (.aload_n 0, 1) := by decide +kernel
theorem dX7_passMonth_1 : decode cX7_passMonth 1 = .ok (.aload_n 1, 1) := by decide +kernel
theorem dX7_passMonth_2 : decode cX7_passMonth 2 = .ok (.bipush 31, 2) := by decide +kernel
theorem dX7_passMonth_4 : decode cX7_passMonth 4 = .ok (.iaload, 1) := by decide +kernel
theorem dX7_passMonth_5 : decode cX7_passMonth 5 = .ok (.invokevirtual 134, 3) := by decide +kernel
theorem dX7_passMonth_8 : decode cX7_passMonth 8 = .ok (.iconst 3, 1) := by decide +kernel
theorem dX7_passMonth_9 : decode cX7_passMonth 9 = .ok (.idiv, 1) := by decide +kernel
theorem dX7_passMonth_10 : decode cX7_passMonth 10 = .ok (.istore_n 2, 1) := by decide +kernel
theorem dX7_passMonth_11 : decode cX7_passMonth 11 = .ok (.iconst 0, 1) := by decide +kernel
theorem dX7_passMonth_12 : decode cX7_passMonth 12 = .ok (.istore_n 3, 1) := by decide +kernel
theorem dX7_passMonth_13 : decode cX7_passMonth 13 = .ok (.iload_n 3, 1) := by decide +kernel
theorem dX7_passMonth_14 : decode cX7_passMonth 14 = .ok (.iconst 4, 1) := by decide +kernel
theorem dX7_passMonth_15 : decode cX7_passMonth 15 = .ok (.if_icmp .ge 37, 3) := by decide +kernel
theorem dX7_passMonth_18 : decode cX7_passMonth 18 = .ok (.aload_n 1, 1) := by decide +kernel
theorem dX7_passMonth_19 : decode cX7_passMonth 19 = .ok (.bipush 25, 2) := by decide +kernel
theorem dX7_passMonth_21 : decode cX7_passMonth 21 = .ok (.iload_n 3, 1) := by decide +kernel
theorem dX7_passMonth_22 : decode cX7_passMonth 22 = .ok (.iadd, 1) := by decide +kernel
theorem dX7_passMonth_23 : decode cX7_passMonth 23 = .ok (.aload_n 1, 1) := by decide +kernel
theorem dX7_passMonth_24 : decode cX7_passMonth 24 = .ok (.bipush 25, 2) := by decide +kernel
theorem dX7_passMonth_26 : decode cX7_passMonth 26 = .ok (.iload_n 3, 1) := by decide +kernel
theorem dX7_passMonth_27 : decode cX7_passMonth 27 = .ok (.iadd, 1) := by decide +kernel
theorem dX7_passMonth_28 : decode cX7_passMonth 28 = .ok (.iaload, 1) := by decide +kernel
theorem dX7_passMonth_29 : decode cX7_passMonth 29 = .ok (.iload_n 2, 1) := by decide +kernel
theorem dX7_passMonth_30 : decode cX7_passMonth 30 = .ok (.if_icmp .le 14, 3) := by decide +kernel
theorem dX7_passMonth_33 : decode cX7_passMonth 33 = .ok (.aload_n 1, 1) := by decide +kernel
theorem dX7_passMonth_34 : decode cX7_passMonth 34 = .ok (.bipush 25, 2) := by decide +kernel
theorem dX7_passMonth_36 : decode cX7_passMonth 36 = .ok (.iload_n 3, 1) := by decide +kernel
theorem dX7_passMonth_37 : decode cX7_passMonth 37 = .ok (.iadd, 1) := by decide +kernel
theorem dX7_passMonth_38 : decode cX7_passMonth 38 = .ok (.iaload, 1) := by decide +kernel
theorem dX7_passMonth_39 : decode cX7_passMonth 39 = .ok (.iload_n 2, 1) := by decide +kernel
theorem dX7_passMonth_40 : decode cX7_passMonth 40 = .ok (.isub, 1) := by decide +kernel
theorem dX7_passMonth_41 : decode cX7_passMonth 41 = .ok (.goto 4, 3) := by decide +kernel
theorem dX7_passMonth_44 : decode cX7_passMonth 44 = .ok (.iconst 0, 1) := by decide +kernel
theorem dX7_passMonth_45 : decode cX7_passMonth 45 = .ok (.iastore, 1) := by decide +kernel
theorem dX7_passMonth_46 : decode cX7_passMonth 46 = .ok (.iinc 3 1, 3) := by decide +kernel
theorem dX7_passMonth_49 : decode cX7_passMonth 49 = .ok (.goto (-36), 3) := by decide +kernel
theorem dX7_passMonth_52 : decode cX7_passMonth 52 = .ok (.aload_n 1, 1) := by decide +kernel
theorem dX7_passMonth_53 : decode cX7_passMonth 53 = .ok (.bipush 31, 2) := by decide +kernel
theorem dX7_passMonth_55 : decode cX7_passMonth 55 = .ok (.dup2, 1) := by decide +kernel
theorem dX7_passMonth_56 : decode cX7_passMonth 56 = .ok (.iaload, 1) := by decide +kernel
theorem dX7_passMonth_57 : decode cX7_passMonth 57 = .ok (.iconst 1, 1) := by decide +kernel
theorem dX7_passMonth_58 : decode cX7_passMonth 58 = .ok (.iadd, 1) := by decide +kernel
theorem dX7_passMonth_59 : decode cX7_passMonth 59 = .ok (.iastore, 1) := by decide +kernel
theorem dX7_passMonth_60 : decode cX7_passMonth 60 = .ok (.return_, 1) := by decide +kernel
theorem dX7_pass_0 : decode cX7_pass 0 = .ok (.iload_n 1, 1) := by decide +kernel
theorem dX7_pass_1 : decode cX7_pass 1 = .ok (.iconst 1, 1) := by decide +kernel
theorem dX7_pass_2 : decode cX7_pass 2 = .ok (.bipush 60, 2) := by decide +kernel
theorem dX7_pass_4 : decode cX7_pass 4 = .ok (.invokestatic 63, 3) := by decide +kernel
theorem dX7_pass_7 : decode cX7_pass 7 = .ok (.ifCond .ne 5, 3) := by decide +kernel
theorem dX7_pass_10 : decode cX7_pass 10 = .ok (.iconst (-1), 1) := by decide +kernel
theorem dX7_pass_11 : decode cX7_pass 11 = .ok (.ireturn, 1) := by decide +kernel
theorem dX7_pass_12 : decode cX7_pass 12 = .ok (.aload_n 0, 1) := by decide +kernel
theorem dX7_pass_13 : decode cX7_pass 13 = .ok (.getfield 31, 3) := by decide +kernel
theorem dX7_pass_16 : decode cX7_pass 16 = .ok (.bipush 31, 2) := by decide +kernel
theorem dX7_pass_18 : decode cX7_pass 18 = .ok (.iaload, 1) := by decide +kernel
theorem dX7_pass_19 : decode cX7_pass 19 = .ok (.iload_n 1, 1) := by decide +kernel
theorem dX7_pass_20 : decode cX7_pass 20 = .ok (.iadd, 1) := by decide +kernel
theorem dX7_pass_21 : decode cX7_pass 21 = .ok (.sipush 999, 3) := by decide +kernel
theorem dX7_pass_24 : decode cX7_pass 24 = .ok (.if_icmp .le 6, 3) := by decide +kernel
theorem dX7_pass_27 : decode cX7_pass 27 = .ok (.bipush (-2), 2) := by decide +kernel
theorem dX7_pass_29 : decode cX7_pass 29 = .ok (.ireturn, 1) := by decide +kernel
theorem dX7_pass_30 : decode cX7_pass 30 = .ok (.aload_n 0, 1) := by decide +kernel
theorem dX7_pass_31 : decode cX7_pass 31 = .ok (.invokevirtual 148, 3) := by decide +kernel
theorem dX7_pass_34 : decode cX7_pass 34 = .ok (.iconst 0, 1) := by decide +kernel
theorem dX7_pass_35 : decode cX7_pass 35 = .ok (.istore_n 2, 1) := by decide +kernel
theorem dX7_pass_36 : decode cX7_pass 36 = .ok (.iload_n 2, 1) := by decide +kernel
theorem dX7_pass_37 : decode cX7_pass 37 = .ok (.iload_n 1, 1) := by decide +kernel
theorem dX7_pass_38 : decode cX7_pass 38 = .ok (.if_icmp .ge 17, 3) := by decide +kernel
theorem dX7_pass_41 : decode cX7_pass 41 = .ok (.aload_n 0, 1) := by decide +kernel
theorem dX7_pass_42 : decode cX7_pass 42 = .ok (.aload_n 0, 1) := by decide +kernel
theorem dX7_pass_43 : decode cX7_pass 43 = .ok (.getfield 31, 3) := by decide +kernel
theorem dX7_pass_46 : decode cX7_pass 46 = .ok (.invokevirtual 176, 3) := by decide +kernel
theorem dX7_pass_49 : decode cX7_pass 49 = .ok (.iinc 2 1, 3) := by decide +kernel
theorem dX7_pass_52 : decode cX7_pass 52 = .ok (.goto (-16), 3) := by decide +kernel
theorem dX7_pass_55 : decode cX7_pass 55 = .ok (.aload_n 0, 1) := by decide +kernel
theorem dX7_pass_56 : decode cX7_pass 56 = .ok (.getfield 31, 3) := by decide +kernel
theorem dX7_pass_59 : decode cX7_pass 59 = .ok (.bipush 31, 2) := by decide +kernel
theorem dX7_pass_61 : decode cX7_pass 61 = .ok (.iaload, 1) := by decide +kernel
theorem dX7_pass_62 : decode cX7_pass 62 = .ok (.ireturn, 1) := by decide +kernel
theorem dX7_undo_0 : decode cX7_undo 0 = .ok (.aload_n 0, 1) := by decide +kernel
theorem dX7_undo_1 : decode cX7_undo 1 = .ok (.getfield 117, 3) := by decide +kernel
theorem dX7_undo_4 : decode cX7_undo 4 = .ok (.ifCond .ne 6, 3) := by decide +kernel
theorem dX7_undo_7 : decode cX7_undo 7 = .ok (.bipush (-2), 2) := by decide +kernel
theorem dX7_undo_9 : decode cX7_undo 9 = .ok (.ireturn, 1) := by decide +kernel
theorem dX7_undo_10 : decode cX7_undo 10 = .ok (.aload_n 0, 1) := by decide +kernel
theorem dX7_undo_11 : decode cX7_undo 11 = .ok (.dup, 1) := by decide +kernel
theorem dX7_undo_12 : decode cX7_undo 12 = .ok (.getfield 117, 3) := by decide +kernel
theorem dX7_undo_15 : decode cX7_undo 15 = .ok (.iconst 1, 1) := by decide +kernel
theorem dX7_undo_16 : decode cX7_undo 16 = .ok (.isub, 1) := by decide +kernel
theorem dX7_undo_17 : decode cX7_undo 17 = .ok (.putfield 117, 3) := by decide +kernel
theorem dX7_undo_20 : decode cX7_undo 20 = .ok (.aload_n 0, 1) := by decide +kernel
theorem dX7_undo_21 : decode cX7_undo 21 = .ok (.getfield 37, 3) := by decide +kernel
theorem dX7_undo_24 : decode cX7_undo 24 = .ok (.bipush 32, 2) := by decide +kernel
theorem dX7_undo_26 : decode cX7_undo 26 = .ok (.aload_n 0, 1) := by decide +kernel
theorem dX7_undo_27 : decode cX7_undo 27 = .ok (.getfield 117, 3) := by decide +kernel
theorem dX7_undo_30 : decode cX7_undo 30 = .ok (.imul, 1) := by decide +kernel
theorem dX7_undo_31 : decode cX7_undo 31 = .ok (.aload_n 0, 1) := by decide +kernel
theorem dX7_undo_32 : decode cX7_undo 32 = .ok (.getfield 31, 3) := by decide +kernel
theorem dX7_undo_35 : decode cX7_undo 35 = .ok (.iconst 0, 1) := by decide +kernel
theorem dX7_undo_36 : decode cX7_undo 36 = .ok (.bipush 32, 2) := by decide +kernel
theorem dX7_undo_38 : decode cX7_undo 38 = .ok (.invokestatic 110, 3) := by decide +kernel
theorem dX7_undo_41 : decode cX7_undo 41 = .ok (.aload_n 0, 1) := by decide +kernel
theorem dX7_undo_42 : decode cX7_undo 42 = .ok (.getfield 117, 3) := by decide +kernel
theorem dX7_undo_45 : decode cX7_undo 45 = .ok (.ireturn, 1) := by decide +kernel
theorem dX7_seamAt_0 : decode cX7_seamAt 0 = .ok (.aload_n 0, 1) := by decide +kernel
theorem dX7_seamAt_1 : decode cX7_seamAt 1 = .ok (.getfield 22, 3) := by decide +kernel
theorem dX7_seamAt_4 : decode cX7_seamAt 4 = .ok (.iconst 3, 1) := by decide +kernel
theorem dX7_seamAt_5 : decode cX7_seamAt 5 = .ok (.iload_n 1, 1) := by decide +kernel
theorem dX7_seamAt_6 : decode cX7_seamAt 6 = .ok (.imul, 1) := by decide +kernel
theorem dX7_seamAt_7 : decode cX7_seamAt 7 = .ok (.iconst 1, 1) := by decide +kernel
theorem dX7_seamAt_8 : decode cX7_seamAt 8 = .ok (.iadd, 1) := by decide +kernel
theorem dX7_seamAt_9 : decode cX7_seamAt 9 = .ok (.iaload, 1) := by decide +kernel
theorem dX7_seamAt_10 : decode cX7_seamAt 10 = .ok (.aload_n 0, 1) := by decide +kernel
theorem dX7_seamAt_11 : decode cX7_seamAt 11 = .ok (.getfield 22, 3) := by decide +kernel
theorem dX7_seamAt_14 : decode cX7_seamAt 14 = .ok (.iconst 3, 1) := by decide +kernel
theorem dX7_seamAt_15 : decode cX7_seamAt 15 = .ok (.iload_n 1, 1) := by decide +kernel
theorem dX7_seamAt_16 : decode cX7_seamAt 16 = .ok (.imul, 1) := by decide +kernel
theorem dX7_seamAt_17 : decode cX7_seamAt 17 = .ok (.iconst 2, 1) := by decide +kernel
theorem dX7_seamAt_18 : decode cX7_seamAt 18 = .ok (.iadd, 1) := by decide +kernel
theorem dX7_seamAt_19 : decode cX7_seamAt 19 = .ok (.iaload, 1) := by decide +kernel
theorem dX7_seamAt_20 : decode cX7_seamAt 20 = .ok (.iadd, 1) := by decide +kernel
theorem dX7_seamAt_21 : decode cX7_seamAt 21 = .ok (.ireturn, 1) := by decide +kernel
theorem dX7_covers_0 : decode cX7_covers 0 = .ok (.iload_n 2, 1) := by decide +kernel
theorem dX7_covers_1 : decode cX7_covers 1 = .ok (.istore_n 3, 1) := by decide +kernel
theorem dX7_covers_2 : decode cX7_covers 2 = .ok (.iconst 0, 1) := by decide +kernel
theorem dX7_covers_3 : decode cX7_covers 3 = .ok (.istore 4, 2) := by decide +kernel
theorem dX7_covers_5 : decode cX7_covers 5 = .ok (.iconst 0, 1) := by decide +kernel
theorem dX7_covers_6 : decode cX7_covers 6 = .ok (.istore 5, 2) := by decide +kernel
theorem dX7_covers_8 : decode cX7_covers 8 = .ok (.iconst 0, 1) := by decide +kernel
theorem dX7_covers_9 : decode cX7_covers 9 = .ok (.istore 6, 2) := by decide +kernel
theorem dX7_covers_11 : decode cX7_covers 11 = .ok (.iload 6, 2) := by decide +kernel
theorem dX7_covers_13 : decode cX7_covers 13 = .ok (.iload_n 1, 1) := by decide +kernel
theorem dX7_covers_14 : decode cX7_covers 14 = .ok (.if_icmp .ge 74, 3) := by decide +kernel
theorem dX7_covers_17 : decode cX7_covers 17 = .ok (.iload_n 3, 1) := by decide +kernel
theorem dX7_covers_18 : decode cX7_covers 18 = .ok (.aload_n 0, 1) := by decide +kernel
theorem dX7_covers_19 : decode cX7_covers 19 = .ok (.getfield 46, 3) := by decide +kernel
theorem dX7_covers_22 : decode cX7_covers 22 = .ok (.iload 6, 2) := by decide +kernel
theorem dX7_covers_24 : decode cX7_covers 24 = .ok (.iaload, 1) := by decide +kernel
theorem dX7_covers_25 : decode cX7_covers 25 = .ok (.iadd, 1) := by decide +kernel
theorem dX7_covers_26 : decode cX7_covers 26 = .ok (.aload_n 0, 1) := by decide +kernel
theorem dX7_covers_27 : decode cX7_covers 27 = .ok (.getfield 56, 3) := by decide +kernel
theorem dX7_covers_30 : decode cX7_covers 30 = .ok (.if_icmp .le 5, 3) := by decide +kernel
theorem dX7_covers_33 : decode cX7_covers 33 = .ok (.iconst 0, 1) := by decide +kernel
theorem dX7_covers_34 : decode cX7_covers 34 = .ok (.ireturn, 1) := by decide +kernel
theorem dX7_covers_35 : decode cX7_covers 35 = .ok (.iload 5, 2) := by decide +kernel
theorem dX7_covers_37 : decode cX7_covers 37 = .ok (.iload_n 3, 1) := by decide +kernel
theorem dX7_covers_38 : decode cX7_covers 38 = .ok (.ifCond .le 13, 3) := by decide +kernel
theorem dX7_covers_41 : decode cX7_covers 41 = .ok (.aload_n 0, 1) := by decide +kernel
theorem dX7_covers_42 : decode cX7_covers 42 = .ok (.iload_n 3, 1) := by decide +kernel
theorem dX7_covers_43 : decode cX7_covers 43 = .ok (.iconst 1, 1) := by decide +kernel
theorem dX7_covers_44 : decode cX7_covers 44 = .ok (.isub, 1) := by decide +kernel
theorem dX7_covers_45 : decode cX7_covers 45 = .ok (.invokevirtual 180, 3) := by decide +kernel
theorem dX7_covers_48 : decode cX7_covers 48 = .ok (.goto 4, 3) := by decide +kernel
theorem dX7_covers_51 : decode cX7_covers 51 = .ok (.iconst 0, 1) := by decide +kernel
theorem dX7_covers_52 : decode cX7_covers 52 = .ok (.iadd, 1) := by decide +kernel
theorem dX7_covers_53 : decode cX7_covers 53 = .ok (.istore 5, 2) := by decide +kernel
theorem dX7_covers_55 : decode cX7_covers 55 = .ok (.iload 4, 2) := by decide +kernel
theorem dX7_covers_57 : decode cX7_covers 57 = .ok (.aload_n 0, 1) := by decide +kernel
theorem dX7_covers_58 : decode cX7_covers 58 = .ok (.iload_n 3, 1) := by decide +kernel
theorem dX7_covers_59 : decode cX7_covers 59 = .ok (.aload_n 0, 1) := by decide +kernel
theorem dX7_covers_60 : decode cX7_covers 60 = .ok (.getfield 46, 3) := by decide +kernel
theorem dX7_covers_63 : decode cX7_covers 63 = .ok (.iload 6, 2) := by decide +kernel
theorem dX7_covers_65 : decode cX7_covers 65 = .ok (.iaload, 1) := by decide +kernel
theorem dX7_covers_66 : decode cX7_covers 66 = .ok (.invokevirtual 141, 3) := by decide +kernel
theorem dX7_covers_69 : decode cX7_covers 69 = .ok (.iadd, 1) := by decide +kernel
theorem dX7_covers_70 : decode cX7_covers 70 = .ok (.istore 4, 2) := by decide +kernel
theorem dX7_covers_72 : decode cX7_covers 72 = .ok (.iload_n 3, 1) := by decide +kernel
theorem dX7_covers_73 : decode cX7_covers 73 = .ok (.aload_n 0, 1) := by decide +kernel
theorem dX7_covers_74 : decode cX7_covers 74 = .ok (.getfield 46, 3) := by decide +kernel
theorem dX7_covers_77 : decode cX7_covers 77 = .ok (.iload 6, 2) := by decide +kernel
theorem dX7_covers_79 : decode cX7_covers 79 = .ok (.iaload, 1) := by decide +kernel
theorem dX7_covers_80 : decode cX7_covers 80 = .ok (.iadd, 1) := by decide +kernel
theorem dX7_covers_81 : decode cX7_covers 81 = .ok (.istore_n 3, 1) := by decide +kernel
theorem dX7_covers_82 : decode cX7_covers 82 = .ok (.iinc 6 1, 3) := by decide +kernel
theorem dX7_covers_85 : decode cX7_covers 85 = .ok (.goto (-74), 3) := by decide +kernel
theorem dX7_covers_88 : decode cX7_covers 88 = .ok (.iload_n 3, 1) := by decide +kernel
theorem dX7_covers_89 : decode cX7_covers 89 = .ok (.aload_n 0, 1) := by decide +kernel
theorem dX7_covers_90 : decode cX7_covers 90 = .ok (.getfield 56, 3) := by decide +kernel
theorem dX7_covers_93 : decode cX7_covers 93 = .ok (.if_icmp .ne 16, 3) := by decide +kernel
theorem dX7_covers_96 : decode cX7_covers 96 = .ok (.iload 4, 2) := by decide +kernel
theorem dX7_covers_98 : decode cX7_covers 98 = .ok (.aload_n 0, 1) := by decide +kernel
theorem dX7_covers_99 : decode cX7_covers 99 = .ok (.aload_n 0, 1) := by decide +kernel
theorem dX7_covers_100 : decode cX7_covers 100 = .ok (.getfield 31, 3) := by decide +kernel
theorem dX7_covers_103 : decode cX7_covers 103 = .ok (.invokevirtual 145, 3) := by decide +kernel
theorem dX7_covers_106 : decode cX7_covers 106 = .ok (.if_icmp .le 5, 3) := by decide +kernel
theorem dX7_covers_109 : decode cX7_covers 109 = .ok (.iconst 0, 1) := by decide +kernel
theorem dX7_covers_110 : decode cX7_covers 110 = .ok (.ireturn, 1) := by decide +kernel
theorem dX7_covers_111 : decode cX7_covers 111 = .ok (.aload_n 0, 1) := by decide +kernel
theorem dX7_covers_112 : decode cX7_covers 112 = .ok (.getfield 183, 3) := by decide +kernel
theorem dX7_covers_115 : decode cX7_covers 115 = .ok (.ifCond .lt 47, 3) := by decide +kernel
theorem dX7_covers_118 : decode cX7_covers 118 = .ok (.iload 4, 2) := by decide +kernel
theorem dX7_covers_120 : decode cX7_covers 120 = .ok (.aload_n 0, 1) := by decide +kernel
theorem dX7_covers_121 : decode cX7_covers 121 = .ok (.getfield 183, 3) := by decide +kernel
theorem dX7_covers_124 : decode cX7_covers 124 = .ok (.if_icmp .lt 38, 3) := by decide +kernel
theorem dX7_covers_127 : decode cX7_covers 127 = .ok (.iload 4, 2) := by decide +kernel
theorem dX7_covers_129 : decode cX7_covers 129 = .ok (.aload_n 0, 1) := by decide +kernel
theorem dX7_covers_130 : decode cX7_covers 130 = .ok (.getfield 183, 3) := by decide +kernel
theorem dX7_covers_133 : decode cX7_covers 133 = .ok (.if_icmp .ne 33, 3) := by decide +kernel
theorem dX7_covers_136 : decode cX7_covers 136 = .ok (.iload 5, 2) := by decide +kernel
theorem dX7_covers_138 : decode cX7_covers 138 = .ok (.aload_n 0, 1) := by decide +kernel
theorem dX7_covers_139 : decode cX7_covers 139 = .ok (.getfield 186, 3) := by decide +kernel
theorem dX7_covers_142 : decode cX7_covers 142 = .ok (.if_icmp .lt 20, 3) := by decide +kernel
theorem dX7_covers_145 : decode cX7_covers 145 = .ok (.iload 5, 2) := by decide +kernel
theorem dX7_covers_147 : decode cX7_covers 147 = .ok (.aload_n 0, 1) := by decide +kernel
theorem dX7_covers_148 : decode cX7_covers 148 = .ok (.getfield 186, 3) := by decide +kernel
theorem dX7_covers_151 : decode cX7_covers 151 = .ok (.if_icmp .ne 15, 3) := by decide +kernel
theorem dX7_covers_154 : decode cX7_covers 154 = .ok (.aload_n 0, 1) := by decide +kernel
theorem dX7_covers_155 : decode cX7_covers 155 = .ok (.iload_n 1, 1) := by decide +kernel
theorem dX7_covers_156 : decode cX7_covers 156 = .ok (.invokevirtual 189, 3) := by decide +kernel
theorem dX7_covers_159 : decode cX7_covers 159 = .ok (.ifCond .eq 7, 3) := by decide +kernel
theorem dX7_covers_162 : decode cX7_covers 162 = .ok (.iconst 1, 1) := by decide +kernel
theorem dX7_covers_163 : decode cX7_covers 163 = .ok (.goto 4, 3) := by decide +kernel
theorem dX7_covers_166 : decode cX7_covers 166 = .ok (.iconst 0, 1) := by decide +kernel
theorem dX7_covers_167 : decode cX7_covers 167 = .ok (.istore 6, 2) := by decide +kernel
theorem dX7_covers_169 : decode cX7_covers 169 = .ok (.iload 6, 2) := by decide +kernel
theorem dX7_covers_171 : decode cX7_covers 171 = .ok (.ifCond .eq 34, 3) := by decide +kernel
theorem dX7_covers_174 : decode cX7_covers 174 = .ok (.aload_n 0, 1) := by decide +kernel
theorem dX7_covers_175 : decode cX7_covers 175 = .ok (.iload 4, 2) := by decide +kernel
theorem dX7_covers_177 : decode cX7_covers 177 = .ok (.putfield 183, 3) := by decide +kernel
theorem dX7_covers_180 : decode cX7_covers 180 = .ok (.aload_n 0, 1) := by decide +kernel
theorem dX7_covers_181 : decode cX7_covers 181 = .ok (.iload 5, 2) := by decide +kernel
theorem dX7_covers_183 : decode cX7_covers 183 = .ok (.putfield 186, 3) := by decide +kernel
theorem dX7_covers_186 : decode cX7_covers 186 = .ok (.aload_n 0, 1) := by decide +kernel
theorem dX7_covers_187 : decode cX7_covers 187 = .ok (.iload_n 1, 1) := by decide +kernel
theorem dX7_covers_188 : decode cX7_covers 188 = .ok (.putfield 193, 3) := by decide +kernel
theorem dX7_covers_191 : decode cX7_covers 191 = .ok (.aload_n 0, 1) := by decide +kernel
theorem dX7_covers_192 : decode cX7_covers 192 = .ok (.getfield 46, 3) := by decide +kernel
theorem dX7_covers_195 : decode cX7_covers 195 = .ok (.iconst 0, 1) := by decide +kernel
theorem dX7_covers_196 : decode cX7_covers 196 = .ok (.aload_n 0, 1) := by decide +kernel
theorem dX7_covers_197 : decode cX7_covers 197 = .ok (.getfield 49, 3) := by decide +kernel
theorem dX7_covers_200 : decode cX7_covers 200 = .ok (.iconst 0, 1) := by decide +kernel
theorem dX7_covers_201 : decode cX7_covers 201 = .ok (.iload_n 1, 1) := by decide +kernel
theorem dX7_covers_202 : decode cX7_covers 202 = .ok (.invokestatic 110, 3) := by decide +kernel
theorem dX7_covers_205 : decode cX7_covers 205 = .ok (.iload 6, 2) := by decide +kernel
theorem dX7_covers_207 : decode cX7_covers 207 = .ok (.ireturn, 1) := by decide +kernel
theorem dX7_isBefore_0 : decode cX7_isBefore 0 = .ok (.iconst 0, 1) := by decide +kernel
theorem dX7_isBefore_1 : decode cX7_isBefore 1 = .ok (.istore_n 2, 1) := by decide +kernel
theorem dX7_isBefore_2 : decode cX7_isBefore 2 = .ok (.iload_n 2, 1) := by decide +kernel
theorem dX7_isBefore_3 : decode cX7_isBefore 3 = .ok (.iload_n 1, 1) := by decide +kernel
theorem dX7_isBefore_4 : decode cX7_isBefore 4 = .ok (.if_icmp .ge 53, 3) := by decide +kernel
theorem dX7_isBefore_7 : decode cX7_isBefore 7 = .ok (.iload_n 2, 1) := by decide +kernel
theorem dX7_isBefore_8 : decode cX7_isBefore 8 = .ok (.aload_n 0, 1) := by decide +kernel
theorem dX7_isBefore_9 : decode cX7_isBefore 9 = .ok (.getfield 193, 3) := by decide +kernel
theorem dX7_isBefore_12 : decode cX7_isBefore 12 = .ok (.if_icmp .ge 45, 3) := by decide +kernel
theorem dX7_isBefore_15 : decode cX7_isBefore 15 = .ok (.aload_n 0, 1) := by decide +kernel
theorem dX7_isBefore_16 : decode cX7_isBefore 16 = .ok (.getfield 46, 3) := by decide +kernel
theorem dX7_isBefore_19 : decode cX7_isBefore 19 = .ok (.iload_n 2, 1) := by decide +kernel
theorem dX7_isBefore_20 : decode cX7_isBefore 20 = .ok (.iaload, 1) := by decide +kernel
theorem dX7_isBefore_21 : decode cX7_isBefore 21 = .ok (.aload_n 0, 1) := by decide +kernel
theorem dX7_isBefore_22 : decode cX7_isBefore 22 = .ok (.getfield 49, 3) := by decide +kernel
theorem dX7_isBefore_25 : decode cX7_isBefore 25 = .ok (.iload_n 2, 1) := by decide +kernel
theorem dX7_isBefore_26 : decode cX7_isBefore 26 = .ok (.iaload, 1) := by decide +kernel
theorem dX7_isBefore_27 : decode cX7_isBefore 27 = .ok (.if_icmp .eq 24, 3) := by decide +kernel
theorem dX7_isBefore_30 : decode cX7_isBefore 30 = .ok (.aload_n 0, 1) := by decide +kernel
theorem dX7_isBefore_31 : decode cX7_isBefore 31 = .ok (.getfield 46, 3) := by decide +kernel
theorem dX7_isBefore_34 : decode cX7_isBefore 34 = .ok (.iload_n 2, 1) := by decide +kernel
theorem dX7_isBefore_35 : decode cX7_isBefore 35 = .ok (.iaload, 1) := by decide +kernel
theorem dX7_isBefore_36 : decode cX7_isBefore 36 = .ok (.aload_n 0, 1) := by decide +kernel
theorem dX7_isBefore_37 : decode cX7_isBefore 37 = .ok (.getfield 49, 3) := by decide +kernel
theorem dX7_isBefore_40 : decode cX7_isBefore 40 = .ok (.iload_n 2, 1) := by decide +kernel
theorem dX7_isBefore_41 : decode cX7_isBefore 41 = .ok (.iaload, 1) := by decide +kernel
theorem dX7_isBefore_42 : decode cX7_isBefore 42 = .ok (.if_icmp .ge 7, 3) := by decide +kernel
theorem dX7_isBefore_45 : decode cX7_isBefore 45 = .ok (.iconst 1, 1) := by decide +kernel
theorem dX7_isBefore_46 : decode cX7_isBefore 46 = .ok (.goto 4, 3) := by decide +kernel
theorem dX7_isBefore_49 : decode cX7_isBefore 49 = .ok (.iconst 0, 1) := by decide +kernel
theorem dX7_isBefore_50 : decode cX7_isBefore 50 = .ok (.ireturn, 1) := by decide +kernel
theorem dX7_isBefore_51 : decode cX7_isBefore 51 = .ok (.iinc 2 1, 3) := by decide +kernel
theorem dX7_isBefore_54 : decode cX7_isBefore 54 = .ok (.goto (-52), 3) := by decide +kernel
theorem dX7_isBefore_57 : decode cX7_isBefore 57 = .ok (.iload_n 1, 1) := by decide +kernel
theorem dX7_isBefore_58 : decode cX7_isBefore 58 = .ok (.aload_n 0, 1) := by decide +kernel
theorem dX7_isBefore_59 : decode cX7_isBefore 59 = .ok (.getfield 193, 3) := by decide +kernel
theorem dX7_isBefore_62 : decode cX7_isBefore 62 = .ok (.if_icmp .ge 7, 3) := by decide +kernel
theorem dX7_isBefore_65 : decode cX7_isBefore 65 = .ok (.iconst 1, 1) := by decide +kernel
theorem dX7_isBefore_66 : decode cX7_isBefore 66 = .ok (.goto 4, 3) := by decide +kernel
theorem dX7_isBefore_69 : decode cX7_isBefore 69 = .ok (.iconst 0, 1) := by decide +kernel
theorem dX7_isBefore_70 : decode cX7_isBefore 70 = .ok (.ireturn, 1) := by decide +kernel
theorem dX7_layPlan_0 : decode cX7_layPlan 0 = .ok (.aload_n 0, 1) := by decide +kernel
theorem dX7_layPlan_1 : decode cX7_layPlan 1 = .ok (.iconst (-1), 1) := by decide +kernel
theorem dX7_layPlan_2 : decode cX7_layPlan 2 = .ok (.putfield 183, 3) := by decide +kernel
theorem dX7_layPlan_5 : decode cX7_layPlan 5 = .ok (.aload_n 0, 1) := by decide +kernel
theorem dX7_layPlan_6 : decode cX7_layPlan 6 = .ok (.iconst 0, 1) := by decide +kernel
theorem dX7_layPlan_7 : decode cX7_layPlan 7 = .ok (.putfield 186, 3) := by decide +kernel
theorem dX7_layPlan_10 : decode cX7_layPlan 10 = .ok (.aload_n 0, 1) := by decide +kernel
theorem dX7_layPlan_11 : decode cX7_layPlan 11 = .ok (.iconst 0, 1) := by decide +kernel
theorem dX7_layPlan_12 : decode cX7_layPlan 12 = .ok (.putfield 193, 3) := by decide +kernel
theorem dX7_layPlan_15 : decode cX7_layPlan 15 = .ok (.aload_n 0, 1) := by decide +kernel
theorem dX7_layPlan_16 : decode cX7_layPlan 16 = .ok (.getfield 31, 3) := by decide +kernel
theorem dX7_layPlan_19 : decode cX7_layPlan 19 = .ok (.invokestatic 137, 3) := by decide +kernel
theorem dX7_layPlan_22 : decode cX7_layPlan 22 = .ok (.istore_n 1, 1) := by decide +kernel
theorem dX7_layPlan_23 : decode cX7_layPlan 23 = .ok (.aload_n 0, 1) := by decide +kernel
theorem dX7_layPlan_24 : decode cX7_layPlan 24 = .ok (.getfield 56, 3) := by decide +kernel
theorem dX7_layPlan_27 : decode cX7_layPlan 27 = .ok (.iload_n 1, 1) := by decide +kernel
theorem dX7_layPlan_28 : decode cX7_layPlan 28 = .ok (.isub, 1) := by decide +kernel
theorem dX7_layPlan_29 : decode cX7_layPlan 29 = .ok (.iconst 1, 1) := by decide +kernel
theorem dX7_layPlan_30 : decode cX7_layPlan 30 = .ok (.isub, 1) := by decide +kernel
theorem dX7_layPlan_31 : decode cX7_layPlan 31 = .ok (.istore_n 2, 1) := by decide +kernel
theorem dX7_layPlan_32 : decode cX7_layPlan 32 = .ok (.iload_n 2, 1) := by decide +kernel
theorem dX7_layPlan_33 : decode cX7_layPlan 33 = .ok (.ifCond .ge 9, 3) := by decide +kernel
theorem dX7_layPlan_36 : decode cX7_layPlan 36 = .ok (.aload_n 0, 1) := by decide +kernel
theorem dX7_layPlan_37 : decode cX7_layPlan 37 = .ok (.iconst 0, 1) := by decide +kernel
theorem dX7_layPlan_38 : decode cX7_layPlan 38 = .ok (.putfield 183, 3) := by decide +kernel
theorem dX7_layPlan_41 : decode cX7_layPlan 41 = .ok (.return_, 1) := by decide +kernel
theorem dX7_layPlan_42 : decode cX7_layPlan 42 = .ok (.iconst 0, 1) := by decide +kernel
theorem dX7_layPlan_43 : decode cX7_layPlan 43 = .ok (.istore_n 3, 1) := by decide +kernel
theorem dX7_layPlan_44 : decode cX7_layPlan 44 = .ok (.iload_n 3, 1) := by decide +kernel
theorem dX7_layPlan_45 : decode cX7_layPlan 45 = .ok (.iconst 1, 1) := by decide +kernel
theorem dX7_layPlan_46 : decode cX7_layPlan 46 = .ok (.iload_n 2, 1) := by decide +kernel
theorem dX7_layPlan_47 : decode cX7_layPlan 47 = .ok (.ishl, 1) := by decide +kernel
theorem dX7_layPlan_48 : decode cX7_layPlan 48 = .ok (.if_icmp .ge 102, 3) := by decide +kernel
theorem dX7_layPlan_51 : decode cX7_layPlan 51 = .ok (.iconst 0, 1) := by decide +kernel
theorem dX7_layPlan_52 : decode cX7_layPlan 52 = .ok (.istore 4, 2) := by decide +kernel
theorem dX7_layPlan_54 : decode cX7_layPlan 54 = .ok (.iconst 0, 1) := by decide +kernel
theorem dX7_layPlan_55 : decode cX7_layPlan 55 = .ok (.istore 5, 2) := by decide +kernel
theorem dX7_layPlan_57 : decode cX7_layPlan 57 = .ok (.iconst 1, 1) := by decide +kernel
theorem dX7_layPlan_58 : decode cX7_layPlan 58 = .ok (.istore 6, 2) := by decide +kernel
theorem dX7_layPlan_60 : decode cX7_layPlan 60 = .ok (.iconst 0, 1) := by decide +kernel
theorem dX7_layPlan_61 : decode cX7_layPlan 61 = .ok (.istore 7, 2) := by decide +kernel
theorem dX7_layPlan_63 : decode cX7_layPlan 63 = .ok (.iload 7, 2) := by decide +kernel
theorem dX7_layPlan_65 : decode cX7_layPlan 65 = .ok (.iload_n 2, 1) := by decide +kernel
theorem dX7_layPlan_66 : decode cX7_layPlan 66 = .ok (.if_icmp .gt 65, 3) := by decide +kernel
theorem dX7_layPlan_69 : decode cX7_layPlan 69 = .ok (.iinc 5 1, 3) := by decide +kernel
theorem dX7_layPlan_72 : decode cX7_layPlan 72 = .ok (.iload 6, 2) := by decide +kernel
theorem dX7_layPlan_74 : decode cX7_layPlan 74 = .ok (.ifCond .eq 18, 3) := by decide +kernel
theorem dX7_layPlan_77 : decode cX7_layPlan 77 = .ok (.iload 5, 2) := by decide +kernel
theorem dX7_layPlan_79 : decode cX7_layPlan 79 = .ok (.aload_n 0, 1) := by decide +kernel
theorem dX7_layPlan_80 : decode cX7_layPlan 80 = .ok (.getfield 28, 3) := by decide +kernel
theorem dX7_layPlan_83 : decode cX7_layPlan 83 = .ok (.iconst 0, 1) := by decide +kernel
theorem dX7_layPlan_84 : decode cX7_layPlan 84 = .ok (.iaload, 1) := by decide +kernel
theorem dX7_layPlan_85 : decode cX7_layPlan 85 = .ok (.if_icmp .gt 7, 3) := by decide +kernel
theorem dX7_layPlan_88 : decode cX7_layPlan 88 = .ok (.iconst 1, 1) := by decide +kernel
theorem dX7_layPlan_89 : decode cX7_layPlan 89 = .ok (.goto 4, 3) := by decide +kernel
theorem dX7_layPlan_92 : decode cX7_layPlan 92 = .ok (.iconst 0, 1) := by decide +kernel
theorem dX7_layPlan_93 : decode cX7_layPlan 93 = .ok (.istore 6, 2) := by decide +kernel
theorem dX7_layPlan_95 : decode cX7_layPlan 95 = .ok (.iload 7, 2) := by decide +kernel
theorem dX7_layPlan_97 : decode cX7_layPlan 97 = .ok (.iload_n 2, 1) := by decide +kernel
theorem dX7_layPlan_98 : decode cX7_layPlan 98 = .ok (.if_icmp .eq 12, 3) := by decide +kernel
theorem dX7_layPlan_101 : decode cX7_layPlan 101 = .ok (.iload_n 3, 1) := by decide +kernel
theorem dX7_layPlan_102 : decode cX7_layPlan 102 = .ok (.iload 7, 2) := by decide +kernel
theorem dX7_layPlan_104 : decode cX7_layPlan 104 = .ok (.invokestatic 126, 3) := by decide +kernel
theorem dX7_layPlan_107 : decode cX7_layPlan 107 = .ok (.ifCond .eq 18, 3) := by decide +kernel
theorem dX7_layPlan_110 : decode cX7_layPlan 110 = .ok (.aload_n 0, 1) := by decide +kernel
theorem dX7_layPlan_111 : decode cX7_layPlan 111 = .ok (.getfield 46, 3) := by decide +kernel
theorem dX7_layPlan_114 : decode cX7_layPlan 114 = .ok (.iload 4, 2) := by decide +kernel
theorem dX7_layPlan_116 : decode cX7_layPlan 116 = .ok (.iload 5, 2) := by decide +kernel
theorem dX7_layPlan_118 : decode cX7_layPlan 118 = .ok (.iastore, 1) := by decide +kernel
theorem dX7_layPlan_119 : decode cX7_layPlan 119 = .ok (.iinc 4 1, 3) := by decide +kernel
theorem dX7_layPlan_122 : decode cX7_layPlan 122 = .ok (.iconst 0, 1) := by decide +kernel
theorem dX7_layPlan_123 : decode cX7_layPlan 123 = .ok (.istore 5, 2) := by decide +kernel
theorem dX7_layPlan_125 : decode cX7_layPlan 125 = .ok (.iinc 7 1, 3) := by decide +kernel
theorem dX7_layPlan_128 : decode cX7_layPlan 128 = .ok (.goto (-65), 3) := by decide +kernel
theorem dX7_layPlan_131 : decode cX7_layPlan 131 = .ok (.iload 6, 2) := by decide +kernel
theorem dX7_layPlan_133 : decode cX7_layPlan 133 = .ok (.ifCond .eq 11, 3) := by decide +kernel
theorem dX7_layPlan_136 : decode cX7_layPlan 136 = .ok (.aload_n 0, 1) := by decide +kernel
theorem dX7_layPlan_137 : decode cX7_layPlan 137 = .ok (.iload 4, 2) := by decide +kernel
theorem dX7_layPlan_139 : decode cX7_layPlan 139 = .ok (.iload_n 1, 1) := by decide +kernel
theorem dX7_layPlan_140 : decode cX7_layPlan 140 = .ok (.invokevirtual 196, 3) := by decide +kernel
theorem dX7_layPlan_143 : decode cX7_layPlan 143 = .ok (.pop, 1) := by decide +kernel
theorem dX7_layPlan_144 : decode cX7_layPlan 144 = .ok (.iinc 3 1, 3) := by decide +kernel
theorem dX7_layPlan_147 : decode cX7_layPlan 147 = .ok (.goto (-103), 3) := by decide +kernel
theorem dX7_layPlan_150 : decode cX7_layPlan 150 = .ok (.return_, 1) := by decide +kernel
theorem dX7_plan_0 : decode cX7_plan 0 = .ok (.iload_n 1, 1) := by decide +kernel
theorem dX7_plan_1 : decode cX7_plan 1 = .ok (.bipush (-2), 2) := by decide +kernel
theorem dX7_plan_3 : decode cX7_plan 3 = .ok (.if_icmp .ge 5, 3) := by decide +kernel
theorem dX7_plan_6 : decode cX7_plan 6 = .ok (.iconst (-1), 1) := by decide +kernel
theorem dX7_plan_7 : decode cX7_plan 7 = .ok (.ireturn, 1) := by decide +kernel
theorem dX7_plan_8 : decode cX7_plan 8 = .ok (.aload_n 0, 1) := by decide +kernel
theorem dX7_plan_9 : decode cX7_plan 9 = .ok (.invokevirtual 199, 3) := by decide +kernel
theorem dX7_plan_12 : decode cX7_plan 12 = .ok (.aload_n 0, 1) := by decide +kernel
theorem dX7_plan_13 : decode cX7_plan 13 = .ok (.getfield 183, 3) := by decide +kernel
theorem dX7_plan_16 : decode cX7_plan 16 = .ok (.ifCond .ge 6, 3) := by decide +kernel
theorem dX7_plan_19 : decode cX7_plan 19 = .ok (.bipush (-4), 2) := by decide +kernel
theorem dX7_plan_21 : decode cX7_plan 21 = .ok (.ireturn, 1) := by decide +kernel
theorem dX7_plan_22 : decode cX7_plan 22 = .ok (.iload_n 1, 1) := by decide +kernel
theorem dX7_plan_23 : decode cX7_plan 23 = .ok (.iconst (-1), 1) := by decide +kernel
theorem dX7_plan_24 : decode cX7_plan 24 = .ok (.if_icmp .ne 10, 3) := by decide +kernel
theorem dX7_plan_27 : decode cX7_plan 27 = .ok (.aload_n 0, 1) := by decide +kernel
theorem dX7_plan_28 : decode cX7_plan 28 = .ok (.getfield 183, 3) := by decide +kernel
theorem dX7_plan_31 : decode cX7_plan 31 = .ok (.goto 35, 3) := by decide +kernel
theorem dX7_plan_34 : decode cX7_plan 34 = .ok (.iload_n 1, 1) := by decide +kernel
theorem dX7_plan_35 : decode cX7_plan 35 = .ok (.bipush (-2), 2) := by decide +kernel
theorem dX7_plan_37 : decode cX7_plan 37 = .ok (.if_icmp .ne 10, 3) := by decide +kernel
theorem dX7_plan_40 : decode cX7_plan 40 = .ok (.aload_n 0, 1) := by decide +kernel
theorem dX7_plan_41 : decode cX7_plan 41 = .ok (.getfield 186, 3) := by decide +kernel
theorem dX7_plan_44 : decode cX7_plan 44 = .ok (.goto 22, 3) := by decide +kernel
theorem dX7_plan_47 : decode cX7_plan 47 = .ok (.iload_n 1, 1) := by decide +kernel
theorem dX7_plan_48 : decode cX7_plan 48 = .ok (.aload_n 0, 1) := by decide +kernel
theorem dX7_plan_49 : decode cX7_plan 49 = .ok (.getfield 193, 3) := by decide +kernel
theorem dX7_plan_52 : decode cX7_plan 52 = .ok (.if_icmp .ge 12, 3) := by decide +kernel
theorem dX7_plan_55 : decode cX7_plan 55 = .ok (.aload_n 0, 1) := by decide +kernel
theorem dX7_plan_56 : decode cX7_plan 56 = .ok (.getfield 49, 3) := by decide +kernel
theorem dX7_plan_59 : decode cX7_plan 59 = .ok (.iload_n 1, 1) := by decide +kernel
theorem dX7_plan_60 : decode cX7_plan 60 = .ok (.iaload, 1) := by decide +kernel
theorem dX7_plan_61 : decode cX7_plan 61 = .ok (.goto 5, 3) := by decide +kernel
theorem dX7_plan_64 : decode cX7_plan 64 = .ok (.bipush (-4), 2) := by decide +kernel
theorem dX7_plan_66 : decode cX7_plan 66 = .ok (.ireturn, 1) := by decide +kernel
theorem dX7_begin_0 : decode cX7_begin 0 = .ok (.aload_n 0, 1) := by decide +kernel
theorem dX7_begin_1 : decode cX7_begin 1 = .ok (.getfield 31, 3) := by decide +kernel
theorem dX7_begin_4 : decode cX7_begin 4 = .ok (.iconst 0, 1) := by decide +kernel
theorem dX7_begin_5 : decode cX7_begin 5 = .ok (.aload_n 0, 1) := by decide +kernel
theorem dX7_begin_6 : decode cX7_begin 6 = .ok (.getfield 34, 3) := by decide +kernel
theorem dX7_begin_9 : decode cX7_begin 9 = .ok (.iconst 0, 1) := by decide +kernel
theorem dX7_begin_10 : decode cX7_begin 10 = .ok (.bipush 32, 2) := by decide +kernel
theorem dX7_begin_12 : decode cX7_begin 12 = .ok (.invokestatic 110, 3) := by decide +kernel
theorem dX7_begin_15 : decode cX7_begin 15 = .ok (.return_, 1) := by decide +kernel
theorem dX7_leastKick_0 : decode cX7_leastKick 0 = .ok (.iconst 0, 1) := by decide +kernel
theorem dX7_leastKick_1 : decode cX7_leastKick 1 = .ok (.istore 4, 2) := by decide +kernel
theorem dX7_leastKick_3 : decode cX7_leastKick 3 = .ok (.iload 4, 2) := by decide +kernel
theorem dX7_leastKick_5 : decode cX7_leastKick 5 = .ok (.bipush 20, 2) := by decide +kernel
theorem dX7_leastKick_7 : decode cX7_leastKick 7 = .ok (.if_icmp .gt 39, 3) := by decide +kernel
theorem dX7_leastKick_10 : decode cX7_leastKick 10 = .ok (.aload_n 0, 1) := by decide +kernel
theorem dX7_leastKick_11 : decode cX7_leastKick 11 = .ok (.aload_n 1, 1) := by decide +kernel
theorem dX7_leastKick_12 : decode cX7_leastKick 12 = .ok (.iload_n 2, 1) := by decide +kernel
theorem dX7_leastKick_13 : decode cX7_leastKick 13 = .ok (.iload 4, 2) := by decide +kernel
theorem dX7_leastKick_15 : decode cX7_leastKick 15 = .ok (.invokevirtual 158, 3) := by decide +kernel
theorem dX7_leastKick_18 : decode cX7_leastKick 18 = .ok (.istore 5, 2) := by decide +kernel
theorem dX7_leastKick_20 : decode cX7_leastKick 20 = .ok (.iload 5, 2) := by decide +kernel
theorem dX7_leastKick_22 : decode cX7_leastKick 22 = .ok (.iload_n 3, 1) := by decide +kernel
theorem dX7_leastKick_23 : decode cX7_leastKick 23 = .ok (.if_icmp .lt 17, 3) := by decide +kernel
theorem dX7_leastKick_26 : decode cX7_leastKick 26 = .ok (.iload 5, 2) := by decide +kernel
theorem dX7_leastKick_28 : decode cX7_leastKick 28 = .ok (.aload_n 0, 1) := by decide +kernel
theorem dX7_leastKick_29 : decode cX7_leastKick 29 = .ok (.getfield 28, 3) := by decide +kernel
theorem dX7_leastKick_32 : decode cX7_leastKick 32 = .ok (.iconst 3, 1) := by decide +kernel
theorem dX7_leastKick_33 : decode cX7_leastKick 33 = .ok (.iaload, 1) := by decide +kernel
theorem dX7_leastKick_34 : decode cX7_leastKick 34 = .ok (.if_icmp .gt 6, 3) := by decide +kernel
theorem dX7_leastKick_37 : decode cX7_leastKick 37 = .ok (.iload 4, 2) := by decide +kernel
theorem dX7_leastKick_39 : decode cX7_leastKick 39 = .ok (.ireturn, 1) := by decide +kernel
theorem dX7_leastKick_40 : decode cX7_leastKick 40 = .ok (.iinc 4 1, 3) := by decide +kernel
theorem dX7_leastKick_43 : decode cX7_leastKick 43 = .ok (.goto (-40), 3) := by decide +kernel
theorem dX7_leastKick_46 : decode cX7_leastKick 46 = .ok (.bipush (-4), 2) := by decide +kernel
theorem dX7_leastKick_48 : decode cX7_leastKick 48 = .ok (.ireturn, 1) := by decide +kernel
theorem dX7_layOrder_0 : decode cX7_layOrder 0 = .ok (.bipush 15, 2) := by decide +kernel
theorem dX7_layOrder_2 : decode cX7_layOrder 2 = .ok (.aload_n 0, 1) := by decide +kernel
theorem dX7_layOrder_3 : decode cX7_layOrder 3 = .ok (.getfield 31, 3) := by decide +kernel
theorem dX7_layOrder_6 : decode cX7_layOrder 6 = .ok (.bipush 29, 2) := by decide +kernel
theorem dX7_layOrder_8 : decode cX7_layOrder 8 = .ok (.iaload, 1) := by decide +kernel
theorem dX7_layOrder_9 : decode cX7_layOrder 9 = .ok (.aload_n 0, 1) := by decide +kernel
theorem dX7_layOrder_10 : decode cX7_layOrder 10 = .ok (.getfield 31, 3) := by decide +kernel
theorem dX7_layOrder_13 : decode cX7_layOrder 13 = .ok (.bipush 30, 2) := by decide +kernel
theorem dX7_layOrder_15 : decode cX7_layOrder 15 = .ok (.iaload, 1) := by decide +kernel
theorem dX7_layOrder_16 : decode cX7_layOrder 16 = .ok (.ior, 1) := by decide +kernel
theorem dX7_layOrder_17 : decode cX7_layOrder 17 = .ok (.iconst (-1), 1) := by decide +kernel
theorem dX7_layOrder_18 : decode cX7_layOrder 18 = .ok (.ixor, 1) := by decide +kernel
theorem dX7_layOrder_19 : decode cX7_layOrder 19 = .ok (.iand, 1) := by decide +kernel
theorem dX7_layOrder_20 : decode cX7_layOrder 20 = .ok (.istore_n 1, 1) := by decide +kernel
theorem dX7_layOrder_21 : decode cX7_layOrder 21 = .ok (.iload_n 1, 1) := by decide +kernel
theorem dX7_layOrder_22 : decode cX7_layOrder 22 = .ok (.invokestatic 151, 3) := by decide +kernel
theorem dX7_layOrder_25 : decode cX7_layOrder 25 = .ok (.istore_n 2, 1) := by decide +kernel
theorem dX7_layOrder_26 : decode cX7_layOrder 26 = .ok (.aload_n 0, 1) := by decide +kernel
theorem dX7_layOrder_27 : decode cX7_layOrder 27 = .ok (.iconst (-1), 1) := by decide +kernel
theorem dX7_layOrder_28 : decode cX7_layOrder 28 = .ok (.putfield 183, 3) := by decide +kernel
theorem dX7_layOrder_31 : decode cX7_layOrder 31 = .ok (.aload_n 0, 1) := by decide +kernel
theorem dX7_layOrder_32 : decode cX7_layOrder 32 = .ok (.iload_n 2, 1) := by decide +kernel
theorem dX7_layOrder_33 : decode cX7_layOrder 33 = .ok (.putfield 193, 3) := by decide +kernel
theorem dX7_layOrder_36 : decode cX7_layOrder 36 = .ok (.iconst 0, 1) := by decide +kernel
theorem dX7_layOrder_37 : decode cX7_layOrder 37 = .ok (.istore_n 3, 1) := by decide +kernel
theorem dX7_layOrder_38 : decode cX7_layOrder 38 = .ok (.iload_n 3, 1) := by decide +kernel
theorem dX7_layOrder_39 : decode cX7_layOrder 39 = .ok (.sipush 256, 3) := by decide +kernel
theorem dX7_layOrder_42 : decode cX7_layOrder 42 = .ok (.if_icmp .ge 179, 3) := by decide +kernel
theorem dX7_layOrder_45 : decode cX7_layOrder 45 = .ok (.iconst 0, 1) := by decide +kernel
theorem dX7_layOrder_46 : decode cX7_layOrder 46 = .ok (.istore 4, 2) := by decide +kernel
theorem dX7_layOrder_48 : decode cX7_layOrder 48 = .ok (.iload_n 3, 1) := by decide +kernel
theorem dX7_layOrder_49 : decode cX7_layOrder 49 = .ok (.istore 5, 2) := by decide +kernel
theorem dX7_layOrder_51 : decode cX7_layOrder 51 = .ok (.iconst 3, 1) := by decide +kernel
theorem dX7_layOrder_52 : decode cX7_layOrder 52 = .ok (.istore 6, 2) := by decide +kernel
theorem dX7_layOrder_54 : decode cX7_layOrder 54 = .ok (.iload 6, 2) := by decide +kernel
theorem dX7_layOrder_56 : decode cX7_layOrder 56 = .ok (.ifCond .lt 26, 3) := by decide +kernel
theorem dX7_layOrder_59 : decode cX7_layOrder 59 = .ok (.aload_n 0, 1) := by decide +kernel
theorem dX7_layOrder_60 : decode cX7_layOrder 60 = .ok (.getfield 46, 3) := by decide +kernel
theorem dX7_layOrder_63 : decode cX7_layOrder 63 = .ok (.iload 6, 2) := by decide +kernel
theorem dX7_layOrder_65 : decode cX7_layOrder 65 = .ok (.iload 5, 2) := by decide +kernel
theorem dX7_layOrder_67 : decode cX7_layOrder 67 = .ok (.iconst 4, 1) := by decide +kernel
theorem dX7_layOrder_68 : decode cX7_layOrder 68 = .ok (.irem, 1) := by decide +kernel
theorem dX7_layOrder_69 : decode cX7_layOrder 69 = .ok (.iastore, 1) := by decide +kernel
theorem dX7_layOrder_70 : decode cX7_layOrder 70 = .ok (.iload 5, 2) := by decide +kernel
theorem dX7_layOrder_72 : decode cX7_layOrder 72 = .ok (.iconst 4, 1) := by decide +kernel
theorem dX7_layOrder_73 : decode cX7_layOrder 73 = .ok (.idiv, 1) := by decide +kernel
theorem dX7_layOrder_74 : decode cX7_layOrder 74 = .ok (.istore 5, 2) := by decide +kernel
theorem dX7_layOrder_76 : decode cX7_layOrder 76 = .ok (.iinc 6 (-1), 3) := by decide +kernel
theorem dX7_layOrder_79 : decode cX7_layOrder 79 = .ok (.goto (-25), 3) := by decide +kernel
theorem dX7_layOrder_82 : decode cX7_layOrder 82 = .ok (.iconst 1, 1) := by decide +kernel
theorem dX7_layOrder_83 : decode cX7_layOrder 83 = .ok (.istore 6, 2) := by decide +kernel
theorem dX7_layOrder_85 : decode cX7_layOrder 85 = .ok (.iconst 0, 1) := by decide +kernel
theorem dX7_layOrder_86 : decode cX7_layOrder 86 = .ok (.istore 7, 2) := by decide +kernel
theorem dX7_layOrder_88 : decode cX7_layOrder 88 = .ok (.iload 7, 2) := by decide +kernel
theorem dX7_layOrder_90 : decode cX7_layOrder 90 = .ok (.iconst 4, 1) := by decide +kernel
theorem dX7_layOrder_91 : decode cX7_layOrder 91 = .ok (.if_icmp .ge 61, 3) := by decide +kernel
theorem dX7_layOrder_94 : decode cX7_layOrder 94 = .ok (.iload 4, 2) := by decide +kernel
theorem dX7_layOrder_96 : decode cX7_layOrder 96 = .ok (.iload 7, 2) := by decide +kernel
theorem dX7_layOrder_98 : decode cX7_layOrder 98 = .ok (.iload_n 2, 1) := by decide +kernel
theorem dX7_layOrder_99 : decode cX7_layOrder 99 = .ok (.if_icmp .ge 15, 3) := by decide +kernel
theorem dX7_layOrder_102 : decode cX7_layOrder 102 = .ok (.iconst 1, 1) := by decide +kernel
theorem dX7_layOrder_103 : decode cX7_layOrder 103 = .ok (.aload_n 0, 1) := by decide +kernel
theorem dX7_layOrder_104 : decode cX7_layOrder 104 = .ok (.getfield 46, 3) := by decide +kernel
theorem dX7_layOrder_107 : decode cX7_layOrder 107 = .ok (.iload 7, 2) := by decide +kernel
theorem dX7_layOrder_109 : decode cX7_layOrder 109 = .ok (.iaload, 1) := by decide +kernel
theorem dX7_layOrder_110 : decode cX7_layOrder 110 = .ok (.ishl, 1) := by decide +kernel
theorem dX7_layOrder_111 : decode cX7_layOrder 111 = .ok (.goto 4, 3) := by decide +kernel
theorem dX7_layOrder_114 : decode cX7_layOrder 114 = .ok (.iconst 0, 1) := by decide +kernel
theorem dX7_layOrder_115 : decode cX7_layOrder 115 = .ok (.ior, 1) := by decide +kernel
theorem dX7_layOrder_116 : decode cX7_layOrder 116 = .ok (.istore 4, 2) := by decide +kernel
theorem dX7_layOrder_118 : decode cX7_layOrder 118 = .ok (.iload 6, 2) := by decide +kernel
theorem dX7_layOrder_120 : decode cX7_layOrder 120 = .ok (.ifCond .eq 23, 3) := by decide +kernel
theorem dX7_layOrder_123 : decode cX7_layOrder 123 = .ok (.iload 7, 2) := by decide +kernel
theorem dX7_layOrder_125 : decode cX7_layOrder 125 = .ok (.iload_n 2, 1) := by decide +kernel
theorem dX7_layOrder_126 : decode cX7_layOrder 126 = .ok (.if_icmp .lt 13, 3) := by decide +kernel
theorem dX7_layOrder_129 : decode cX7_layOrder 129 = .ok (.aload_n 0, 1) := by decide +kernel
theorem dX7_layOrder_130 : decode cX7_layOrder 130 = .ok (.getfield 46, 3) := by decide +kernel
theorem dX7_layOrder_133 : decode cX7_layOrder 133 = .ok (.iload 7, 2) := by decide +kernel
theorem dX7_layOrder_135 : decode cX7_layOrder 135 = .ok (.iaload, 1) := by decide +kernel
theorem dX7_layOrder_136 : decode cX7_layOrder 136 = .ok (.ifCond .ne 7, 3) := by decide +kernel
theorem dX7_layOrder_139 : decode cX7_layOrder 139 = .ok (.iconst 1, 1) := by decide +kernel
theorem dX7_layOrder_140 : decode cX7_layOrder 140 = .ok (.goto 4, 3) := by decide +kernel
theorem dX7_layOrder_143 : decode cX7_layOrder 143 = .ok (.iconst 0, 1) := by decide +kernel
theorem dX7_layOrder_144 : decode cX7_layOrder 144 = .ok (.istore 6, 2) := by decide +kernel
theorem dX7_layOrder_146 : decode cX7_layOrder 146 = .ok (.iinc 7 1, 3) := by decide +kernel
theorem dX7_layOrder_149 : decode cX7_layOrder 149 = .ok (.goto (-61), 3) := by decide +kernel
theorem dX7_layOrder_152 : decode cX7_layOrder 152 = .ok (.iload 4, 2) := by decide +kernel
theorem dX7_layOrder_154 : decode cX7_layOrder 154 = .ok (.iload_n 1, 1) := by decide +kernel
theorem dX7_layOrder_155 : decode cX7_layOrder 155 = .ok (.if_icmp .ne 16, 3) := by decide +kernel
theorem dX7_layOrder_158 : decode cX7_layOrder 158 = .ok (.iload 6, 2) := by decide +kernel
theorem dX7_layOrder_160 : decode cX7_layOrder 160 = .ok (.ifCond .eq 11, 3) := by decide +kernel
theorem dX7_layOrder_163 : decode cX7_layOrder 163 = .ok (.aload_n 0, 1) := by decide +kernel
theorem dX7_layOrder_164 : decode cX7_layOrder 164 = .ok (.iload_n 2, 1) := by decide +kernel
theorem dX7_layOrder_165 : decode cX7_layOrder 165 = .ok (.invokevirtual 202, 3) := by decide +kernel
theorem dX7_layOrder_168 : decode cX7_layOrder 168 = .ok (.goto 4, 3) := by decide +kernel
theorem dX7_layOrder_171 : decode cX7_layOrder 171 = .ok (.iconst (-1), 1) := by decide +kernel
theorem dX7_layOrder_172 : decode cX7_layOrder 172 = .ok (.istore 7, 2) := by decide +kernel
theorem dX7_layOrder_174 : decode cX7_layOrder 174 = .ok (.iload 7, 2) := by decide +kernel
theorem dX7_layOrder_176 : decode cX7_layOrder 176 = .ok (.ifCond .lt 39, 3) := by decide +kernel
theorem dX7_layOrder_179 : decode cX7_layOrder 179 = .ok (.aload_n 0, 1) := by decide +kernel
theorem dX7_layOrder_180 : decode cX7_layOrder 180 = .ok (.getfield 183, 3) := by decide +kernel
theorem dX7_layOrder_183 : decode cX7_layOrder 183 = .ok (.ifCond .lt 12, 3) := by decide +kernel
theorem dX7_layOrder_186 : decode cX7_layOrder 186 = .ok (.iload 7, 2) := by decide +kernel
theorem dX7_layOrder_188 : decode cX7_layOrder 188 = .ok (.aload_n 0, 1) := by decide +kernel
theorem dX7_layOrder_189 : decode cX7_layOrder 189 = .ok (.getfield 183, 3) := by decide +kernel
theorem dX7_layOrder_192 : decode cX7_layOrder 192 = .ok (.if_icmp .ge 23, 3) := by decide +kernel
theorem dX7_layOrder_195 : decode cX7_layOrder 195 = .ok (.aload_n 0, 1) := by decide +kernel
theorem dX7_layOrder_196 : decode cX7_layOrder 196 = .ok (.iload 7, 2) := by decide +kernel
theorem dX7_layOrder_198 : decode cX7_layOrder 198 = .ok (.putfield 183, 3) := by decide +kernel
theorem dX7_layOrder_201 : decode cX7_layOrder 201 = .ok (.aload_n 0, 1) := by decide +kernel
theorem dX7_layOrder_202 : decode cX7_layOrder 202 = .ok (.getfield 46, 3) := by decide +kernel
theorem dX7_layOrder_205 : decode cX7_layOrder 205 = .ok (.iconst 0, 1) := by decide +kernel
theorem dX7_layOrder_206 : decode cX7_layOrder 206 = .ok (.aload_n 0, 1) := by decide +kernel
theorem dX7_layOrder_207 : decode cX7_layOrder 207 = .ok (.getfield 49, 3) := by decide +kernel
theorem dX7_layOrder_210 : decode cX7_layOrder 210 = .ok (.iconst 0, 1) := by decide +kernel
theorem dX7_layOrder_211 : decode cX7_layOrder 211 = .ok (.iload_n 2, 1) := by decide +kernel
theorem dX7_layOrder_212 : decode cX7_layOrder 212 = .ok (.invokestatic 110, 3) := by decide +kernel
theorem dX7_layOrder_215 : decode cX7_layOrder 215 = .ok (.iinc 3 1, 3) := by decide +kernel
theorem dX7_layOrder_218 : decode cX7_layOrder 218 = .ok (.goto (-180), 3) := by decide +kernel
theorem dX7_layOrder_221 : decode cX7_layOrder 221 = .ok (.return_, 1) := by decide +kernel
theorem dX7_kicks_0 : decode cX7_kicks 0 = .ok (.aload_n 0, 1) := by decide +kernel
theorem dX7_kicks_1 : decode cX7_kicks 1 = .ok (.invokevirtual 205, 3) := by decide +kernel
theorem dX7_kicks_4 : decode cX7_kicks 4 = .ok (.iconst 0, 1) := by decide +kernel
theorem dX7_kicks_5 : decode cX7_kicks 5 = .ok (.istore_n 2, 1) := by decide +kernel
theorem dX7_kicks_6 : decode cX7_kicks 6 = .ok (.iconst 0, 1) := by decide +kernel
theorem dX7_kicks_7 : decode cX7_kicks 7 = .ok (.istore_n 3, 1) := by decide +kernel
theorem dX7_kicks_8 : decode cX7_kicks 8 = .ok (.iload_n 3, 1) := by decide +kernel
theorem dX7_kicks_9 : decode cX7_kicks 9 = .ok (.iload_n 1, 1) := by decide +kernel
theorem dX7_kicks_10 : decode cX7_kicks 10 = .ok (.if_icmp .ge 70, 3) := by decide +kernel
theorem dX7_kicks_13 : decode cX7_kicks 13 = .ok (.aload_n 0, 1) := by decide +kernel
theorem dX7_kicks_14 : decode cX7_kicks 14 = .ok (.aload_n 0, 1) := by decide +kernel
theorem dX7_kicks_15 : decode cX7_kicks 15 = .ok (.getfield 34, 3) := by decide +kernel
theorem dX7_kicks_18 : decode cX7_kicks 18 = .ok (.aload_n 0, 1) := by decide +kernel
theorem dX7_kicks_19 : decode cX7_kicks 19 = .ok (.getfield 46, 3) := by decide +kernel
theorem dX7_kicks_22 : decode cX7_kicks 22 = .ok (.iload_n 3, 1) := by decide +kernel
theorem dX7_kicks_23 : decode cX7_kicks 23 = .ok (.iaload, 1) := by decide +kernel
theorem dX7_kicks_24 : decode cX7_kicks 24 = .ok (.aload_n 0, 1) := by decide +kernel
theorem dX7_kicks_25 : decode cX7_kicks 25 = .ok (.getfield 34, 3) := by decide +kernel
theorem dX7_kicks_28 : decode cX7_kicks 28 = .ok (.bipush 29, 2) := by decide +kernel
theorem dX7_kicks_30 : decode cX7_kicks 30 = .ok (.iaload, 1) := by decide +kernel
theorem dX7_kicks_31 : decode cX7_kicks 31 = .ok (.ifCond .ne 7, 3) := by decide +kernel
theorem dX7_kicks_34 : decode cX7_kicks 34 = .ok (.iconst 2, 1) := by decide +kernel
theorem dX7_kicks_35 : decode cX7_kicks 35 = .ok (.goto 4, 3) := by decide +kernel
theorem dX7_kicks_38 : decode cX7_kicks 38 = .ok (.iconst 4, 1) := by decide +kernel
theorem dX7_kicks_39 : decode cX7_kicks 39 = .ok (.invokevirtual 208, 3) := by decide +kernel
theorem dX7_kicks_42 : decode cX7_kicks 42 = .ok (.istore 4, 2) := by decide +kernel
theorem dX7_kicks_44 : decode cX7_kicks 44 = .ok (.iload 4, 2) := by decide +kernel
theorem dX7_kicks_46 : decode cX7_kicks 46 = .ok (.bipush (-4), 2) := by decide +kernel
theorem dX7_kicks_48 : decode cX7_kicks 48 = .ok (.if_icmp .ne 5, 3) := by decide +kernel
theorem dX7_kicks_51 : decode cX7_kicks 51 = .ok (.iconst (-1), 1) := by decide +kernel
theorem dX7_kicks_52 : decode cX7_kicks 52 = .ok (.ireturn, 1) := by decide +kernel
theorem dX7_kicks_53 : decode cX7_kicks 53 = .ok (.aload_n 0, 1) := by decide +kernel
theorem dX7_kicks_54 : decode cX7_kicks 54 = .ok (.aload_n 0, 1) := by decide +kernel
theorem dX7_kicks_55 : decode cX7_kicks 55 = .ok (.getfield 34, 3) := by decide +kernel
theorem dX7_kicks_58 : decode cX7_kicks 58 = .ok (.aload_n 0, 1) := by decide +kernel
theorem dX7_kicks_59 : decode cX7_kicks 59 = .ok (.getfield 46, 3) := by decide +kernel
theorem dX7_kicks_62 : decode cX7_kicks 62 = .ok (.iload_n 3, 1) := by decide +kernel
theorem dX7_kicks_63 : decode cX7_kicks 63 = .ok (.iaload, 1) := by decide +kernel
theorem dX7_kicks_64 : decode cX7_kicks 64 = .ok (.iload 4, 2) := by decide +kernel
theorem dX7_kicks_66 : decode cX7_kicks 66 = .ok (.invokevirtual 168, 3) := by decide +kernel
theorem dX7_kicks_69 : decode cX7_kicks 69 = .ok (.iload_n 2, 1) := by decide +kernel
theorem dX7_kicks_70 : decode cX7_kicks 70 = .ok (.iload 4, 2) := by decide +kernel
theorem dX7_kicks_72 : decode cX7_kicks 72 = .ok (.iadd, 1) := by decide +kernel
theorem dX7_kicks_73 : decode cX7_kicks 73 = .ok (.istore_n 2, 1) := by decide +kernel
theorem dX7_kicks_74 : decode cX7_kicks 74 = .ok (.iinc 3 1, 3) := by decide +kernel
theorem dX7_kicks_77 : decode cX7_kicks 77 = .ok (.goto (-69), 3) := by decide +kernel
theorem dX7_kicks_80 : decode cX7_kicks 80 = .ok (.iload_n 2, 1) := by decide +kernel
theorem dX7_kicks_81 : decode cX7_kicks 81 = .ok (.ireturn, 1) := by decide +kernel
theorem dX7_order_0 : decode cX7_order 0 = .ok (.iload_n 1, 1) := by decide +kernel
theorem dX7_order_1 : decode cX7_order 1 = .ok (.iconst (-1), 1) := by decide +kernel
theorem dX7_order_2 : decode cX7_order 2 = .ok (.iconst 3, 1) := by decide +kernel
theorem dX7_order_3 : decode cX7_order 3 = .ok (.invokestatic 63, 3) := by decide +kernel
theorem dX7_order_6 : decode cX7_order 6 = .ok (.ifCond .ne 5, 3) := by decide +kernel
theorem dX7_order_9 : decode cX7_order 9 = .ok (.iconst (-1), 1) := by decide +kernel
theorem dX7_order_10 : decode cX7_order 10 = .ok (.ireturn, 1) := by decide +kernel
theorem dX7_order_11 : decode cX7_order 11 = .ok (.aload_n 0, 1) := by decide +kernel
theorem dX7_order_12 : decode cX7_order 12 = .ok (.invokevirtual 211, 3) := by decide +kernel
theorem dX7_order_15 : decode cX7_order 15 = .ok (.aload_n 0, 1) := by decide +kernel
theorem dX7_order_16 : decode cX7_order 16 = .ok (.getfield 183, 3) := by decide +kernel
theorem dX7_order_19 : decode cX7_order 19 = .ok (.ifCond .ge 6, 3) := by decide +kernel
theorem dX7_order_22 : decode cX7_order 22 = .ok (.bipush (-4), 2) := by decide +kernel
theorem dX7_order_24 : decode cX7_order 24 = .ok (.ireturn, 1) := by decide +kernel
theorem dX7_order_25 : decode cX7_order 25 = .ok (.iload_n 1, 1) := by decide +kernel
theorem dX7_order_26 : decode cX7_order 26 = .ok (.iconst (-1), 1) := by decide +kernel
theorem dX7_order_27 : decode cX7_order 27 = .ok (.if_icmp .ne 10, 3) := by decide +kernel
theorem dX7_order_30 : decode cX7_order 30 = .ok (.aload_n 0, 1) := by decide +kernel
theorem dX7_order_31 : decode cX7_order 31 = .ok (.getfield 183, 3) := by decide +kernel
theorem dX7_order_34 : decode cX7_order 34 = .ok (.goto 22, 3) := by decide +kernel
theorem dX7_order_37 : decode cX7_order 37 = .ok (.iload_n 1, 1) := by decide +kernel
theorem dX7_order_38 : decode cX7_order 38 = .ok (.aload_n 0, 1) := by decide +kernel
theorem dX7_order_39 : decode cX7_order 39 = .ok (.getfield 193, 3) := by decide +kernel
theorem dX7_order_42 : decode cX7_order 42 = .ok (.if_icmp .ge 12, 3) := by decide +kernel
theorem dX7_order_45 : decode cX7_order 45 = .ok (.aload_n 0, 1) := by decide +kernel
theorem dX7_order_46 : decode cX7_order 46 = .ok (.getfield 49, 3) := by decide +kernel
theorem dX7_order_49 : decode cX7_order 49 = .ok (.iload_n 1, 1) := by decide +kernel
theorem dX7_order_50 : decode cX7_order 50 = .ok (.iaload, 1) := by decide +kernel
theorem dX7_order_51 : decode cX7_order 51 = .ok (.goto 5, 3) := by decide +kernel
theorem dX7_order_54 : decode cX7_order 54 = .ok (.bipush (-4), 2) := by decide +kernel
theorem dX7_order_56 : decode cX7_order 56 = .ok (.ireturn, 1) := by decide +kernel
theorem dX7_kickFor_0 : decode cX7_kickFor 0 = .ok (.iload_n 1, 1) := by decide +kernel
theorem dX7_kickFor_1 : decode cX7_kickFor 1 = .ok (.iconst 0, 1) := by decide +kernel
theorem dX7_kickFor_2 : decode cX7_kickFor 2 = .ok (.iconst 3, 1) := by decide +kernel
theorem dX7_kickFor_3 : decode cX7_kickFor 3 = .ok (.invokestatic 63, 3) := by decide +kernel
theorem dX7_kickFor_6 : decode cX7_kickFor 6 = .ok (.ifCond .eq 13, 3) := by decide +kernel
theorem dX7_kickFor_9 : decode cX7_kickFor 9 = .ok (.iload_n 2, 1) := by decide +kernel
theorem dX7_kickFor_10 : decode cX7_kickFor 10 = .ok (.iconst 0, 1) := by decide +kernel
theorem dX7_kickFor_11 : decode cX7_kickFor 11 = .ok (.bipush 30, 2) := by decide +kernel
theorem dX7_kickFor_13 : decode cX7_kickFor 13 = .ok (.invokestatic 63, 3) := by decide +kernel
theorem dX7_kickFor_16 : decode cX7_kickFor 16 = .ok (.ifCond .ne 5, 3) := by decide +kernel
theorem dX7_kickFor_19 : decode cX7_kickFor 19 = .ok (.iconst (-1), 1) := by decide +kernel
theorem dX7_kickFor_20 : decode cX7_kickFor 20 = .ok (.ireturn, 1) := by decide +kernel
theorem dX7_kickFor_21 : decode cX7_kickFor 21 = .ok (.aload_n 0, 1) := by decide +kernel
theorem dX7_kickFor_22 : decode cX7_kickFor 22 = .ok (.getfield 31, 3) := by decide +kernel
theorem dX7_kickFor_25 : decode cX7_kickFor 25 = .ok (.iload_n 1, 1) := by decide +kernel
theorem dX7_kickFor_26 : decode cX7_kickFor 26 = .ok (.invokestatic 165, 3) := by decide +kernel
theorem dX7_kickFor_29 : decode cX7_kickFor 29 = .ok (.ifCond .eq 16, 3) := by decide +kernel
theorem dX7_kickFor_32 : decode cX7_kickFor 32 = .ok (.aload_n 0, 1) := by decide +kernel
theorem dX7_kickFor_33 : decode cX7_kickFor 33 = .ok (.aload_n 0, 1) := by decide +kernel
theorem dX7_kickFor_34 : decode cX7_kickFor 34 = .ok (.getfield 31, 3) := by decide +kernel
theorem dX7_kickFor_37 : decode cX7_kickFor 37 = .ok (.iload_n 1, 1) := by decide +kernel
theorem dX7_kickFor_38 : decode cX7_kickFor 38 = .ok (.iload_n 2, 1) := by decide +kernel
theorem dX7_kickFor_39 : decode cX7_kickFor 39 = .ok (.invokevirtual 208, 3) := by decide +kernel
theorem dX7_kickFor_42 : decode cX7_kickFor 42 = .ok (.goto 5, 3) := by decide +kernel
theorem dX7_kickFor_45 : decode cX7_kickFor 45 = .ok (.bipush (-4), 2) := by decide +kernel
theorem dX7_kickFor_47 : decode cX7_kickFor 47 = .ok (.ireturn, 1) := by decide +kernel
theorem dX7_wavesAt_0 : decode cX7_wavesAt 0 = .ok (.aload_n 0, 1) := by decide +kernel
theorem dX7_wavesAt_1 : decode cX7_wavesAt 1 = .ok (.invokevirtual 205, 3) := by decide +kernel
theorem dX7_wavesAt_4 : decode cX7_wavesAt 4 = .ok (.iconst 0, 1) := by decide +kernel
theorem dX7_wavesAt_5 : decode cX7_wavesAt 5 = .ok (.istore_n 2, 1) := by decide +kernel
theorem dX7_wavesAt_6 : decode cX7_wavesAt 6 = .ok (.iload_n 2, 1) := by decide +kernel
theorem dX7_wavesAt_7 : decode cX7_wavesAt 7 = .ok (.bipush 60, 2) := by decide +kernel
theorem dX7_wavesAt_9 : decode cX7_wavesAt 9 = .ok (.if_icmp .gt 32, 3) := by decide +kernel
theorem dX7_wavesAt_12 : decode cX7_wavesAt 12 = .ok (.aload_n 0, 1) := by decide +kernel
theorem dX7_wavesAt_13 : decode cX7_wavesAt 13 = .ok (.getfield 34, 3) := by decide +kernel
theorem dX7_wavesAt_16 : decode cX7_wavesAt 16 = .ok (.bipush 25, 2) := by decide +kernel
theorem dX7_wavesAt_18 : decode cX7_wavesAt 18 = .ok (.iload_n 1, 1) := by decide +kernel
theorem dX7_wavesAt_19 : decode cX7_wavesAt 19 = .ok (.iadd, 1) := by decide +kernel
theorem dX7_wavesAt_20 : decode cX7_wavesAt 20 = .ok (.iaload, 1) := by decide +kernel
theorem dX7_wavesAt_21 : decode cX7_wavesAt 21 = .ok (.iconst 2, 1) := by decide +kernel
theorem dX7_wavesAt_22 : decode cX7_wavesAt 22 = .ok (.if_icmp .ge 5, 3) := by decide +kernel
theorem dX7_wavesAt_25 : decode cX7_wavesAt 25 = .ok (.iload_n 2, 1) := by decide +kernel
theorem dX7_wavesAt_26 : decode cX7_wavesAt 26 = .ok (.ireturn, 1) := by decide +kernel
theorem dX7_wavesAt_27 : decode cX7_wavesAt 27 = .ok (.aload_n 0, 1) := by decide +kernel
theorem dX7_wavesAt_28 : decode cX7_wavesAt 28 = .ok (.aload_n 0, 1) := by decide +kernel
theorem dX7_wavesAt_29 : decode cX7_wavesAt 29 = .ok (.getfield 34, 3) := by decide +kernel
theorem dX7_wavesAt_32 : decode cX7_wavesAt 32 = .ok (.invokevirtual 176, 3) := by decide +kernel
theorem dX7_wavesAt_35 : decode cX7_wavesAt 35 = .ok (.iinc 2 1, 3) := by decide +kernel
theorem dX7_wavesAt_38 : decode cX7_wavesAt 38 = .ok (.goto (-32), 3) := by decide +kernel
theorem dX7_wavesAt_41 : decode cX7_wavesAt 41 = .ok (.bipush 99, 2) := by decide +kernel
theorem dX7_wavesAt_43 : decode cX7_wavesAt 43 = .ok (.ireturn, 1) := by decide +kernel
theorem dX7_waves_0 : decode cX7_waves 0 = .ok (.bipush 99, 2) := by decide +kernel
theorem dX7_waves_2 : decode cX7_waves 2 = .ok (.istore_n 1, 1) := by decide +kernel
theorem dX7_waves_3 : decode cX7_waves 3 = .ok (.iconst 0, 1) := by decide +kernel
theorem dX7_waves_4 : decode cX7_waves 4 = .ok (.istore_n 2, 1) := by decide +kernel
theorem dX7_waves_5 : decode cX7_waves 5 = .ok (.iload_n 2, 1) := by decide +kernel
theorem dX7_waves_6 : decode cX7_waves 6 = .ok (.iconst 4, 1) := by decide +kernel
theorem dX7_waves_7 : decode cX7_waves 7 = .ok (.if_icmp .ge 42, 3) := by decide +kernel
theorem dX7_waves_10 : decode cX7_waves 10 = .ok (.aload_n 0, 1) := by decide +kernel
theorem dX7_waves_11 : decode cX7_waves 11 = .ok (.getfield 31, 3) := by decide +kernel
theorem dX7_waves_14 : decode cX7_waves 14 = .ok (.iload_n 2, 1) := by decide +kernel
theorem dX7_waves_15 : decode cX7_waves 15 = .ok (.invokestatic 130, 3) := by decide +kernel
theorem dX7_waves_18 : decode cX7_waves 18 = .ok (.ifCond .eq 11, 3) := by decide +kernel
theorem dX7_waves_21 : decode cX7_waves 21 = .ok (.aload_n 0, 1) := by decide +kernel
theorem dX7_waves_22 : decode cX7_waves 22 = .ok (.iload_n 2, 1) := by decide +kernel
theorem dX7_waves_23 : decode cX7_waves 23 = .ok (.invokevirtual 214, 3) := by decide +kernel
theorem dX7_waves_26 : decode cX7_waves 26 = .ok (.goto 5, 3) := by decide +kernel
theorem dX7_waves_29 : decode cX7_waves 29 = .ok (.bipush 99, 2) := by decide +kernel
theorem dX7_waves_31 : decode cX7_waves 31 = .ok (.istore_n 3, 1) := by decide +kernel
theorem dX7_waves_32 : decode cX7_waves 32 = .ok (.iload_n 3, 1) := by decide +kernel
theorem dX7_waves_33 : decode cX7_waves 33 = .ok (.iload_n 1, 1) := by decide +kernel
theorem dX7_waves_34 : decode cX7_waves 34 = .ok (.if_icmp .ge 7, 3) := by decide +kernel
theorem dX7_waves_37 : decode cX7_waves 37 = .ok (.iload_n 3, 1) := by decide +kernel
theorem dX7_waves_38 : decode cX7_waves 38 = .ok (.goto 4, 3) := by decide +kernel
theorem dX7_waves_41 : decode cX7_waves 41 = .ok (.iload_n 1, 1) := by decide +kernel
theorem dX7_waves_42 : decode cX7_waves 42 = .ok (.istore_n 1, 1) := by decide +kernel
theorem dX7_waves_43 : decode cX7_waves 43 = .ok (.iinc 2 1, 3) := by decide +kernel
theorem dX7_waves_46 : decode cX7_waves 46 = .ok (.goto (-41), 3) := by decide +kernel
theorem dX7_waves_49 : decode cX7_waves 49 = .ok (.iload_n 1, 1) := by decide +kernel
theorem dX7_waves_50 : decode cX7_waves 50 = .ok (.bipush 99, 2) := by decide +kernel
theorem dX7_waves_52 : decode cX7_waves 52 = .ok (.if_icmp .ne 8, 3) := by decide +kernel
theorem dX7_waves_55 : decode cX7_waves 55 = .ok (.bipush (-4), 2) := by decide +kernel
theorem dX7_waves_57 : decode cX7_waves 57 = .ok (.goto 4, 3) := by decide +kernel
theorem dX7_waves_60 : decode cX7_waves 60 = .ok (.iload_n 1, 1) := by decide +kernel
theorem dX7_waves_61 : decode cX7_waves 61 = .ok (.ireturn, 1) := by decide +kernel
theorem dX7_longest_0 : decode cX7_longest 0 = .ok (.bipush (-4), 2) := by decide +kernel
theorem dX7_longest_2 : decode cX7_longest 2 = .ok (.istore_n 1, 1) := by decide +kernel
theorem dX7_longest_3 : decode cX7_longest 3 = .ok (.iconst (-1), 1) := by decide +kernel
theorem dX7_longest_4 : decode cX7_longest 4 = .ok (.istore_n 2, 1) := by decide +kernel
theorem dX7_longest_5 : decode cX7_longest 5 = .ok (.iconst 0, 1) := by decide +kernel
theorem dX7_longest_6 : decode cX7_longest 6 = .ok (.istore_n 3, 1) := by decide +kernel
theorem dX7_longest_7 : decode cX7_longest 7 = .ok (.iload_n 3, 1) := by decide +kernel
theorem dX7_longest_8 : decode cX7_longest 8 = .ok (.iconst 4, 1) := by decide +kernel
theorem dX7_longest_9 : decode cX7_longest 9 = .ok (.if_icmp .ge 56, 3) := by decide +kernel
theorem dX7_longest_12 : decode cX7_longest 12 = .ok (.aload_n 0, 1) := by decide +kernel
theorem dX7_longest_13 : decode cX7_longest 13 = .ok (.getfield 31, 3) := by decide +kernel
theorem dX7_longest_16 : decode cX7_longest 16 = .ok (.iload_n 3, 1) := by decide +kernel
theorem dX7_longest_17 : decode cX7_longest 17 = .ok (.invokestatic 130, 3) := by decide +kernel
theorem dX7_longest_20 : decode cX7_longest 20 = .ok (.ifCond .eq 11, 3) := by decide +kernel
theorem dX7_longest_23 : decode cX7_longest 23 = .ok (.aload_n 0, 1) := by decide +kernel
theorem dX7_longest_24 : decode cX7_longest 24 = .ok (.iload_n 3, 1) := by decide +kernel
theorem dX7_longest_25 : decode cX7_longest 25 = .ok (.invokevirtual 214, 3) := by decide +kernel
theorem dX7_longest_28 : decode cX7_longest 28 = .ok (.goto 4, 3) := by decide +kernel
theorem dX7_longest_31 : decode cX7_longest 31 = .ok (.iconst (-1), 1) := by decide +kernel
theorem dX7_longest_32 : decode cX7_longest 32 = .ok (.istore 4, 2) := by decide +kernel
theorem dX7_longest_34 : decode cX7_longest 34 = .ok (.iload 4, 2) := by decide +kernel
theorem dX7_longest_36 : decode cX7_longest 36 = .ok (.iload_n 2, 1) := by decide +kernel
theorem dX7_longest_37 : decode cX7_longest 37 = .ok (.if_icmp .le 7, 3) := by decide +kernel
theorem dX7_longest_40 : decode cX7_longest 40 = .ok (.iload_n 3, 1) := by decide +kernel
theorem dX7_longest_41 : decode cX7_longest 41 = .ok (.goto 4, 3) := by decide +kernel
theorem dX7_longest_44 : decode cX7_longest 44 = .ok (.iload_n 1, 1) := by decide +kernel
theorem dX7_longest_45 : decode cX7_longest 45 = .ok (.istore_n 1, 1) := by decide +kernel
theorem dX7_longest_46 : decode cX7_longest 46 = .ok (.iload 4, 2) := by decide +kernel
theorem dX7_longest_48 : decode cX7_longest 48 = .ok (.iload_n 2, 1) := by decide +kernel
theorem dX7_longest_49 : decode cX7_longest 49 = .ok (.if_icmp .le 8, 3) := by decide +kernel
theorem dX7_longest_52 : decode cX7_longest 52 = .ok (.iload 4, 2) := by decide +kernel
theorem dX7_longest_54 : decode cX7_longest 54 = .ok (.goto 4, 3) := by decide +kernel
theorem dX7_longest_57 : decode cX7_longest 57 = .ok (.iload_n 2, 1) := by decide +kernel
theorem dX7_longest_58 : decode cX7_longest 58 = .ok (.istore_n 2, 1) := by decide +kernel
theorem dX7_longest_59 : decode cX7_longest 59 = .ok (.iinc 3 1, 3) := by decide +kernel
theorem dX7_longest_62 : decode cX7_longest 62 = .ok (.goto (-55), 3) := by decide +kernel
theorem dX7_longest_65 : decode cX7_longest 65 = .ok (.iload_n 1, 1) := by decide +kernel
theorem dX7_longest_66 : decode cX7_longest 66 = .ok (.ireturn, 1) := by decide +kernel
theorem dX7_seen_0 : decode cX7_seen 0 = .ok (.iload_n 1, 1) := by decide +kernel
theorem dX7_seen_1 : decode cX7_seen 1 = .ok (.iconst 0, 1) := by decide +kernel
theorem dX7_seen_2 : decode cX7_seen 2 = .ok (.bipush 20, 2) := by decide +kernel
theorem dX7_seen_4 : decode cX7_seen 4 = .ok (.invokestatic 63, 3) := by decide +kernel
theorem dX7_seen_7 : decode cX7_seen 7 = .ok (.ifCond .eq 13, 3) := by decide +kernel
theorem dX7_seen_10 : decode cX7_seen 10 = .ok (.iload_n 2, 1) := by decide +kernel
theorem dX7_seen_11 : decode cX7_seen 11 = .ok (.iconst 0, 1) := by decide +kernel
theorem dX7_seen_12 : decode cX7_seen 12 = .ok (.bipush 40, 2) := by decide +kernel
theorem dX7_seen_14 : decode cX7_seen 14 = .ok (.invokestatic 63, 3) := by decide +kernel
theorem dX7_seen_17 : decode cX7_seen 17 = .ok (.ifCond .ne 5, 3) := by decide +kernel
theorem dX7_seen_20 : decode cX7_seen 20 = .ok (.iconst (-1), 1) := by decide +kernel
theorem dX7_seen_21 : decode cX7_seen 21 = .ok (.ireturn, 1) := by decide +kernel
theorem dX7_seen_22 : decode cX7_seen 22 = .ok (.aload_n 0, 1) := by decide +kernel
theorem dX7_seen_23 : decode cX7_seen 23 = .ok (.getfield 114, 3) := by decide +kernel
theorem dX7_seen_26 : decode cX7_seen 26 = .ok (.bipush 6, 2) := by decide +kernel
theorem dX7_seen_28 : decode cX7_seen 28 = .ok (.if_icmp .ne 6, 3) := by decide +kernel
theorem dX7_seen_31 : decode cX7_seen 31 = .ok (.bipush (-3), 2) := by decide +kernel
theorem dX7_seen_33 : decode cX7_seen 33 = .ok (.ireturn, 1) := by decide +kernel
theorem dX7_seen_34 : decode cX7_seen 34 = .ok (.aload_n 0, 1) := by decide +kernel
theorem dX7_seen_35 : decode cX7_seen 35 = .ok (.getfield 43, 3) := by decide +kernel
theorem dX7_seen_38 : decode cX7_seen 38 = .ok (.iconst 2, 1) := by decide +kernel
theorem dX7_seen_39 : decode cX7_seen 39 = .ok (.aload_n 0, 1) := by decide +kernel
theorem dX7_seen_40 : decode cX7_seen 40 = .ok (.getfield 114, 3) := by decide +kernel
theorem dX7_seen_43 : decode cX7_seen 43 = .ok (.imul, 1) := by decide +kernel
theorem dX7_seen_44 : decode cX7_seen 44 = .ok (.iload_n 1, 1) := by decide +kernel
theorem dX7_seen_45 : decode cX7_seen 45 = .ok (.iastore, 1) := by decide +kernel
theorem dX7_seen_46 : decode cX7_seen 46 = .ok (.aload_n 0, 1) := by decide +kernel
theorem dX7_seen_47 : decode cX7_seen 47 = .ok (.getfield 43, 3) := by decide +kernel
theorem dX7_seen_50 : decode cX7_seen 50 = .ok (.iconst 2, 1) := by decide +kernel
theorem dX7_seen_51 : decode cX7_seen 51 = .ok (.aload_n 0, 1) := by decide +kernel
theorem dX7_seen_52 : decode cX7_seen 52 = .ok (.getfield 114, 3) := by decide +kernel
theorem dX7_seen_55 : decode cX7_seen 55 = .ok (.imul, 1) := by decide +kernel
theorem dX7_seen_56 : decode cX7_seen 56 = .ok (.iconst 1, 1) := by decide +kernel
theorem dX7_seen_57 : decode cX7_seen 57 = .ok (.iadd, 1) := by decide +kernel
theorem dX7_seen_58 : decode cX7_seen 58 = .ok (.iload_n 2, 1) := by decide +kernel
theorem dX7_seen_59 : decode cX7_seen 59 = .ok (.iastore, 1) := by decide +kernel
theorem dX7_seen_60 : decode cX7_seen 60 = .ok (.aload_n 0, 1) := by decide +kernel
theorem dX7_seen_61 : decode cX7_seen 61 = .ok (.dup, 1) := by decide +kernel
theorem dX7_seen_62 : decode cX7_seen 62 = .ok (.getfield 114, 3) := by decide +kernel
theorem dX7_seen_65 : decode cX7_seen 65 = .ok (.iconst 1, 1) := by decide +kernel
theorem dX7_seen_66 : decode cX7_seen 66 = .ok (.iadd, 1) := by decide +kernel
theorem dX7_seen_67 : decode cX7_seen 67 = .ok (.putfield 114, 3) := by decide +kernel
theorem dX7_seen_70 : decode cX7_seen 70 = .ok (.aload_n 0, 1) := by decide +kernel
theorem dX7_seen_71 : decode cX7_seen 71 = .ok (.getfield 114, 3) := by decide +kernel
theorem dX7_seen_74 : decode cX7_seen 74 = .ok (.ireturn, 1) := by decide +kernel
theorem dX7_forget_0 : decode cX7_forget 0 = .ok (.aload_n 0, 1) := by decide +kernel
theorem dX7_forget_1 : decode cX7_forget 1 = .ok (.getfield 114, 3) := by decide +kernel
theorem dX7_forget_4 : decode cX7_forget 4 = .ok (.istore_n 1, 1) := by decide +kernel
theorem dX7_forget_5 : decode cX7_forget 5 = .ok (.aload_n 0, 1) := by decide +kernel
theorem dX7_forget_6 : decode cX7_forget 6 = .ok (.iconst 0, 1) := by decide +kernel
theorem dX7_forget_7 : decode cX7_forget 7 = .ok (.putfield 114, 3) := by decide +kernel
theorem dX7_forget_10 : decode cX7_forget 10 = .ok (.iload_n 1, 1) := by decide +kernel
theorem dX7_forget_11 : decode cX7_forget 11 = .ok (.ireturn, 1) := by decide +kernel
theorem dX7_isSo_0 : decode cX7_isSo 0 = .ok (.iconst 1, 1) := by decide +kernel
theorem dX7_isSo_1 : decode cX7_isSo 1 = .ok (.istore_n 3, 1) := by decide +kernel
theorem dX7_isSo_2 : decode cX7_isSo 2 = .ok (.iconst 0, 1) := by decide +kernel
theorem dX7_isSo_3 : decode cX7_isSo 3 = .ok (.istore 4, 2) := by decide +kernel
theorem dX7_isSo_5 : decode cX7_isSo 5 = .ok (.iload 4, 2) := by decide +kernel
theorem dX7_isSo_7 : decode cX7_isSo 7 = .ok (.aload_n 0, 1) := by decide +kernel
theorem dX7_isSo_8 : decode cX7_isSo 8 = .ok (.getfield 114, 3) := by decide +kernel
theorem dX7_isSo_11 : decode cX7_isSo 11 = .ok (.if_icmp .ge 68, 3) := by decide +kernel
theorem dX7_isSo_14 : decode cX7_isSo 14 = .ok (.aload_n 0, 1) := by decide +kernel
theorem dX7_isSo_15 : decode cX7_isSo 15 = .ok (.getfield 43, 3) := by decide +kernel
theorem dX7_isSo_18 : decode cX7_isSo 18 = .ok (.iconst 2, 1) := by decide +kernel
theorem dX7_isSo_19 : decode cX7_isSo 19 = .ok (.iload 4, 2) := by decide +kernel
theorem dX7_isSo_21 : decode cX7_isSo 21 = .ok (.imul, 1) := by decide +kernel
theorem dX7_isSo_22 : decode cX7_isSo 22 = .ok (.iaload, 1) := by decide +kernel
theorem dX7_isSo_23 : decode cX7_isSo 23 = .ok (.iconst 1, 1) := by decide +kernel
theorem dX7_isSo_24 : decode cX7_isSo 24 = .ok (.iadd, 1) := by decide +kernel
theorem dX7_isSo_25 : decode cX7_isSo 25 = .ok (.iload_n 1, 1) := by decide +kernel
theorem dX7_isSo_26 : decode cX7_isSo 26 = .ok (.iload_n 2, 1) := by decide +kernel
theorem dX7_isSo_27 : decode cX7_isSo 27 = .ok (.iconst 1, 1) := by decide +kernel
theorem dX7_isSo_28 : decode cX7_isSo 28 = .ok (.invokestatic 154, 3) := by decide +kernel
theorem dX7_isSo_31 : decode cX7_isSo 31 = .ok (.isub, 1) := by decide +kernel
theorem dX7_isSo_32 : decode cX7_isSo 32 = .ok (.istore 5, 2) := by decide +kernel
theorem dX7_isSo_34 : decode cX7_isSo 34 = .ok (.iload 5, 2) := by decide +kernel
theorem dX7_isSo_36 : decode cX7_isSo 36 = .ok (.ifCond .ge 7, 3) := by decide +kernel
theorem dX7_isSo_39 : decode cX7_isSo 39 = .ok (.iconst 0, 1) := by decide +kernel
theorem dX7_isSo_40 : decode cX7_isSo 40 = .ok (.goto 5, 3) := by decide +kernel
theorem dX7_isSo_43 : decode cX7_isSo 43 = .ok (.iload 5, 2) := by decide +kernel
theorem dX7_isSo_45 : decode cX7_isSo 45 = .ok (.istore 5, 2) := by decide +kernel
theorem dX7_isSo_47 : decode cX7_isSo 47 = .ok (.iload_n 3, 1) := by decide +kernel
theorem dX7_isSo_48 : decode cX7_isSo 48 = .ok (.ifCond .eq 23, 3) := by decide +kernel
theorem dX7_isSo_51 : decode cX7_isSo 51 = .ok (.iload 5, 2) := by decide +kernel
theorem dX7_isSo_53 : decode cX7_isSo 53 = .ok (.aload_n 0, 1) := by decide +kernel
theorem dX7_isSo_54 : decode cX7_isSo 54 = .ok (.getfield 43, 3) := by decide +kernel
theorem dX7_isSo_57 : decode cX7_isSo 57 = .ok (.iconst 2, 1) := by decide +kernel
theorem dX7_isSo_58 : decode cX7_isSo 58 = .ok (.iload 4, 2) := by decide +kernel
theorem dX7_isSo_60 : decode cX7_isSo 60 = .ok (.imul, 1) := by decide +kernel
theorem dX7_isSo_61 : decode cX7_isSo 61 = .ok (.iconst 1, 1) := by decide +kernel
theorem dX7_isSo_62 : decode cX7_isSo 62 = .ok (.iadd, 1) := by decide +kernel
theorem dX7_isSo_63 : decode cX7_isSo 63 = .ok (.iaload, 1) := by decide +kernel
theorem dX7_isSo_64 : decode cX7_isSo 64 = .ok (.if_icmp .ne 7, 3) := by decide +kernel
theorem dX7_isSo_67 : decode cX7_isSo 67 = .ok (.iconst 1, 1) := by decide +kernel
theorem dX7_isSo_68 : decode cX7_isSo 68 = .ok (.goto 4, 3) := by decide +kernel
theorem dX7_isSo_71 : decode cX7_isSo 71 = .ok (.iconst 0, 1) := by decide +kernel
theorem dX7_isSo_72 : decode cX7_isSo 72 = .ok (.istore_n 3, 1) := by decide +kernel
theorem dX7_isSo_73 : decode cX7_isSo 73 = .ok (.iinc 4 1, 3) := by decide +kernel
theorem dX7_isSo_76 : decode cX7_isSo 76 = .ok (.goto (-71), 3) := by decide +kernel
theorem dX7_isSo_79 : decode cX7_isSo 79 = .ok (.iload_n 3, 1) := by decide +kernel
theorem dX7_isSo_80 : decode cX7_isSo 80 = .ok (.ireturn, 1) := by decide +kernel
theorem dX7_may_0 : decode cX7_may 0 = .ok (.iload_n 1, 1) := by decide +kernel
theorem dX7_may_1 : decode cX7_may 1 = .ok (.iconst 0, 1) := by decide +kernel
theorem dX7_may_2 : decode cX7_may 2 = .ok (.iconst 1, 1) := by decide +kernel
theorem dX7_may_3 : decode cX7_may 3 = .ok (.invokestatic 63, 3) := by decide +kernel
theorem dX7_may_6 : decode cX7_may 6 = .ok (.ifCond .ne 5, 3) := by decide +kernel
theorem dX7_may_9 : decode cX7_may 9 = .ok (.iconst (-1), 1) := by decide +kernel
theorem dX7_may_10 : decode cX7_may 10 = .ok (.ireturn, 1) := by decide +kernel
theorem dX7_may_11 : decode cX7_may 11 = .ok (.iconst 0, 1) := by decide +kernel
theorem dX7_may_12 : decode cX7_may 12 = .ok (.istore_n 2, 1) := by decide +kernel
theorem dX7_may_13 : decode cX7_may 13 = .ok (.iload_n 1, 1) := by decide +kernel
theorem dX7_may_14 : decode cX7_may 14 = .ok (.istore_n 3, 1) := by decide +kernel
theorem dX7_may_15 : decode cX7_may 15 = .ok (.iload_n 3, 1) := by decide +kernel
theorem dX7_may_16 : decode cX7_may 16 = .ok (.iload_n 1, 1) := by decide +kernel
theorem dX7_may_17 : decode cX7_may 17 = .ok (.ifCond .ne 7, 3) := by decide +kernel
theorem dX7_may_20 : decode cX7_may 20 = .ok (.iconst 4, 1) := by decide +kernel
theorem dX7_may_21 : decode cX7_may 21 = .ok (.goto 5, 3) := by decide +kernel
theorem dX7_may_24 : decode cX7_may 24 = .ok (.bipush 10, 2) := by decide +kernel
theorem dX7_may_26 : decode cX7_may 26 = .ok (.if_icmp .ge 55, 3) := by decide +kernel
theorem dX7_may_29 : decode cX7_may 29 = .ok (.iload_n 1, 1) := by decide +kernel
theorem dX7_may_30 : decode cX7_may 30 = .ok (.ifCond .ne 17, 3) := by decide +kernel
theorem dX7_may_33 : decode cX7_may 33 = .ok (.aload_n 0, 1) := by decide +kernel
theorem dX7_may_34 : decode cX7_may 34 = .ok (.iload_n 3, 1) := by decide +kernel
theorem dX7_may_35 : decode cX7_may 35 = .ok (.aload_n 0, 1) := by decide +kernel
theorem dX7_may_36 : decode cX7_may 36 = .ok (.getfield 28, 3) := by decide +kernel
theorem dX7_may_39 : decode cX7_may 39 = .ok (.iconst 5, 1) := by decide +kernel
theorem dX7_may_40 : decode cX7_may 40 = .ok (.iaload, 1) := by decide +kernel
theorem dX7_may_41 : decode cX7_may 41 = .ok (.invokevirtual 217, 3) := by decide +kernel
theorem dX7_may_44 : decode cX7_may 44 = .ok (.goto 14, 3) := by decide +kernel
theorem dX7_may_47 : decode cX7_may 47 = .ok (.aload_n 0, 1) := by decide +kernel
theorem dX7_may_48 : decode cX7_may 48 = .ok (.aload_n 0, 1) := by decide +kernel
theorem dX7_may_49 : decode cX7_may 49 = .ok (.getfield 28, 3) := by decide +kernel
theorem dX7_may_52 : decode cX7_may 52 = .ok (.iconst 4, 1) := by decide +kernel
theorem dX7_may_53 : decode cX7_may 53 = .ok (.iaload, 1) := by decide +kernel
theorem dX7_may_54 : decode cX7_may 54 = .ok (.iload_n 3, 1) := by decide +kernel
theorem dX7_may_55 : decode cX7_may 55 = .ok (.invokevirtual 217, 3) := by decide +kernel
theorem dX7_may_58 : decode cX7_may 58 = .ok (.istore 4, 2) := by decide +kernel
theorem dX7_may_60 : decode cX7_may 60 = .ok (.iload_n 2, 1) := by decide +kernel
theorem dX7_may_61 : decode cX7_may 61 = .ok (.iload 4, 2) := by decide +kernel
theorem dX7_may_63 : decode cX7_may 63 = .ok (.ifCond .eq 9, 3) := by decide +kernel
theorem dX7_may_66 : decode cX7_may 66 = .ok (.iconst 1, 1) := by decide +kernel
theorem dX7_may_67 : decode cX7_may 67 = .ok (.iload_n 3, 1) := by decide +kernel
theorem dX7_may_68 : decode cX7_may 68 = .ok (.ishl, 1) := by decide +kernel
theorem dX7_may_69 : decode cX7_may 69 = .ok (.goto 4, 3) := by decide +kernel
theorem dX7_may_72 : decode cX7_may 72 = .ok (.iconst 0, 1) := by decide +kernel
theorem dX7_may_73 : decode cX7_may 73 = .ok (.ior, 1) := by decide +kernel
theorem dX7_may_74 : decode cX7_may 74 = .ok (.istore_n 2, 1) := by decide +kernel
theorem dX7_may_75 : decode cX7_may 75 = .ok (.iinc 3 1, 3) := by decide +kernel
theorem dX7_may_78 : decode cX7_may 78 = .ok (.goto (-63), 3) := by decide +kernel
theorem dX7_may_81 : decode cX7_may 81 = .ok (.iload_n 2, 1) := by decide +kernel
theorem dX7_may_82 : decode cX7_may 82 = .ok (.ireturn, 1) := by decide +kernel
theorem dX7_hall_0 : decode cX7_hall 0 = .ok (.iload_n 1, 1) := by decide +kernel
theorem dX7_hall_1 : decode cX7_hall 1 = .ok (.iconst 1, 1) := by decide +kernel
theorem dX7_hall_2 : decode cX7_hall 2 = .ok (.bipush 6, 2) := by decide +kernel
theorem dX7_hall_4 : decode cX7_hall 4 = .ok (.invokestatic 63, 3) := by decide +kernel
theorem dX7_hall_7 : decode cX7_hall 7 = .ok (.ifCond .eq 13, 3) := by decide +kernel
theorem dX7_hall_10 : decode cX7_hall 10 = .ok (.iload_n 2, 1) := by decide +kernel
theorem dX7_hall_11 : decode cX7_hall 11 = .ok (.iconst 1, 1) := by decide +kernel
theorem dX7_hall_12 : decode cX7_hall 12 = .ok (.bipush 40, 2) := by decide +kernel
theorem dX7_hall_14 : decode cX7_hall 14 = .ok (.invokestatic 63, 3) := by decide +kernel
theorem dX7_hall_17 : decode cX7_hall 17 = .ok (.ifCond .ne 5, 3) := by decide +kernel
theorem dX7_hall_20 : decode cX7_hall 20 = .ok (.iconst (-1), 1) := by decide +kernel
theorem dX7_hall_21 : decode cX7_hall 21 = .ok (.ireturn, 1) := by decide +kernel
theorem dX7_hall_22 : decode cX7_hall 22 = .ok (.iconst 0, 1) := by decide +kernel
theorem dX7_hall_23 : decode cX7_hall 23 = .ok (.istore_n 3, 1) := by decide +kernel
theorem dX7_hall_24 : decode cX7_hall 24 = .ok (.iload_n 3, 1) := by decide +kernel
theorem dX7_hall_25 : decode cX7_hall 25 = .ok (.aload_n 0, 1) := by decide +kernel
theorem dX7_hall_26 : decode cX7_hall 26 = .ok (.getfield 31, 3) := by decide +kernel
theorem dX7_hall_29 : decode cX7_hall 29 = .ok (.iconst 0, 1) := by decide +kernel
theorem dX7_hall_30 : decode cX7_hall 30 = .ok (.iaload, 1) := by decide +kernel
theorem dX7_hall_31 : decode cX7_hall 31 = .ok (.if_icmp .ge 43, 3) := by decide +kernel
theorem dX7_hall_34 : decode cX7_hall 34 = .ok (.aload_n 0, 1) := by decide +kernel
theorem dX7_hall_35 : decode cX7_hall 35 = .ok (.getfield 28, 3) := by decide +kernel
theorem dX7_hall_38 : decode cX7_hall 38 = .ok (.iconst 0, 1) := by decide +kernel
theorem dX7_hall_39 : decode cX7_hall 39 = .ok (.iaload, 1) := by decide +kernel
theorem dX7_hall_40 : decode cX7_hall 40 = .ok (.aload_n 0, 1) := by decide +kernel
theorem dX7_hall_41 : decode cX7_hall 41 = .ok (.getfield 31, 3) := by decide +kernel
theorem dX7_hall_44 : decode cX7_hall 44 = .ok (.iconst 1, 1) := by decide +kernel
theorem dX7_hall_45 : decode cX7_hall 45 = .ok (.iload_n 3, 1) := by decide +kernel
theorem dX7_hall_46 : decode cX7_hall 46 = .ok (.iadd, 1) := by decide +kernel
theorem dX7_hall_47 : decode cX7_hall 47 = .ok (.iaload, 1) := by decide +kernel
theorem dX7_hall_48 : decode cX7_hall 48 = .ok (.isub, 1) := by decide +kernel
theorem dX7_hall_49 : decode cX7_hall 49 = .ok (.iload_n 1, 1) := by decide +kernel
theorem dX7_hall_50 : decode cX7_hall 50 = .ok (.if_icmp .lt 18, 3) := by decide +kernel
theorem dX7_hall_53 : decode cX7_hall 53 = .ok (.aload_n 0, 1) := by decide +kernel
theorem dX7_hall_54 : decode cX7_hall 54 = .ok (.getfield 31, 3) := by decide +kernel
theorem dX7_hall_57 : decode cX7_hall 57 = .ok (.bipush 13, 2) := by decide +kernel
theorem dX7_hall_59 : decode cX7_hall 59 = .ok (.iload_n 3, 1) := by decide +kernel
theorem dX7_hall_60 : decode cX7_hall 60 = .ok (.iadd, 1) := by decide +kernel
theorem dX7_hall_61 : decode cX7_hall 61 = .ok (.iaload, 1) := by decide +kernel
theorem dX7_hall_62 : decode cX7_hall 62 = .ok (.iload_n 2, 1) := by decide +kernel
theorem dX7_hall_63 : decode cX7_hall 63 = .ok (.if_icmp .lt 5, 3) := by decide +kernel
theorem dX7_hall_66 : decode cX7_hall 66 = .ok (.iconst 1, 1) := by decide +kernel
theorem dX7_hall_67 : decode cX7_hall 67 = .ok (.ireturn, 1) := by decide +kernel
theorem dX7_hall_68 : decode cX7_hall 68 = .ok (.iinc 3 1, 3) := by decide +kernel
theorem dX7_hall_71 : decode cX7_hall 71 = .ok (.goto (-47), 3) := by decide +kernel
theorem dX7_hall_74 : decode cX7_hall 74 = .ok (.aload_n 0, 1) := by decide +kernel
theorem dX7_hall_75 : decode cX7_hall 75 = .ok (.getfield 28, 3) := by decide +kernel
theorem dX7_hall_78 : decode cX7_hall 78 = .ok (.iconst 0, 1) := by decide +kernel
theorem dX7_hall_79 : decode cX7_hall 79 = .ok (.iaload, 1) := by decide +kernel
theorem dX7_hall_80 : decode cX7_hall 80 = .ok (.iload_n 1, 1) := by decide +kernel
theorem dX7_hall_81 : decode cX7_hall 81 = .ok (.if_icmp .lt 19, 3) := by decide +kernel
theorem dX7_hall_84 : decode cX7_hall 84 = .ok (.aload_n 0, 1) := by decide +kernel
theorem dX7_hall_85 : decode cX7_hall 85 = .ok (.aload_n 0, 1) := by decide +kernel
theorem dX7_hall_86 : decode cX7_hall 86 = .ok (.getfield 31, 3) := by decide +kernel
theorem dX7_hall_89 : decode cX7_hall 89 = .ok (.invokevirtual 145, 3) := by decide +kernel
theorem dX7_hall_92 : decode cX7_hall 92 = .ok (.iload_n 2, 1) := by decide +kernel
theorem dX7_hall_93 : decode cX7_hall 93 = .ok (.if_icmp .lt 7, 3) := by decide +kernel
theorem dX7_hall_96 : decode cX7_hall 96 = .ok (.iconst 2, 1) := by decide +kernel
theorem dX7_hall_97 : decode cX7_hall 97 = .ok (.goto 4, 3) := by decide +kernel
theorem dX7_hall_100 : decode cX7_hall 100 = .ok (.iconst 0, 1) := by decide +kernel
theorem dX7_hall_101 : decode cX7_hall 101 = .ok (.ireturn, 1) := by decide +kernel
theorem dX7_left_0 : decode cX7_left 0 = .ok (.iload_n 1, 1) := by decide +kernel
theorem dX7_left_1 : decode cX7_left 1 = .ok (.iconst 0, 1) := by decide +kernel
theorem dX7_left_2 : decode cX7_left 2 = .ok (.iconst 1, 1) := by decide +kernel
theorem dX7_left_3 : decode cX7_left 3 = .ok (.invokestatic 63, 3) := by decide +kernel
theorem dX7_left_6 : decode cX7_left 6 = .ok (.ifCond .ne 5, 3) := by decide +kernel
theorem dX7_left_9 : decode cX7_left 9 = .ok (.iconst (-1), 1) := by decide +kernel
theorem dX7_left_10 : decode cX7_left 10 = .ok (.ireturn, 1) := by decide +kernel
theorem dX7_left_11 : decode cX7_left 11 = .ok (.iconst 0, 1) := by decide +kernel
theorem dX7_left_12 : decode cX7_left 12 = .ok (.istore_n 2, 1) := by decide +kernel
theorem dX7_left_13 : decode cX7_left 13 = .ok (.iconst 0, 1) := by decide +kernel
theorem dX7_left_14 : decode cX7_left 14 = .ok (.istore_n 3, 1) := by decide +kernel
theorem dX7_left_15 : decode cX7_left 15 = .ok (.iload_n 3, 1) := by decide +kernel
theorem dX7_left_16 : decode cX7_left 16 = .ok (.aload_n 0, 1) := by decide +kernel
theorem dX7_left_17 : decode cX7_left 17 = .ok (.getfield 31, 3) := by decide +kernel
theorem dX7_left_20 : decode cX7_left 20 = .ok (.iconst 0, 1) := by decide +kernel
theorem dX7_left_21 : decode cX7_left 21 = .ok (.iaload, 1) := by decide +kernel
theorem dX7_left_22 : decode cX7_left 22 = .ok (.if_icmp .ge 37, 3) := by decide +kernel
theorem dX7_left_25 : decode cX7_left 25 = .ok (.iload_n 2, 1) := by decide +kernel
theorem dX7_left_26 : decode cX7_left 26 = .ok (.aload_n 0, 1) := by decide +kernel
theorem dX7_left_27 : decode cX7_left 27 = .ok (.getfield 28, 3) := by decide +kernel
theorem dX7_left_30 : decode cX7_left 30 = .ok (.iconst 0, 1) := by decide +kernel
theorem dX7_left_31 : decode cX7_left 31 = .ok (.iaload, 1) := by decide +kernel
theorem dX7_left_32 : decode cX7_left 32 = .ok (.aload_n 0, 1) := by decide +kernel
theorem dX7_left_33 : decode cX7_left 33 = .ok (.getfield 31, 3) := by decide +kernel
theorem dX7_left_36 : decode cX7_left 36 = .ok (.iconst 1, 1) := by decide +kernel
theorem dX7_left_37 : decode cX7_left 37 = .ok (.iload_n 3, 1) := by decide +kernel
theorem dX7_left_38 : decode cX7_left 38 = .ok (.iadd, 1) := by decide +kernel
theorem dX7_left_39 : decode cX7_left 39 = .ok (.iaload, 1) := by decide +kernel
theorem dX7_left_40 : decode cX7_left 40 = .ok (.isub, 1) := by decide +kernel
theorem dX7_left_41 : decode cX7_left 41 = .ok (.aload_n 0, 1) := by decide +kernel
theorem dX7_left_42 : decode cX7_left 42 = .ok (.getfield 31, 3) := by decide +kernel
theorem dX7_left_45 : decode cX7_left 45 = .ok (.bipush 13, 2) := by decide +kernel
theorem dX7_left_47 : decode cX7_left 47 = .ok (.iload_n 3, 1) := by decide +kernel
theorem dX7_left_48 : decode cX7_left 48 = .ok (.iadd, 1) := by decide +kernel
theorem dX7_left_49 : decode cX7_left 49 = .ok (.iaload, 1) := by decide +kernel
theorem dX7_left_50 : decode cX7_left 50 = .ok (.imul, 1) := by decide +kernel
theorem dX7_left_51 : decode cX7_left 51 = .ok (.iadd, 1) := by decide +kernel
theorem dX7_left_52 : decode cX7_left 52 = .ok (.istore_n 2, 1) := by decide +kernel
theorem dX7_left_53 : decode cX7_left 53 = .ok (.iinc 3 1, 3) := by decide +kernel
theorem dX7_left_56 : decode cX7_left 56 = .ok (.goto (-41), 3) := by decide +kernel
theorem dX7_left_59 : decode cX7_left 59 = .ok (.iload_n 1, 1) := by decide +kernel
theorem dX7_left_60 : decode cX7_left 60 = .ok (.ifCond .ne 7, 3) := by decide +kernel
theorem dX7_left_63 : decode cX7_left 63 = .ok (.iload_n 2, 1) := by decide +kernel
theorem dX7_left_64 : decode cX7_left 64 = .ok (.goto 18, 3) := by decide +kernel
theorem dX7_left_67 : decode cX7_left 67 = .ok (.aload_n 0, 1) := by decide +kernel
theorem dX7_left_68 : decode cX7_left 68 = .ok (.getfield 28, 3) := by decide +kernel
theorem dX7_left_71 : decode cX7_left 71 = .ok (.iconst 0, 1) := by decide +kernel
theorem dX7_left_72 : decode cX7_left 72 = .ok (.iaload, 1) := by decide +kernel
theorem dX7_left_73 : decode cX7_left 73 = .ok (.aload_n 0, 1) := by decide +kernel
theorem dX7_left_74 : decode cX7_left 74 = .ok (.aload_n 0, 1) := by decide +kernel
theorem dX7_left_75 : decode cX7_left 75 = .ok (.getfield 31, 3) := by decide +kernel
theorem dX7_left_78 : decode cX7_left 78 = .ok (.invokevirtual 145, 3) := by decide +kernel
theorem dX7_left_81 : decode cX7_left 81 = .ok (.imul, 1) := by decide +kernel
theorem dX7_left_82 : decode cX7_left 82 = .ok (.ireturn, 1) := by decide +kernel
theorem dX7_likely_0 : decode cX7_likely 0 = .ok (.iload_n 1, 1) := by decide +kernel
theorem dX7_likely_1 : decode cX7_likely 1 = .ok (.iconst 0, 1) := by decide +kernel
theorem dX7_likely_2 : decode cX7_likely 2 = .ok (.iconst 3, 1) := by decide +kernel
theorem dX7_likely_3 : decode cX7_likely 3 = .ok (.invokestatic 63, 3) := by decide +kernel
theorem dX7_likely_6 : decode cX7_likely 6 = .ok (.ifCond .eq 33, 3) := by decide +kernel
theorem dX7_likely_9 : decode cX7_likely 9 = .ok (.iload_n 2, 1) := by decide +kernel
theorem dX7_likely_10 : decode cX7_likely 10 = .ok (.iconst 0, 1) := by decide +kernel
theorem dX7_likely_11 : decode cX7_likely 11 = .ok (.bipush 6, 2) := by decide +kernel
theorem dX7_likely_13 : decode cX7_likely 13 = .ok (.invokestatic 63, 3) := by decide +kernel
theorem dX7_likely_16 : decode cX7_likely 16 = .ok (.ifCond .eq 23, 3) := by decide +kernel
theorem dX7_likely_19 : decode cX7_likely 19 = .ok (.iload_n 3, 1) := by decide +kernel
theorem dX7_likely_20 : decode cX7_likely 20 = .ok (.iconst 0, 1) := by decide +kernel
theorem dX7_likely_21 : decode cX7_likely 21 = .ok (.bipush 10, 2) := by decide +kernel
theorem dX7_likely_23 : decode cX7_likely 23 = .ok (.invokestatic 63, 3) := by decide +kernel
theorem dX7_likely_26 : decode cX7_likely 26 = .ok (.ifCond .eq 13, 3) := by decide +kernel
theorem dX7_likely_29 : decode cX7_likely 29 = .ok (.iload 4, 2) := by decide +kernel
theorem dX7_likely_31 : decode cX7_likely 31 = .ok (.iconst 0, 1) := by decide +kernel
theorem dX7_likely_32 : decode cX7_likely 32 = .ok (.iconst 1, 1) := by decide +kernel
theorem dX7_likely_33 : decode cX7_likely 33 = .ok (.invokestatic 63, 3) := by decide +kernel
theorem dX7_likely_36 : decode cX7_likely 36 = .ok (.ifCond .ne 5, 3) := by decide +kernel
theorem dX7_likely_39 : decode cX7_likely 39 = .ok (.iconst (-1), 1) := by decide +kernel
theorem dX7_likely_40 : decode cX7_likely 40 = .ok (.ireturn, 1) := by decide +kernel
theorem dX7_likely_41 : decode cX7_likely 41 = .ok (.aload_n 0, 1) := by decide +kernel
theorem dX7_likely_42 : decode cX7_likely 42 = .ok (.getfield 31, 3) := by decide +kernel
theorem dX7_likely_45 : decode cX7_likely 45 = .ok (.iload_n 1, 1) := by decide +kernel
theorem dX7_likely_46 : decode cX7_likely 46 = .ok (.invokestatic 130, 3) := by decide +kernel
theorem dX7_likely_49 : decode cX7_likely 49 = .ok (.ifCond .ne 6, 3) := by decide +kernel
theorem dX7_likely_52 : decode cX7_likely 52 = .ok (.bipush (-2), 2) := by decide +kernel
theorem dX7_likely_54 : decode cX7_likely 54 = .ok (.ireturn, 1) := by decide +kernel
theorem dX7_likely_55 : decode cX7_likely 55 = .ok (.iconst 0, 1) := by decide +kernel
theorem dX7_likely_56 : decode cX7_likely 56 = .ok (.istore 5, 2) := by decide +kernel
theorem dX7_likely_58 : decode cX7_likely 58 = .ok (.iconst 1, 1) := by decide +kernel
theorem dX7_likely_59 : decode cX7_likely 59 = .ok (.istore 6, 2) := by decide +kernel
theorem dX7_likely_61 : decode cX7_likely 61 = .ok (.iconst 0, 1) := by decide +kernel
theorem dX7_likely_62 : decode cX7_likely 62 = .ok (.istore 7, 2) := by decide +kernel
theorem dX7_likely_64 : decode cX7_likely 64 = .ok (.iload 7, 2) := by decide +kernel
theorem dX7_likely_66 : decode cX7_likely 66 = .ok (.iload_n 2, 1) := by decide +kernel
theorem dX7_likely_67 : decode cX7_likely 67 = .ok (.if_icmp .ge 16, 3) := by decide +kernel
theorem dX7_likely_70 : decode cX7_likely 70 = .ok (.iload 6, 2) := by decide +kernel
theorem dX7_likely_72 : decode cX7_likely 72 = .ok (.bipush 10, 2) := by decide +kernel
theorem dX7_likely_74 : decode cX7_likely 74 = .ok (.imul, 1) := by decide +kernel
theorem dX7_likely_75 : decode cX7_likely 75 = .ok (.istore 6, 2) := by decide +kernel
theorem dX7_likely_77 : decode cX7_likely 77 = .ok (.iinc 7 1, 3) := by decide +kernel
theorem dX7_likely_80 : decode cX7_likely 80 = .ok (.goto (-16), 3) := by decide +kernel
theorem dX7_likely_83 : decode cX7_likely 83 = .ok (.iconst 0, 1) := by decide +kernel
theorem dX7_likely_84 : decode cX7_likely 84 = .ok (.istore 7, 2) := by decide +kernel
theorem dX7_likely_86 : decode cX7_likely 86 = .ok (.iload 7, 2) := by decide +kernel
theorem dX7_likely_88 : decode cX7_likely 88 = .ok (.iconst 1, 1) := by decide +kernel
theorem dX7_likely_89 : decode cX7_likely 89 = .ok (.iload_n 2, 1) := by decide +kernel
theorem dX7_likely_90 : decode cX7_likely 90 = .ok (.ishl, 1) := by decide +kernel
theorem dX7_likely_91 : decode cX7_likely 91 = .ok (.if_icmp .ge 98, 3) := by decide +kernel
theorem dX7_likely_94 : decode cX7_likely 94 = .ok (.iconst 1, 1) := by decide +kernel
theorem dX7_likely_95 : decode cX7_likely 95 = .ok (.istore 8, 2) := by decide +kernel
theorem dX7_likely_97 : decode cX7_likely 97 = .ok (.aload_n 0, 1) := by decide +kernel
theorem dX7_likely_98 : decode cX7_likely 98 = .ok (.getfield 31, 3) := by decide +kernel
theorem dX7_likely_101 : decode cX7_likely 101 = .ok (.bipush 25, 2) := by decide +kernel
theorem dX7_likely_103 : decode cX7_likely 103 = .ok (.iload_n 1, 1) := by decide +kernel
theorem dX7_likely_104 : decode cX7_likely 104 = .ok (.iadd, 1) := by decide +kernel
theorem dX7_likely_105 : decode cX7_likely 105 = .ok (.iaload, 1) := by decide +kernel
theorem dX7_likely_106 : decode cX7_likely 106 = .ok (.istore 9, 2) := by decide +kernel
theorem dX7_likely_108 : decode cX7_likely 108 = .ok (.iconst 0, 1) := by decide +kernel
theorem dX7_likely_109 : decode cX7_likely 109 = .ok (.istore 10, 2) := by decide +kernel
theorem dX7_likely_111 : decode cX7_likely 111 = .ok (.iload 10, 2) := by decide +kernel
theorem dX7_likely_113 : decode cX7_likely 113 = .ok (.iload_n 2, 1) := by decide +kernel
theorem dX7_likely_114 : decode cX7_likely 114 = .ok (.if_icmp .ge 52, 3) := by decide +kernel
theorem dX7_likely_117 : decode cX7_likely 117 = .ok (.iload 8, 2) := by decide +kernel
theorem dX7_likely_119 : decode cX7_likely 119 = .ok (.iload 7, 2) := by decide +kernel
theorem dX7_likely_121 : decode cX7_likely 121 = .ok (.iload 10, 2) := by decide +kernel
theorem dX7_likely_123 : decode cX7_likely 123 = .ok (.invokestatic 126, 3) := by decide +kernel
theorem dX7_likely_126 : decode cX7_likely 126 = .ok (.ifCond .eq 7, 3) := by decide +kernel
theorem dX7_likely_129 : decode cX7_likely 129 = .ok (.iload_n 3, 1) := by decide +kernel
theorem dX7_likely_130 : decode cX7_likely 130 = .ok (.goto 7, 3) := by decide +kernel
theorem dX7_likely_133 : decode cX7_likely 133 = .ok (.bipush 10, 2) := by decide +kernel
theorem dX7_likely_135 : decode cX7_likely 135 = .ok (.iload_n 3, 1) := by decide +kernel
theorem dX7_likely_136 : decode cX7_likely 136 = .ok (.isub, 1) := by decide +kernel
theorem dX7_likely_137 : decode cX7_likely 137 = .ok (.imul, 1) := by decide +kernel
theorem dX7_likely_138 : decode cX7_likely 138 = .ok (.istore 8, 2) := by decide +kernel
theorem dX7_likely_140 : decode cX7_likely 140 = .ok (.iload 9, 2) := by decide +kernel
theorem dX7_likely_142 : decode cX7_likely 142 = .ok (.iload 7, 2) := by decide +kernel
theorem dX7_likely_144 : decode cX7_likely 144 = .ok (.iload 10, 2) := by decide +kernel
theorem dX7_likely_146 : decode cX7_likely 146 = .ok (.invokestatic 126, 3) := by decide +kernel
theorem dX7_likely_149 : decode cX7_likely 149 = .ok (.ifCond .eq 7, 3) := by decide +kernel
theorem dX7_likely_152 : decode cX7_likely 152 = .ok (.iconst 2, 1) := by decide +kernel
theorem dX7_likely_153 : decode cX7_likely 153 = .ok (.goto 4, 3) := by decide +kernel
theorem dX7_likely_156 : decode cX7_likely 156 = .ok (.iconst 0, 1) := by decide +kernel
theorem dX7_likely_157 : decode cX7_likely 157 = .ok (.isub, 1) := by decide +kernel
theorem dX7_likely_158 : decode cX7_likely 158 = .ok (.istore 9, 2) := by decide +kernel
theorem dX7_likely_160 : decode cX7_likely 160 = .ok (.iinc 10 1, 3) := by decide +kernel
theorem dX7_likely_163 : decode cX7_likely 163 = .ok (.goto (-52), 3) := by decide +kernel
theorem dX7_likely_166 : decode cX7_likely 166 = .ok (.iload 5, 2) := by decide +kernel
theorem dX7_likely_168 : decode cX7_likely 168 = .ok (.iload 9, 2) := by decide +kernel
theorem dX7_likely_170 : decode cX7_likely 170 = .ok (.iconst 2, 1) := by decide +kernel
theorem dX7_likely_171 : decode cX7_likely 171 = .ok (.if_icmp .ge 8, 3) := by decide +kernel
theorem dX7_likely_174 : decode cX7_likely 174 = .ok (.iload 8, 2) := by decide +kernel
theorem dX7_likely_176 : decode cX7_likely 176 = .ok (.goto 4, 3) := by decide +kernel
theorem dX7_likely_179 : decode cX7_likely 179 = .ok (.iconst 0, 1) := by decide +kernel
theorem dX7_likely_180 : decode cX7_likely 180 = .ok (.iadd, 1) := by decide +kernel
theorem dX7_likely_181 : decode cX7_likely 181 = .ok (.istore 5, 2) := by decide +kernel
theorem dX7_likely_183 : decode cX7_likely 183 = .ok (.iinc 7 1, 3) := by decide +kernel
theorem dX7_likely_186 : decode cX7_likely 186 = .ok (.goto (-100), 3) := by decide +kernel
theorem dX7_likely_189 : decode cX7_likely 189 = .ok (.iload 5, 2) := by decide +kernel
theorem dX7_likely_191 : decode cX7_likely 191 = .ok (.istore 7, 2) := by decide +kernel
theorem dX7_likely_193 : decode cX7_likely 193 = .ok (.iload 6, 2) := by decide +kernel
theorem dX7_likely_195 : decode cX7_likely 195 = .ok (.istore 8, 2) := by decide +kernel
theorem dX7_likely_197 : decode cX7_likely 197 = .ok (.iload 8, 2) := by decide +kernel
theorem dX7_likely_199 : decode cX7_likely 199 = .ok (.ifCond .le 21, 3) := by decide +kernel
theorem dX7_likely_202 : decode cX7_likely 202 = .ok (.iload 7, 2) := by decide +kernel
theorem dX7_likely_204 : decode cX7_likely 204 = .ok (.iload 8, 2) := by decide +kernel
theorem dX7_likely_206 : decode cX7_likely 206 = .ok (.irem, 1) := by decide +kernel
theorem dX7_likely_207 : decode cX7_likely 207 = .ok (.istore 9, 2) := by decide +kernel
theorem dX7_likely_209 : decode cX7_likely 209 = .ok (.iload 8, 2) := by decide +kernel
theorem dX7_likely_211 : decode cX7_likely 211 = .ok (.istore 7, 2) := by decide +kernel
theorem dX7_likely_213 : decode cX7_likely 213 = .ok (.iload 9, 2) := by decide +kernel
theorem dX7_likely_215 : decode cX7_likely 215 = .ok (.istore 8, 2) := by decide +kernel
theorem dX7_likely_217 : decode cX7_likely 217 = .ok (.goto (-20), 3) := by decide +kernel
theorem dX7_likely_220 : decode cX7_likely 220 = .ok (.iload 4, 2) := by decide +kernel
theorem dX7_likely_222 : decode cX7_likely 222 = .ok (.ifCond .ne 8, 3) := by decide +kernel
theorem dX7_likely_225 : decode cX7_likely 225 = .ok (.iload 5, 2) := by decide +kernel
theorem dX7_likely_227 : decode cX7_likely 227 = .ok (.goto 5, 3) := by decide +kernel
theorem dX7_likely_230 : decode cX7_likely 230 = .ok (.iload 6, 2) := by decide +kernel
theorem dX7_likely_232 : decode cX7_likely 232 = .ok (.iload 7, 2) := by decide +kernel
theorem dX7_likely_234 : decode cX7_likely 234 = .ok (.idiv, 1) := by decide +kernel
theorem dX7_likely_235 : decode cX7_likely 235 = .ok (.ireturn, 1) := by decide +kernel
theorem dX7_year_0 : decode cX7_year 0 = .ok (.iload_n 1, 1) := by decide +kernel
theorem dX7_year_1 : decode cX7_year 1 = .ok (.iconst 0, 1) := by decide +kernel
theorem dX7_year_2 : decode cX7_year 2 = .ok (.sipush 9999, 3) := by decide +kernel
theorem dX7_year_5 : decode cX7_year 5 = .ok (.invokestatic 63, 3) := by decide +kernel
theorem dX7_year_8 : decode cX7_year 8 = .ok (.ifCond .eq 22, 3) := by decide +kernel
theorem dX7_year_11 : decode cX7_year 11 = .ok (.iload_n 2, 1) := by decide +kernel
theorem dX7_year_12 : decode cX7_year 12 = .ok (.iconst 1, 1) := by decide +kernel
theorem dX7_year_13 : decode cX7_year 13 = .ok (.bipush 40, 2) := by decide +kernel
theorem dX7_year_15 : decode cX7_year 15 = .ok (.invokestatic 63, 3) := by decide +kernel
theorem dX7_year_18 : decode cX7_year 18 = .ok (.ifCond .eq 12, 3) := by decide +kernel
theorem dX7_year_21 : decode cX7_year 21 = .ok (.iload_n 3, 1) := by decide +kernel
theorem dX7_year_22 : decode cX7_year 22 = .ok (.iconst 0, 1) := by decide +kernel
theorem dX7_year_23 : decode cX7_year 23 = .ok (.iconst 1, 1) := by decide +kernel
theorem dX7_year_24 : decode cX7_year 24 = .ok (.invokestatic 63, 3) := by decide +kernel
theorem dX7_year_27 : decode cX7_year 27 = .ok (.ifCond .ne 5, 3) := by decide +kernel
theorem dX7_year_30 : decode cX7_year 30 = .ok (.iconst (-1), 1) := by decide +kernel
theorem dX7_year_31 : decode cX7_year 31 = .ok (.ireturn, 1) := by decide +kernel
theorem dX7_year_32 : decode cX7_year 32 = .ok (.aload_n 0, 1) := by decide +kernel
theorem dX7_year_33 : decode cX7_year 33 = .ok (.invokevirtual 162, 3) := by decide +kernel
theorem dX7_year_36 : decode cX7_year 36 = .ok (.ifCond .ne 6, 3) := by decide +kernel
theorem dX7_year_39 : decode cX7_year 39 = .ok (.bipush (-2), 2) := by decide +kernel
theorem dX7_year_41 : decode cX7_year 41 = .ok (.ireturn, 1) := by decide +kernel
theorem dX7_year_42 : decode cX7_year 42 = .ok (.aload_n 0, 1) := by decide +kernel
theorem dX7_year_43 : decode cX7_year 43 = .ok (.invokevirtual 205, 3) := by decide +kernel
theorem dX7_year_46 : decode cX7_year 46 = .ok (.iconst 0, 1) := by decide +kernel
theorem dX7_year_47 : decode cX7_year 47 = .ok (.istore 4, 2) := by decide +kernel
theorem dX7_year_49 : decode cX7_year 49 = .ok (.iload 4, 2) := by decide +kernel
theorem dX7_year_51 : decode cX7_year 51 = .ok (.iload_n 2, 1) := by decide +kernel
theorem dX7_year_52 : decode cX7_year 52 = .ok (.if_icmp .ge 131, 3) := by decide +kernel
theorem dX7_year_55 : decode cX7_year 55 = .ok (.ldc2_w 220, 3) := by decide +kernel
theorem dX7_year_58 : decode cX7_year 58 = .ok (.iload_n 1, 1) := by decide +kernel
theorem dX7_year_59 : decode cX7_year 59 = .ok (.i2l, 1) := by decide +kernel
theorem dX7_year_60 : decode cX7_year 60 = .ok (.lmul, 1) := by decide +kernel
theorem dX7_year_61 : decode cX7_year 61 = .ok (.ldc2_w 222, 3) := by decide +kernel
theorem dX7_year_64 : decode cX7_year 64 = .ok (.iload 4, 2) := by decide +kernel
theorem dX7_year_66 : decode cX7_year 66 = .ok (.i2l, 1) := by decide +kernel
theorem dX7_year_67 : decode cX7_year 67 = .ok (.lmul, 1) := by decide +kernel
theorem dX7_year_68 : decode cX7_year 68 = .ok (.ladd, 1) := by decide +kernel
theorem dX7_year_69 : decode cX7_year 69 = .ok (.lconst 1, 1) := by decide +kernel
theorem dX7_year_70 : decode cX7_year 70 = .ok (.ladd, 1) := by decide +kernel
theorem dX7_year_71 : decode cX7_year 71 = .ok (.lstore 5, 2) := by decide +kernel
theorem dX7_year_73 : decode cX7_year 73 = .ok (.lload 5, 2) := by decide +kernel
theorem dX7_year_75 : decode cX7_year 75 = .ok (.lload 5, 2) := by decide +kernel
theorem dX7_year_77 : decode cX7_year 77 = .ok (.lmul, 1) := by decide +kernel
theorem dX7_year_78 : decode cX7_year 78 = .ok (.ldc2_w 224, 3) := by decide +kernel
theorem dX7_year_81 : decode cX7_year 81 = .ok (.lrem, 1) := by decide +kernel
theorem dX7_year_82 : decode cX7_year 82 = .ok (.ldc2_w 226, 3) := by decide +kernel
theorem dX7_year_85 : decode cX7_year 85 = .ok (.ldiv, 1) := by decide +kernel
theorem dX7_year_86 : decode cX7_year 86 = .ok (.l2i, 1) := by decide +kernel
theorem dX7_year_87 : decode cX7_year 87 = .ok (.istore 7, 2) := by decide +kernel
theorem dX7_year_89 : decode cX7_year 89 = .ok (.iload 7, 2) := by decide +kernel
theorem dX7_year_91 : decode cX7_year 91 = .ok (.iconst 4, 1) := by decide +kernel
theorem dX7_year_92 : decode cX7_year 92 = .ok (.irem, 1) := by decide +kernel
theorem dX7_year_93 : decode cX7_year 93 = .ok (.istore 8, 2) := by decide +kernel
theorem dX7_year_95 : decode cX7_year 95 = .ok (.aload_n 0, 1) := by decide +kernel
theorem dX7_year_96 : decode cX7_year 96 = .ok (.getfield 34, 3) := by decide +kernel
theorem dX7_year_99 : decode cX7_year 99 = .ok (.iload 8, 2) := by decide +kernel
theorem dX7_year_101 : decode cX7_year 101 = .ok (.invokestatic 130, 3) := by decide +kernel
theorem dX7_year_104 : decode cX7_year 104 = .ok (.ifCond .eq 24, 3) := by decide +kernel
theorem dX7_year_107 : decode cX7_year 107 = .ok (.iload 7, 2) := by decide +kernel
theorem dX7_year_109 : decode cX7_year 109 = .ok (.iconst 4, 1) := by decide +kernel
theorem dX7_year_110 : decode cX7_year 110 = .ok (.idiv, 1) := by decide +kernel
theorem dX7_year_111 : decode cX7_year 111 = .ok (.iconst 5, 1) := by decide +kernel
theorem dX7_year_112 : decode cX7_year 112 = .ok (.irem, 1) := by decide +kernel
theorem dX7_year_113 : decode cX7_year 113 = .ok (.ifCond .ne 45, 3) := by decide +kernel
theorem dX7_year_116 : decode cX7_year 116 = .ok (.aload_n 0, 1) := by decide +kernel
theorem dX7_year_117 : decode cX7_year 117 = .ok (.getfield 34, 3) := by decide +kernel
theorem dX7_year_120 : decode cX7_year 120 = .ok (.iload 8, 2) := by decide +kernel
theorem dX7_year_122 : decode cX7_year 122 = .ok (.invokestatic 172, 3) := by decide +kernel
theorem dX7_year_125 : decode cX7_year 125 = .ok (.goto 33, 3) := by decide +kernel
theorem dX7_year_128 : decode cX7_year 128 = .ok (.aload_n 0, 1) := by decide +kernel
theorem dX7_year_129 : decode cX7_year 129 = .ok (.getfield 34, 3) := by decide +kernel
theorem dX7_year_132 : decode cX7_year 132 = .ok (.iload 8, 2) := by decide +kernel
theorem dX7_year_134 : decode cX7_year 134 = .ok (.invokestatic 165, 3) := by decide +kernel
theorem dX7_year_137 : decode cX7_year 137 = .ok (.ifCond .eq 21, 3) := by decide +kernel
theorem dX7_year_140 : decode cX7_year 140 = .ok (.aload_n 0, 1) := by decide +kernel
theorem dX7_year_141 : decode cX7_year 141 = .ok (.aload_n 0, 1) := by decide +kernel
theorem dX7_year_142 : decode cX7_year 142 = .ok (.getfield 34, 3) := by decide +kernel
theorem dX7_year_145 : decode cX7_year 145 = .ok (.iload 8, 2) := by decide +kernel
theorem dX7_year_147 : decode cX7_year 147 = .ok (.iload 7, 2) := by decide +kernel
theorem dX7_year_149 : decode cX7_year 149 = .ok (.bipush 32, 2) := by decide +kernel
theorem dX7_year_151 : decode cX7_year 151 = .ok (.idiv, 1) := by decide +kernel
theorem dX7_year_152 : decode cX7_year 152 = .ok (.bipush 16, 2) := by decide +kernel
theorem dX7_year_154 : decode cX7_year 154 = .ok (.irem, 1) := by decide +kernel
theorem dX7_year_155 : decode cX7_year 155 = .ok (.invokevirtual 168, 3) := by decide +kernel
theorem dX7_year_158 : decode cX7_year 158 = .ok (.iload 7, 2) := by decide +kernel
theorem dX7_year_160 : decode cX7_year 160 = .ok (.sipush 512, 3) := by decide +kernel
theorem dX7_year_163 : decode cX7_year 163 = .ok (.idiv, 1) := by decide +kernel
theorem dX7_year_164 : decode cX7_year 164 = .ok (.iconst 3, 1) := by decide +kernel
theorem dX7_year_165 : decode cX7_year 165 = .ok (.irem, 1) := by decide +kernel
theorem dX7_year_166 : decode cX7_year 166 = .ok (.ifCond .ne 11, 3) := by decide +kernel
theorem dX7_year_169 : decode cX7_year 169 = .ok (.aload_n 0, 1) := by decide +kernel
theorem dX7_year_170 : decode cX7_year 170 = .ok (.aload_n 0, 1) := by decide +kernel
theorem dX7_year_171 : decode cX7_year 171 = .ok (.getfield 34, 3) := by decide +kernel
theorem dX7_year_174 : decode cX7_year 174 = .ok (.invokevirtual 176, 3) := by decide +kernel
theorem dX7_year_177 : decode cX7_year 177 = .ok (.iinc 4 1, 3) := by decide +kernel
theorem dX7_year_180 : decode cX7_year 180 = .ok (.goto (-131), 3) := by decide +kernel
theorem dX7_year_183 : decode cX7_year 183 = .ok (.iconst 0, 1) := by decide +kernel
theorem dX7_year_184 : decode cX7_year 184 = .ok (.istore 4, 2) := by decide +kernel
theorem dX7_year_186 : decode cX7_year 186 = .ok (.iconst 0, 1) := by decide +kernel
theorem dX7_year_187 : decode cX7_year 187 = .ok (.istore 5, 2) := by decide +kernel
theorem dX7_year_189 : decode cX7_year 189 = .ok (.iload 5, 2) := by decide +kernel
theorem dX7_year_191 : decode cX7_year 191 = .ok (.iconst 4, 1) := by decide +kernel
theorem dX7_year_192 : decode cX7_year 192 = .ok (.if_icmp .ge 24, 3) := by decide +kernel
theorem dX7_year_195 : decode cX7_year 195 = .ok (.iload 4, 2) := by decide +kernel
theorem dX7_year_197 : decode cX7_year 197 = .ok (.aload_n 0, 1) := by decide +kernel
theorem dX7_year_198 : decode cX7_year 198 = .ok (.getfield 34, 3) := by decide +kernel
theorem dX7_year_201 : decode cX7_year 201 = .ok (.bipush 25, 2) := by decide +kernel
theorem dX7_year_203 : decode cX7_year 203 = .ok (.iload 5, 2) := by decide +kernel
theorem dX7_year_205 : decode cX7_year 205 = .ok (.iadd, 1) := by decide +kernel
theorem dX7_year_206 : decode cX7_year 206 = .ok (.iaload, 1) := by decide +kernel
theorem dX7_year_207 : decode cX7_year 207 = .ok (.iadd, 1) := by decide +kernel
theorem dX7_year_208 : decode cX7_year 208 = .ok (.istore 4, 2) := by decide +kernel
theorem dX7_year_210 : decode cX7_year 210 = .ok (.iinc 5 1, 3) := by decide +kernel
theorem dX7_year_213 : decode cX7_year 213 = .ok (.goto (-24), 3) := by decide +kernel
theorem dX7_year_216 : decode cX7_year 216 = .ok (.iload_n 3, 1) := by decide +kernel
theorem dX7_year_217 : decode cX7_year 217 = .ok (.ifCond .ne 16, 3) := by decide +kernel
theorem dX7_year_220 : decode cX7_year 220 = .ok (.aload_n 0, 1) := by decide +kernel
theorem dX7_year_221 : decode cX7_year 221 = .ok (.getfield 34, 3) := by decide +kernel
theorem dX7_year_224 : decode cX7_year 224 = .ok (.bipush 30, 2) := by decide +kernel
theorem dX7_year_226 : decode cX7_year 226 = .ok (.iaload, 1) := by decide +kernel
theorem dX7_year_227 : decode cX7_year 227 = .ok (.invokestatic 151, 3) := by decide +kernel
theorem dX7_year_230 : decode cX7_year 230 = .ok (.goto 5, 3) := by decide +kernel
theorem dX7_year_233 : decode cX7_year 233 = .ok (.iload 4, 2) := by decide +kernel
theorem dX7_year_235 : decode cX7_year 235 = .ok (.ireturn, 1) := by decide +kernel
theorem dX7_keep_0 : decode cX7_keep 0 = .ok (.aload_n 0, 1) := by decide +kernel
theorem dX7_keep_1 : decode cX7_keep 1 = .ok (.getfield 120, 3) := by decide +kernel
theorem dX7_keep_4 : decode cX7_keep 4 = .ok (.iconst 2, 1) := by decide +kernel
theorem dX7_keep_5 : decode cX7_keep 5 = .ok (.if_icmp .ne 6, 3) := by decide +kernel
theorem dX7_keep_8 : decode cX7_keep 8 = .ok (.bipush (-3), 2) := by decide +kernel
theorem dX7_keep_10 : decode cX7_keep 10 = .ok (.ireturn, 1) := by decide +kernel
theorem dX7_keep_11 : decode cX7_keep 11 = .ok (.aload_n 0, 1) := by decide +kernel
theorem dX7_keep_12 : decode cX7_keep 12 = .ok (.getfield 31, 3) := by decide +kernel
theorem dX7_keep_15 : decode cX7_keep 15 = .ok (.iconst 0, 1) := by decide +kernel
theorem dX7_keep_16 : decode cX7_keep 16 = .ok (.aload_n 0, 1) := by decide +kernel
theorem dX7_keep_17 : decode cX7_keep 17 = .ok (.getfield 40, 3) := by decide +kernel
theorem dX7_keep_20 : decode cX7_keep 20 = .ok (.bipush 32, 2) := by decide +kernel
theorem dX7_keep_22 : decode cX7_keep 22 = .ok (.aload_n 0, 1) := by decide +kernel
theorem dX7_keep_23 : decode cX7_keep 23 = .ok (.getfield 120, 3) := by decide +kernel
theorem dX7_keep_26 : decode cX7_keep 26 = .ok (.imul, 1) := by decide +kernel
theorem dX7_keep_27 : decode cX7_keep 27 = .ok (.bipush 32, 2) := by decide +kernel
theorem dX7_keep_29 : decode cX7_keep 29 = .ok (.invokestatic 110, 3) := by decide +kernel
theorem dX7_keep_32 : decode cX7_keep 32 = .ok (.aload_n 0, 1) := by decide +kernel
theorem dX7_keep_33 : decode cX7_keep 33 = .ok (.dup, 1) := by decide +kernel
theorem dX7_keep_34 : decode cX7_keep 34 = .ok (.getfield 120, 3) := by decide +kernel
theorem dX7_keep_37 : decode cX7_keep 37 = .ok (.iconst 1, 1) := by decide +kernel
theorem dX7_keep_38 : decode cX7_keep 38 = .ok (.iadd, 1) := by decide +kernel
theorem dX7_keep_39 : decode cX7_keep 39 = .ok (.putfield 120, 3) := by decide +kernel
theorem dX7_keep_42 : decode cX7_keep 42 = .ok (.aload_n 0, 1) := by decide +kernel
theorem dX7_keep_43 : decode cX7_keep 43 = .ok (.getfield 120, 3) := by decide +kernel
theorem dX7_keep_46 : decode cX7_keep 46 = .ok (.ireturn, 1) := by decide +kernel
theorem dX7_back_0 : decode cX7_back 0 = .ok (.aload_n 0, 1) := by decide +kernel
theorem dX7_back_1 : decode cX7_back 1 = .ok (.getfield 120, 3) := by decide +kernel
theorem dX7_back_4 : decode cX7_back 4 = .ok (.ifCond .ne 6, 3) := by decide +kernel
theorem dX7_back_7 : decode cX7_back 7 = .ok (.bipush (-2), 2) := by decide +kernel
theorem dX7_back_9 : decode cX7_back 9 = .ok (.ireturn, 1) := by decide +kernel
theorem dX7_back_10 : decode cX7_back 10 = .ok (.aload_n 0, 1) := by decide +kernel
theorem dX7_back_11 : decode cX7_back 11 = .ok (.dup, 1) := by decide +kernel
theorem dX7_back_12 : decode cX7_back 12 = .ok (.getfield 120, 3) := by decide +kernel
theorem dX7_back_15 : decode cX7_back 15 = .ok (.iconst 1, 1) := by decide +kernel
theorem dX7_back_16 : decode cX7_back 16 = .ok (.isub, 1) := by decide +kernel
theorem dX7_back_17 : decode cX7_back 17 = .ok (.putfield 120, 3) := by decide +kernel
theorem dX7_back_20 : decode cX7_back 20 = .ok (.aload_n 0, 1) := by decide +kernel
theorem dX7_back_21 : decode cX7_back 21 = .ok (.getfield 40, 3) := by decide +kernel
theorem dX7_back_24 : decode cX7_back 24 = .ok (.bipush 32, 2) := by decide +kernel
theorem dX7_back_26 : decode cX7_back 26 = .ok (.aload_n 0, 1) := by decide +kernel
theorem dX7_back_27 : decode cX7_back 27 = .ok (.getfield 120, 3) := by decide +kernel
theorem dX7_back_30 : decode cX7_back 30 = .ok (.imul, 1) := by decide +kernel
theorem dX7_back_31 : decode cX7_back 31 = .ok (.aload_n 0, 1) := by decide +kernel
theorem dX7_back_32 : decode cX7_back 32 = .ok (.getfield 31, 3) := by decide +kernel
theorem dX7_back_35 : decode cX7_back 35 = .ok (.iconst 0, 1) := by decide +kernel
theorem dX7_back_36 : decode cX7_back 36 = .ok (.bipush 32, 2) := by decide +kernel
theorem dX7_back_38 : decode cX7_back 38 = .ok (.invokestatic 110, 3) := by decide +kernel
theorem dX7_back_41 : decode cX7_back 41 = .ok (.aload_n 0, 1) := by decide +kernel
theorem dX7_back_42 : decode cX7_back 42 = .ok (.iconst 0, 1) := by decide +kernel
theorem dX7_back_43 : decode cX7_back 43 = .ok (.putfield 117, 3) := by decide +kernel
theorem dX7_back_46 : decode cX7_back 46 = .ok (.aload_n 0, 1) := by decide +kernel
theorem dX7_back_47 : decode cX7_back 47 = .ok (.getfield 120, 3) := by decide +kernel
theorem dX7_back_50 : decode cX7_back 50 = .ok (.ireturn, 1) := by decide +kernel
theorem dX7_count_0 : decode cX7_count 0 = .ok (.iload_n 1, 1) := by decide +kernel
theorem dX7_count_1 : decode cX7_count 1 = .ok (.tableswitch 152 0 10 #[59, 64, 71, 80, 102, 113, 124, 132, 137, 142, 147], 59) := by decide +kernel
theorem dX7_count_60 : decode cX7_count 60 = .ok (.aload_n 0, 1) := by decide +kernel
theorem dX7_count_61 : decode cX7_count 61 = .ok (.getfield 56, 3) := by decide +kernel
theorem dX7_count_64 : decode cX7_count 64 = .ok (.ireturn, 1) := by decide +kernel
theorem dX7_count_65 : decode cX7_count 65 = .ok (.aload_n 0, 1) := by decide +kernel
theorem dX7_count_66 : decode cX7_count 66 = .ok (.getfield 31, 3) := by decide +kernel
theorem dX7_count_69 : decode cX7_count 69 = .ok (.iconst 0, 1) := by decide +kernel
theorem dX7_count_70 : decode cX7_count 70 = .ok (.iaload, 1) := by decide +kernel
theorem dX7_count_71 : decode cX7_count 71 = .ok (.ireturn, 1) := by decide +kernel
theorem dX7_count_72 : decode cX7_count 72 = .ok (.aload_n 0, 1) := by decide +kernel
theorem dX7_count_73 : decode cX7_count 73 = .ok (.aload_n 0, 1) := by decide +kernel
theorem dX7_count_74 : decode cX7_count 74 = .ok (.getfield 31, 3) := by decide +kernel
theorem dX7_count_77 : decode cX7_count 77 = .ok (.invokevirtual 145, 3) := by decide +kernel
theorem dX7_count_80 : decode cX7_count 80 = .ok (.ireturn, 1) := by decide +kernel
theorem dX7_count_81 : decode cX7_count 81 = .ok (.aload_n 0, 1) := by decide +kernel
theorem dX7_count_82 : decode cX7_count 82 = .ok (.getfield 31, 3) := by decide +kernel
theorem dX7_count_85 : decode cX7_count 85 = .ok (.iconst 0, 1) := by decide +kernel
theorem dX7_count_86 : decode cX7_count 86 = .ok (.iaload, 1) := by decide +kernel
theorem dX7_count_87 : decode cX7_count 87 = .ok (.ifCond .le 14, 3) := by decide +kernel
theorem dX7_count_90 : decode cX7_count 90 = .ok (.aload_n 0, 1) := by decide +kernel
theorem dX7_count_91 : decode cX7_count 91 = .ok (.getfield 31, 3) := by decide +kernel
theorem dX7_count_94 : decode cX7_count 94 = .ok (.iconst 0, 1) := by decide +kernel
theorem dX7_count_95 : decode cX7_count 95 = .ok (.iaload, 1) := by decide +kernel
theorem dX7_count_96 : decode cX7_count 96 = .ok (.iconst 1, 1) := by decide +kernel
theorem dX7_count_97 : decode cX7_count 97 = .ok (.isub, 1) := by decide +kernel
theorem dX7_count_98 : decode cX7_count 98 = .ok (.goto 4, 3) := by decide +kernel
theorem dX7_count_101 : decode cX7_count 101 = .ok (.iconst 0, 1) := by decide +kernel
theorem dX7_count_102 : decode cX7_count 102 = .ok (.ireturn, 1) := by decide +kernel
theorem dX7_count_103 : decode cX7_count 103 = .ok (.aload_n 0, 1) := by decide +kernel
theorem dX7_count_104 : decode cX7_count 104 = .ok (.getfield 31, 3) := by decide +kernel
theorem dX7_count_107 : decode cX7_count 107 = .ok (.bipush 29, 2) := by decide +kernel
theorem dX7_count_109 : decode cX7_count 109 = .ok (.iaload, 1) := by decide +kernel
theorem dX7_count_110 : decode cX7_count 110 = .ok (.invokestatic 151, 3) := by decide +kernel
theorem dX7_count_113 : decode cX7_count 113 = .ok (.ireturn, 1) := by decide +kernel
theorem dX7_count_114 : decode cX7_count 114 = .ok (.aload_n 0, 1) := by decide +kernel
theorem dX7_count_115 : decode cX7_count 115 = .ok (.getfield 31, 3) := by decide +kernel
theorem dX7_count_118 : decode cX7_count 118 = .ok (.bipush 30, 2) := by decide +kernel
theorem dX7_count_120 : decode cX7_count 120 = .ok (.iaload, 1) := by decide +kernel
theorem dX7_count_121 : decode cX7_count 121 = .ok (.invokestatic 151, 3) := by decide +kernel
theorem dX7_count_124 : decode cX7_count 124 = .ok (.ireturn, 1) := by decide +kernel
theorem dX7_count_125 : decode cX7_count 125 = .ok (.aload_n 0, 1) := by decide +kernel
theorem dX7_count_126 : decode cX7_count 126 = .ok (.getfield 31, 3) := by decide +kernel
theorem dX7_count_129 : decode cX7_count 129 = .ok (.bipush 31, 2) := by decide +kernel
theorem dX7_count_131 : decode cX7_count 131 = .ok (.iaload, 1) := by decide +kernel
theorem dX7_count_132 : decode cX7_count 132 = .ok (.ireturn, 1) := by decide +kernel
theorem dX7_count_133 : decode cX7_count 133 = .ok (.aload_n 0, 1) := by decide +kernel
theorem dX7_count_134 : decode cX7_count 134 = .ok (.getfield 114, 3) := by decide +kernel
theorem dX7_count_137 : decode cX7_count 137 = .ok (.ireturn, 1) := by decide +kernel
theorem dX7_count_138 : decode cX7_count 138 = .ok (.aload_n 0, 1) := by decide +kernel
theorem dX7_count_139 : decode cX7_count 139 = .ok (.getfield 117, 3) := by decide +kernel
theorem dX7_count_142 : decode cX7_count 142 = .ok (.ireturn, 1) := by decide +kernel
theorem dX7_count_143 : decode cX7_count 143 = .ok (.aload_n 0, 1) := by decide +kernel
theorem dX7_count_144 : decode cX7_count 144 = .ok (.getfield 120, 3) := by decide +kernel
theorem dX7_count_147 : decode cX7_count 147 = .ok (.ireturn, 1) := by decide +kernel
theorem dX7_count_148 : decode cX7_count 148 = .ok (.aload_n 0, 1) := by decide +kernel
theorem dX7_count_149 : decode cX7_count 149 = .ok (.getfield 67, 3) := by decide +kernel
theorem dX7_count_152 : decode cX7_count 152 = .ok (.ireturn, 1) := by decide +kernel
theorem dX7_count_153 : decode cX7_count 153 = .ok (.iconst (-1), 1) := by decide +kernel
theorem dX7_count_154 : decode cX7_count 154 = .ok (.ireturn, 1) := by decide +kernel
