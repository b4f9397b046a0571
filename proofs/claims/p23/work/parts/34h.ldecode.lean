/-! DECODE ROWS of the law's methods -/
theorem dL_isWell_68 : decode cL_isWell 68 = .ok (.iadd, 1) := by decide +kernel
theorem dL_isWell_69 : decode cL_isWell 69 = .ok (.istore_n 3, 1) := by decide +kernel
theorem dL_isWell_70 : decode cL_isWell 70 = .ok (.aload 4, 2) := by decide +kernel
theorem dL_isWell_72 : decode cL_isWell 72 = .ok (.iload 8, 2) := by decide +kernel
theorem dL_isWell_74 : decode cL_isWell 74 = .ok (.dup2, 1) := by decide +kernel
theorem dL_isWell_75 : decode cL_isWell 75 = .ok (.iaload, 1) := by decide +kernel
theorem dL_isWell_76 : decode cL_isWell 76 = .ok (.iconst 1, 1) := by decide +kernel
theorem dL_isWell_77 : decode cL_isWell 77 = .ok (.iadd, 1) := by decide +kernel
theorem dL_isWell_78 : decode cL_isWell 78 = .ok (.iastore, 1) := by decide +kernel
theorem dL_isWell_79 : decode cL_isWell 79 = .ok (.iload 6, 2) := by decide +kernel
theorem dL_isWell_81 : decode cL_isWell 81 = .ok (.ifCond .eq 147, 3) := by decide +kernel
theorem dL_isWell_84 : decode cL_isWell 84 = .ok (.aload_n 0, 1) := by decide +kernel
theorem dL_isWell_85 : decode cL_isWell 85 = .ok (.iload 7, 2) := by decide +kernel
theorem dL_isWell_87 : decode cL_isWell 87 = .ok (.iconst 3, 1) := by decide +kernel
theorem dL_isWell_88 : decode cL_isWell 88 = .ok (.invokevirtual 31, 3) := by decide +kernel
theorem dL_isWell_91 : decode cL_isWell 91 = .ok (.ifCond .lt 7, 3) := by decide +kernel
theorem dL_isWell_94 : decode cL_isWell 94 = .ok (.iconst 1, 1) := by decide +kernel
theorem dL_isWell_95 : decode cL_isWell 95 = .ok (.goto 4, 3) := by decide +kernel
theorem dL_isWell_98 : decode cL_isWell 98 = .ok (.iconst 0, 1) := by decide +kernel
theorem dL_isWell_99 : decode cL_isWell 99 = .ok (.iload 8, 2) := by decide +kernel
theorem dL_isWell_101 : decode cL_isWell 101 = .ok (.iconst 1, 1) := by decide +kernel
theorem dL_isWell_102 : decode cL_isWell 102 = .ok (.if_icmp .ne 7, 3) := by decide +kernel
theorem dL_isWell_105 : decode cL_isWell 105 = .ok (.iconst 1, 1) := by decide +kernel
theorem dL_isWell_106 : decode cL_isWell 106 = .ok (.goto 4, 3) := by decide +kernel
theorem dL_isWell_109 : decode cL_isWell 109 = .ok (.iconst 0, 1) := by decide +kernel
theorem dL_isWell_110 : decode cL_isWell 110 = .ok (.if_icmp .ne 118, 3) := by decide +kernel
theorem dL_isWell_113 : decode cL_isWell 113 = .ok (.aload_n 0, 1) := by decide +kernel
theorem dL_isWell_114 : decode cL_isWell 114 = .ok (.iload 7, 2) := by decide +kernel
theorem dL_isWell_116 : decode cL_isWell 116 = .ok (.bipush 7, 2) := by decide +kernel
theorem dL_isWell_118 : decode cL_isWell 118 = .ok (.invokevirtual 31, 3) := by decide +kernel
theorem dL_isWell_121 : decode cL_isWell 121 = .ok (.ifCond .le 7, 3) := by decide +kernel
theorem dL_isWell_124 : decode cL_isWell 124 = .ok (.iconst 1, 1) := by decide +kernel
theorem dL_isWell_125 : decode cL_isWell 125 = .ok (.goto 4, 3) := by decide +kernel
theorem dL_isWell_128 : decode cL_isWell 128 = .ok (.iconst 0, 1) := by decide +kernel
theorem dL_isWell_129 : decode cL_isWell 129 = .ok (.iload 8, 2) := by decide +kernel
theorem dL_isWell_131 : decode cL_isWell 131 = .ok (.iconst 1, 1) := by decide +kernel
theorem dL_isWell_132 : decode cL_isWell 132 = .ok (.if_icmp .le 7, 3) := by decide +kernel
theorem dL_isWell_135 : decode cL_isWell 135 = .ok (.iconst 1, 1) := by decide +kernel
theorem dL_isWell_136 : decode cL_isWell 136 = .ok (.goto 4, 3) := by decide +kernel
theorem dL_isWell_139 : decode cL_isWell 139 = .ok (.iconst 0, 1) := by decide +kernel
theorem dL_isWell_140 : decode cL_isWell 140 = .ok (.if_icmp .ne 88, 3) := by decide +kernel
theorem dL_isWell_143 : decode cL_isWell 143 = .ok (.aload_n 0, 1) := by decide +kernel
theorem dL_isWell_144 : decode cL_isWell 144 = .ok (.iload 7, 2) := by decide +kernel
theorem dL_isWell_146 : decode cL_isWell 146 = .ok (.bipush 8, 2) := by decide +kernel
theorem dL_isWell_148 : decode cL_isWell 148 = .ok (.invokevirtual 31, 3) := by decide +kernel
theorem dL_isWell_151 : decode cL_isWell 151 = .ok (.aload_n 0, 1) := by decide +kernel
theorem dL_isWell_152 : decode cL_isWell 152 = .ok (.iload 7, 2) := by decide +kernel
theorem dL_isWell_154 : decode cL_isWell 154 = .ok (.iconst 4, 1) := by decide +kernel
theorem dL_isWell_155 : decode cL_isWell 155 = .ok (.invokevirtual 31, 3) := by decide +kernel
theorem dL_isWell_158 : decode cL_isWell 158 = .ok (.if_icmp .gt 70, 3) := by decide +kernel
theorem dL_isWell_161 : decode cL_isWell 161 = .ok (.iload 8, 2) := by decide +kernel
theorem dL_isWell_163 : decode cL_isWell 163 = .ok (.iconst 2, 1) := by decide +kernel
theorem dL_isWell_164 : decode cL_isWell 164 = .ok (.if_icmp .lt 14, 3) := by decide +kernel
theorem dL_isWell_167 : decode cL_isWell 167 = .ok (.aload_n 0, 1) := by decide +kernel
theorem dL_isWell_168 : decode cL_isWell 168 = .ok (.iload 7, 2) := by decide +kernel
theorem dL_isWell_170 : decode cL_isWell 170 = .ok (.bipush 8, 2) := by decide +kernel
theorem dL_isWell_172 : decode cL_isWell 172 = .ok (.invokevirtual 31, 3) := by decide +kernel
theorem dL_isWell_175 : decode cL_isWell 175 = .ok (.ifCond .ne 53, 3) := by decide +kernel
theorem dL_isWell_178 : decode cL_isWell 178 = .ok (.aload_n 0, 1) := by decide +kernel
theorem dL_isWell_179 : decode cL_isWell 179 = .ok (.iload 7, 2) := by decide +kernel
theorem dL_isWell_181 : decode cL_isWell 181 = .ok (.bipush 6, 2) := by decide +kernel
theorem dL_isWell_183 : decode cL_isWell 183 = .ok (.invokevirtual 31, 3) := by decide +kernel
theorem dL_isWell_186 : decode cL_isWell 186 = .ok (.aload_n 0, 1) := by decide +kernel
theorem dL_isWell_187 : decode cL_isWell 187 = .ok (.iload 7, 2) := by decide +kernel
theorem dL_isWell_189 : decode cL_isWell 189 = .ok (.iconst 5, 1) := by decide +kernel
theorem dL_isWell_190 : decode cL_isWell 190 = .ok (.invokevirtual 31, 3) := by decide +kernel
theorem dL_isWell_193 : decode cL_isWell 193 = .ok (.if_icmp .lt 35, 3) := by decide +kernel
theorem dL_isWell_196 : decode cL_isWell 196 = .ok (.aload_n 0, 1) := by decide +kernel
theorem dL_isWell_197 : decode cL_isWell 197 = .ok (.iload 7, 2) := by decide +kernel
theorem dL_isWell_199 : decode cL_isWell 199 = .ok (.invokevirtual 73, 3) := by decide +kernel
theorem dL_isWell_202 : decode cL_isWell 202 = .ok (.ifCond .ne 7, 3) := by decide +kernel
theorem dL_isWell_205 : decode cL_isWell 205 = .ok (.iconst 1, 1) := by decide +kernel
theorem dL_isWell_206 : decode cL_isWell 206 = .ok (.goto 4, 3) := by decide +kernel
theorem dL_isWell_209 : decode cL_isWell 209 = .ok (.iconst 0, 1) := by decide +kernel
theorem dL_isWell_210 : decode cL_isWell 210 = .ok (.iload 8, 2) := by decide +kernel
theorem dL_isWell_212 : decode cL_isWell 212 = .ok (.iconst 1, 1) := by decide +kernel
theorem dL_isWell_213 : decode cL_isWell 213 = .ok (.if_icmp .le 7, 3) := by decide +kernel
theorem dL_isWell_216 : decode cL_isWell 216 = .ok (.iconst 1, 1) := by decide +kernel
theorem dL_isWell_217 : decode cL_isWell 217 = .ok (.goto 4, 3) := by decide +kernel
theorem dL_isWell_220 : decode cL_isWell 220 = .ok (.iconst 0, 1) := by decide +kernel
theorem dL_isWell_221 : decode cL_isWell 221 = .ok (.if_icmp .ne 7, 3) := by decide +kernel
theorem dL_isWell_224 : decode cL_isWell 224 = .ok (.iconst 1, 1) := by decide +kernel
theorem dL_isWell_225 : decode cL_isWell 225 = .ok (.goto 4, 3) := by decide +kernel
theorem dL_isWell_228 : decode cL_isWell 228 = .ok (.iconst 0, 1) := by decide +kernel
theorem dL_isWell_229 : decode cL_isWell 229 = .ok (.istore 6, 2) := by decide +kernel
theorem dL_isWell_231 : decode cL_isWell 231 = .ok (.iinc 7 1, 3) := by decide +kernel
theorem dL_isWell_234 : decode cL_isWell 234 = .ok (.goto (-214), 3) := by decide +kernel
theorem dL_isWell_237 : decode cL_isWell 237 = .ok (.iconst 0, 1) := by decide +kernel
theorem dL_isWell_238 : decode cL_isWell 238 = .ok (.istore 7, 2) := by decide +kernel
theorem dL_isWell_240 : decode cL_isWell 240 = .ok (.iload 7, 2) := by decide +kernel
theorem dL_isWell_242 : decode cL_isWell 242 = .ok (.bipush 12, 2) := by decide +kernel
theorem dL_isWell_244 : decode cL_isWell 244 = .ok (.if_icmp .ge 234, 3) := by decide +kernel
theorem dL_isWell_247 : decode cL_isWell 247 = .ok (.aload_n 0, 1) := by decide +kernel
theorem dL_isWell_248 : decode cL_isWell 248 = .ok (.iload 7, 2) := by decide +kernel
theorem dL_isWell_250 : decode cL_isWell 250 = .ok (.iconst 3, 1) := by decide +kernel
theorem dL_isWell_251 : decode cL_isWell 251 = .ok (.invokevirtual 21, 3) := by decide +kernel
theorem dL_isWell_254 : decode cL_isWell 254 = .ok (.istore 8, 2) := by decide +kernel
theorem dL_isWell_256 : decode cL_isWell 256 = .ok (.iload 5, 2) := by decide +kernel
theorem dL_isWell_258 : decode cL_isWell 258 = .ok (.aload_n 0, 1) := by decide +kernel
theorem dL_isWell_259 : decode cL_isWell 259 = .ok (.iload 7, 2) := by decide +kernel
theorem dL_isWell_261 : decode cL_isWell 261 = .ok (.iconst 0, 1) := by decide +kernel
theorem dL_isWell_262 : decode cL_isWell 262 = .ok (.invokevirtual 21, 3) := by decide +kernel
theorem dL_isWell_265 : decode cL_isWell 265 = .ok (.iload 7, 2) := by decide +kernel
theorem dL_isWell_267 : decode cL_isWell 267 = .ok (.ishl, 1) := by decide +kernel
theorem dL_isWell_268 : decode cL_isWell 268 = .ok (.iadd, 1) := by decide +kernel
theorem dL_isWell_269 : decode cL_isWell 269 = .ok (.istore 5, 2) := by decide +kernel
theorem dL_isWell_271 : decode cL_isWell 271 = .ok (.iconst 0, 1) := by decide +kernel
theorem dL_isWell_272 : decode cL_isWell 272 = .ok (.istore 9, 2) := by decide +kernel
theorem dL_isWell_274 : decode cL_isWell 274 = .ok (.iconst 0, 1) := by decide +kernel
theorem dL_isWell_275 : decode cL_isWell 275 = .ok (.istore 10, 2) := by decide +kernel
