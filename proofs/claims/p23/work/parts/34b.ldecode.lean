/-! DECODE ROWS of the law's methods -/
theorem dL_up_0 : decode cL_up 0 = .ok (.iload_n 0, 1) := by decide +kernel
theorem dL_up_1 : decode cL_up 1 = .ok (.ldc 8, 2) := by decide +kernel
theorem dL_up_3 : decode cL_up 3 = .ok (.iand, 1) := by decide +kernel
theorem dL_up_4 : decode cL_up 4 = .ok (.iload_n 1, 1) := by decide +kernel
theorem dL_up_5 : decode cL_up 5 = .ok (.irem, 1) := by decide +kernel
theorem dL_up_6 : decode cL_up 6 = .ok (.ireturn, 1) := by decide +kernel
theorem dL_cell_0 : decode cL_cell 0 = .ok (.iload_n 1, 1) := by decide +kernel
theorem dL_cell_1 : decode cL_cell 1 = .ok (.aload_n 0, 1) := by decide +kernel
theorem dL_cell_2 : decode cL_cell 2 = .ok (.arraylength, 1) := by decide +kernel
theorem dL_cell_3 : decode cL_cell 3 = .ok (.if_icmp .ge 9, 3) := by decide +kernel
theorem dL_cell_6 : decode cL_cell 6 = .ok (.aload_n 0, 1) := by decide +kernel
theorem dL_cell_7 : decode cL_cell 7 = .ok (.iload_n 1, 1) := by decide +kernel
theorem dL_cell_8 : decode cL_cell 8 = .ok (.iaload, 1) := by decide +kernel
theorem dL_cell_9 : decode cL_cell 9 = .ok (.goto 11, 3) := by decide +kernel
theorem dL_cell_12 : decode cL_cell 12 = .ok (.ldc 7, 2) := by decide +kernel
theorem dL_cell_14 : decode cL_cell 14 = .ok (.iload_n 1, 1) := by decide +kernel
theorem dL_cell_15 : decode cL_cell 15 = .ok (.sipush 1447, 3) := by decide +kernel
theorem dL_cell_18 : decode cL_cell 18 = .ok (.iadd, 1) := by decide +kernel
theorem dL_cell_19 : decode cL_cell 19 = .ok (.imul, 1) := by decide +kernel
theorem dL_cell_20 : decode cL_cell 20 = .ok (.ireturn, 1) := by decide +kernel
theorem dL_isStep_0 : decode cL_isStep 0 = .ok (.iload_n 2, 1) := by decide +kernel
theorem dL_isStep_1 : decode cL_isStep 1 = .ok (.iconst 4, 1) := by decide +kernel
theorem dL_isStep_2 : decode cL_isStep 2 = .ok (.ishr, 1) := by decide +kernel
theorem dL_isStep_3 : decode cL_isStep 3 = .ok (.istore 4, 2) := by decide +kernel
theorem dL_isStep_5 : decode cL_isStep 5 = .ok (.aload_n 0, 1) := by decide +kernel
theorem dL_isStep_6 : decode cL_isStep 6 = .ok (.iconst 4, 1) := by decide +kernel
theorem dL_isStep_7 : decode cL_isStep 7 = .ok (.invokevirtual 9, 3) := by decide +kernel
theorem dL_isStep_10 : decode cL_isStep 10 = .ok (.istore 5, 2) := by decide +kernel
theorem dL_isStep_12 : decode cL_isStep 12 = .ok (.iload_n 2, 1) := by decide +kernel
theorem dL_isStep_13 : decode cL_isStep 13 = .ok (.bipush 16, 2) := by decide +kernel
theorem dL_isStep_15 : decode cL_isStep 15 = .ok (.invokestatic 15, 3) := by decide +kernel
theorem dL_isStep_18 : decode cL_isStep 18 = .ok (.tableswitch 658 0 9 #[54, 233, 366, 451, 477, 545, 545, 545, 545, 545], 54) := by decide +kernel
theorem dL_isStep_72 : decode cL_isStep 72 = .ok (.iload 4, 2) := by decide +kernel
theorem dL_isStep_74 : decode cL_isStep 74 = .ok (.iconst 2, 1) := by decide +kernel
theorem dL_isStep_75 : decode cL_isStep 75 = .ok (.invokestatic 15, 3) := by decide +kernel
theorem dL_isStep_78 : decode cL_isStep 78 = .ok (.ifCond .ne 7, 3) := by decide +kernel
theorem dL_isStep_81 : decode cL_isStep 81 = .ok (.iconst 1, 1) := by decide +kernel
theorem dL_isStep_82 : decode cL_isStep 82 = .ok (.goto 4, 3) := by decide +kernel
theorem dL_isStep_85 : decode cL_isStep 85 = .ok (.iconst 0, 1) := by decide +kernel
theorem dL_isStep_86 : decode cL_isStep 86 = .ok (.istore 6, 2) := by decide +kernel
theorem dL_isStep_88 : decode cL_isStep 88 = .ok (.iload 6, 2) := by decide +kernel
theorem dL_isStep_90 : decode cL_isStep 90 = .ok (.ifCond .eq 13, 3) := by decide +kernel
theorem dL_isStep_93 : decode cL_isStep 93 = .ok (.iconst 1, 1) := by decide +kernel
theorem dL_isStep_94 : decode cL_isStep 94 = .ok (.iload_n 3, 1) := by decide +kernel
theorem dL_isStep_95 : decode cL_isStep 95 = .ok (.iconst 4, 1) := by decide +kernel
theorem dL_isStep_96 : decode cL_isStep 96 = .ok (.invokestatic 15, 3) := by decide +kernel
theorem dL_isStep_99 : decode cL_isStep 99 = .ok (.iadd, 1) := by decide +kernel
theorem dL_isStep_100 : decode cL_isStep 100 = .ok (.goto 24, 3) := by decide +kernel
theorem dL_isStep_103 : decode cL_isStep 103 = .ok (.iload_n 3, 1) := by decide +kernel
theorem dL_isStep_104 : decode cL_isStep 104 = .ok (.iload 4, 2) := by decide +kernel
theorem dL_isStep_106 : decode cL_isStep 106 = .ok (.iconst 3, 1) := by decide +kernel
theorem dL_isStep_107 : decode cL_isStep 107 = .ok (.ishr, 1) := by decide +kernel
theorem dL_isStep_108 : decode cL_isStep 108 = .ok (.iconst 2, 1) := by decide +kernel
theorem dL_isStep_109 : decode cL_isStep 109 = .ok (.invokestatic 15, 3) := by decide +kernel
theorem dL_isStep_112 : decode cL_isStep 112 = .ok (.ifCond .ne 8, 3) := by decide +kernel
theorem dL_isStep_115 : decode cL_isStep 115 = .ok (.bipush 10, 2) := by decide +kernel
theorem dL_isStep_117 : decode cL_isStep 117 = .ok (.goto 4, 3) := by decide +kernel
theorem dL_isStep_120 : decode cL_isStep 120 = .ok (.iconst 3, 1) := by decide +kernel
theorem dL_isStep_121 : decode cL_isStep 121 = .ok (.invokestatic 15, 3) := by decide +kernel
theorem dL_isStep_124 : decode cL_isStep 124 = .ok (.istore 7, 2) := by decide +kernel
theorem dL_isStep_126 : decode cL_isStep 126 = .ok (.iload 6, 2) := by decide +kernel
theorem dL_isStep_128 : decode cL_isStep 128 = .ok (.ifCond .eq 7, 3) := by decide +kernel
theorem dL_isStep_131 : decode cL_isStep 131 = .ok (.iconst 0, 1) := by decide +kernel
theorem dL_isStep_132 : decode cL_isStep 132 = .ok (.goto 4, 3) := by decide +kernel
theorem dL_isStep_135 : decode cL_isStep 135 = .ok (.iconst 2, 1) := by decide +kernel
theorem dL_isStep_136 : decode cL_isStep 136 = .ok (.istore 8, 2) := by decide +kernel
theorem dL_isStep_138 : decode cL_isStep 138 = .ok (.aload_n 0, 1) := by decide +kernel
theorem dL_isStep_139 : decode cL_isStep 139 = .ok (.iload 8, 2) := by decide +kernel
theorem dL_isStep_141 : decode cL_isStep 141 = .ok (.invokevirtual 9, 3) := by decide +kernel
theorem dL_isStep_144 : decode cL_isStep 144 = .ok (.istore 9, 2) := by decide +kernel
theorem dL_isStep_146 : decode cL_isStep 146 = .ok (.iconst 0, 1) := by decide +kernel
theorem dL_isStep_147 : decode cL_isStep 147 = .ok (.istore 10, 2) := by decide +kernel
theorem dL_isStep_149 : decode cL_isStep 149 = .ok (.iconst 0, 1) := by decide +kernel
theorem dL_isStep_150 : decode cL_isStep 150 = .ok (.istore 11, 2) := by decide +kernel
theorem dL_isStep_152 : decode cL_isStep 152 = .ok (.iload 11, 2) := by decide +kernel
theorem dL_isStep_154 : decode cL_isStep 154 = .ok (.bipush 12, 2) := by decide +kernel
theorem dL_isStep_156 : decode cL_isStep 156 = .ok (.if_icmp .ge 44, 3) := by decide +kernel
theorem dL_isStep_159 : decode cL_isStep 159 = .ok (.iload 10, 2) := by decide +kernel
theorem dL_isStep_161 : decode cL_isStep 161 = .ok (.ifCond .ne 26, 3) := by decide +kernel
theorem dL_isStep_164 : decode cL_isStep 164 = .ok (.aload_n 0, 1) := by decide +kernel
theorem dL_isStep_165 : decode cL_isStep 165 = .ok (.iload 11, 2) := by decide +kernel
theorem dL_isStep_167 : decode cL_isStep 167 = .ok (.iconst 0, 1) := by decide +kernel
theorem dL_isStep_168 : decode cL_isStep 168 = .ok (.invokevirtual 21, 3) := by decide +kernel
theorem dL_isStep_171 : decode cL_isStep 171 = .ok (.iconst 1, 1) := by decide +kernel
theorem dL_isStep_172 : decode cL_isStep 172 = .ok (.if_icmp .ne 19, 3) := by decide +kernel
theorem dL_isStep_175 : decode cL_isStep 175 = .ok (.aload_n 0, 1) := by decide +kernel
theorem dL_isStep_176 : decode cL_isStep 176 = .ok (.iload 11, 2) := by decide +kernel
theorem dL_isStep_178 : decode cL_isStep 178 = .ok (.iconst 1, 1) := by decide +kernel
theorem dL_isStep_179 : decode cL_isStep 179 = .ok (.invokevirtual 21, 3) := by decide +kernel
theorem dL_isStep_182 : decode cL_isStep 182 = .ok (.iload 7, 2) := by decide +kernel
theorem dL_isStep_184 : decode cL_isStep 184 = .ok (.if_icmp .le 7, 3) := by decide +kernel
theorem dL_isStep_187 : decode cL_isStep 187 = .ok (.iconst 1, 1) := by decide +kernel
theorem dL_isStep_188 : decode cL_isStep 188 = .ok (.goto 4, 3) := by decide +kernel
theorem dL_isStep_191 : decode cL_isStep 191 = .ok (.iconst 0, 1) := by decide +kernel
theorem dL_isStep_192 : decode cL_isStep 192 = .ok (.istore 10, 2) := by decide +kernel
theorem dL_isStep_194 : decode cL_isStep 194 = .ok (.iinc 11 1, 3) := by decide +kernel
theorem dL_isStep_197 : decode cL_isStep 197 = .ok (.goto (-45), 3) := by decide +kernel
theorem dL_isStep_200 : decode cL_isStep 200 = .ok (.aload_n 0, 1) := by decide +kernel
theorem dL_isStep_201 : decode cL_isStep 201 = .ok (.iload 8, 2) := by decide +kernel
theorem dL_isStep_203 : decode cL_isStep 203 = .ok (.iload 7, 2) := by decide +kernel
theorem dL_isStep_205 : decode cL_isStep 205 = .ok (.invokevirtual 24, 3) := by decide +kernel
theorem dL_isStep_208 : decode cL_isStep 208 = .ok (.istore 11, 2) := by decide +kernel
theorem dL_isStep_210 : decode cL_isStep 210 = .ok (.iload 11, 2) := by decide +kernel
theorem dL_isStep_212 : decode cL_isStep 212 = .ok (.aload_n 1, 1) := by decide +kernel
theorem dL_isStep_213 : decode cL_isStep 213 = .ok (.iload 8, 2) := by decide +kernel
theorem dL_isStep_215 : decode cL_isStep 215 = .ok (.iload 7, 2) := by decide +kernel
theorem dL_isStep_217 : decode cL_isStep 217 = .ok (.invokevirtual 24, 3) := by decide +kernel
theorem dL_isStep_220 : decode cL_isStep 220 = .ok (.if_icmp .ne 29, 3) := by decide +kernel
theorem dL_isStep_223 : decode cL_isStep 223 = .ok (.iload 11, 2) := by decide +kernel
theorem dL_isStep_225 : decode cL_isStep 225 = .ok (.iload 6, 2) := by decide +kernel
