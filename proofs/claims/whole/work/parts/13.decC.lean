theorem dX10_anew_0 : decode mX10_anew.2.1 0 = .ok (.aload_n 0, 1) := by decide +kernel
theorem dX10_anew_1 : decode mX10_anew.2.1 1 = .ok (.iconst 0, 1) := by decide +kernel
theorem dX10_anew_2 : decode mX10_anew.2.1 2 = .ok (.putfield 126, 3) := by decide +kernel
theorem dX10_anew_5 : decode mX10_anew.2.1 5 = .ok (.aload_n 0, 1) := by decide +kernel
theorem dX10_anew_6 : decode mX10_anew.2.1 6 = .ok (.iconst 1, 1) := by decide +kernel
theorem dX10_anew_7 : decode mX10_anew.2.1 7 = .ok (.putfield 129, 3) := by decide +kernel
theorem dX10_anew_10 : decode mX10_anew.2.1 10 = .ok (.aload_n 0, 1) := by decide +kernel
theorem dX10_anew_11 : decode mX10_anew.2.1 11 = .ok (.getfield 35, 3) := by decide +kernel
theorem dX10_anew_14 : decode mX10_anew.2.1 14 = .ok (.iconst 0, 1) := by decide +kernel
theorem dX10_anew_15 : decode mX10_anew.2.1 15 = .ok (.iconst 0, 1) := by decide +kernel
theorem dX10_anew_16 : decode mX10_anew.2.1 16 = .ok (.iastore, 1) := by decide +kernel
theorem dX10_anew_17 : decode mX10_anew.2.1 17 = .ok (.aload_n 0, 1) := by decide +kernel
theorem dX10_anew_18 : decode mX10_anew.2.1 18 = .ok (.iconst 0, 1) := by decide +kernel
theorem dX10_anew_19 : decode mX10_anew.2.1 19 = .ok (.putfield 132, 3) := by decide +kernel
theorem dX10_anew_22 : decode mX10_anew.2.1 22 = .ok (.aload_n 0, 1) := by decide +kernel
theorem dX10_anew_23 : decode mX10_anew.2.1 23 = .ok (.iconst 0, 1) := by decide +kernel
theorem dX10_anew_24 : decode mX10_anew.2.1 24 = .ok (.putfield 135, 3) := by decide +kernel
theorem dX10_anew_27 : decode mX10_anew.2.1 27 = .ok (.return_, 1) := by decide +kernel
theorem dX10_in_0 : decode mX10_in.2.1 0 = .ok (.lload_n 0, 1) := by decide +kernel
theorem dX10_in_1 : decode mX10_in.2.1 1 = .ok (.lload_n 2, 1) := by decide +kernel
theorem dX10_in_2 : decode mX10_in.2.1 2 = .ok (.lcmp, 1) := by decide +kernel
theorem dX10_in_3 : decode mX10_in.2.1 3 = .ok (.ifCond .lt 14, 3) := by decide +kernel
theorem dX10_in_6 : decode mX10_in.2.1 6 = .ok (.lload_n 0, 1) := by decide +kernel
theorem dX10_in_7 : decode mX10_in.2.1 7 = .ok (.lload 4, 2) := by decide +kernel
theorem dX10_in_9 : decode mX10_in.2.1 9 = .ok (.lcmp, 1) := by decide +kernel
theorem dX10_in_10 : decode mX10_in.2.1 10 = .ok (.ifCond .gt 7, 3) := by decide +kernel
theorem dX10_in_13 : decode mX10_in.2.1 13 = .ok (.iconst 1, 1) := by decide +kernel
theorem dX10_in_14 : decode mX10_in.2.1 14 = .ok (.goto 4, 3) := by decide +kernel
theorem dX10_in_17 : decode mX10_in.2.1 17 = .ok (.iconst 0, 1) := by decide +kernel
theorem dX10_in_18 : decode mX10_in.2.1 18 = .ok (.ireturn, 1) := by decide +kernel
theorem dX10_at_0 : decode mX10_at.2.1 0 = .ok (.bipush 57, 2) := by decide +kernel
theorem dX10_at_2 : decode mX10_at.2.1 2 = .ok (.iload_n 1, 1) := by decide +kernel
theorem dX10_at_3 : decode mX10_at.2.1 3 = .ok (.imul, 1) := by decide +kernel
theorem dX10_at_4 : decode mX10_at.2.1 4 = .ok (.iload_n 2, 1) := by decide +kernel
theorem dX10_at_5 : decode mX10_at.2.1 5 = .ok (.iadd, 1) := by decide +kernel
theorem dX10_at_6 : decode mX10_at.2.1 6 = .ok (.ireturn, 1) := by decide +kernel
theorem dX10_byteAt_0 : decode mX10_byteAt.2.1 0 = .ok (.iload_n 1, 1) := by decide +kernel
theorem dX10_byteAt_1 : decode mX10_byteAt.2.1 1 = .ok (.aload_n 0, 1) := by decide +kernel
theorem dX10_byteAt_2 : decode mX10_byteAt.2.1 2 = .ok (.getfield 185, 3) := by decide +kernel
theorem dX10_byteAt_5 : decode mX10_byteAt.2.1 5 = .ok (.if_icmp .ge 12, 3) := by decide +kernel
theorem dX10_byteAt_8 : decode mX10_byteAt.2.1 8 = .ok (.aload_n 0, 1) := by decide +kernel
theorem dX10_byteAt_9 : decode mX10_byteAt.2.1 9 = .ok (.getfield 41, 3) := by decide +kernel
theorem dX10_byteAt_12 : decode mX10_byteAt.2.1 12 = .ok (.iload_n 1, 1) := by decide +kernel
theorem dX10_byteAt_13 : decode mX10_byteAt.2.1 13 = .ok (.iaload, 1) := by decide +kernel
theorem dX10_byteAt_14 : decode mX10_byteAt.2.1 14 = .ok (.goto 5, 3) := by decide +kernel
theorem dX10_byteAt_17 : decode mX10_byteAt.2.1 17 = .ok (.bipush (-4), 2) := by decide +kernel
theorem dX10_byteAt_19 : decode mX10_byteAt.2.1 19 = .ok (.ireturn, 1) := by decide +kernel
theorem dX10_reads_0 : decode mX10_reads.2.1 0 = .ok (.aload_n 0, 1) := by decide +kernel
theorem dX10_reads_1 : decode mX10_reads.2.1 1 = .ok (.getfield 188, 3) := by decide +kernel
theorem dX10_reads_4 : decode mX10_reads.2.1 4 = .ok (.ifCond .le 4, 3) := by decide +kernel
theorem dX10_reads_7 : decode mX10_reads.2.1 7 = .ok (.return_, 1) := by decide +kernel
theorem dX10_reads_8 : decode mX10_reads.2.1 8 = .ok (.aload_n 0, 1) := by decide +kernel
theorem dX10_reads_9 : decode mX10_reads.2.1 9 = .ok (.aload_n 0, 1) := by decide +kernel
theorem dX10_reads_10 : decode mX10_reads.2.1 10 = .ok (.getfield 197, 3) := by decide +kernel
theorem dX10_reads_13 : decode mX10_reads.2.1 13 = .ok (.invokevirtual 200, 3) := by decide +kernel
theorem dX10_reads_16 : decode mX10_reads.2.1 16 = .ok (.bipush 32, 2) := by decide +kernel
theorem dX10_reads_18 : decode mX10_reads.2.1 18 = .ok (.if_icmp .ne 16, 3) := by decide +kernel
theorem dX10_reads_21 : decode mX10_reads.2.1 21 = .ok (.aload_n 0, 1) := by decide +kernel
theorem dX10_reads_22 : decode mX10_reads.2.1 22 = .ok (.dup, 1) := by decide +kernel
theorem dX10_reads_23 : decode mX10_reads.2.1 23 = .ok (.getfield 197, 3) := by decide +kernel
theorem dX10_reads_26 : decode mX10_reads.2.1 26 = .ok (.iconst 1, 1) := by decide +kernel
theorem dX10_reads_27 : decode mX10_reads.2.1 27 = .ok (.iadd, 1) := by decide +kernel
theorem dX10_reads_28 : decode mX10_reads.2.1 28 = .ok (.putfield 197, 3) := by decide +kernel
theorem dX10_reads_31 : decode mX10_reads.2.1 31 = .ok (.goto (-23), 3) := by decide +kernel
theorem dX10_reads_34 : decode mX10_reads.2.1 34 = .ok (.aload_n 0, 1) := by decide +kernel
theorem dX10_reads_35 : decode mX10_reads.2.1 35 = .ok (.aload_n 0, 1) := by decide +kernel
theorem dX10_reads_36 : decode mX10_reads.2.1 36 = .ok (.getfield 197, 3) := by decide +kernel
theorem dX10_reads_39 : decode mX10_reads.2.1 39 = .ok (.putfield 191, 3) := by decide +kernel
theorem dX10_reads_42 : decode mX10_reads.2.1 42 = .ok (.aload_n 0, 1) := by decide +kernel
theorem dX10_reads_43 : decode mX10_reads.2.1 43 = .ok (.aload_n 0, 1) := by decide +kernel
theorem dX10_reads_44 : decode mX10_reads.2.1 44 = .ok (.getfield 197, 3) := by decide +kernel
theorem dX10_reads_47 : decode mX10_reads.2.1 47 = .ok (.invokevirtual 200, 3) := by decide +kernel
theorem dX10_reads_50 : decode mX10_reads.2.1 50 = .ok (.istore_n 1, 1) := by decide +kernel
theorem dX10_reads_51 : decode mX10_reads.2.1 51 = .ok (.aload_n 0, 1) := by decide +kernel
theorem dX10_reads_52 : decode mX10_reads.2.1 52 = .ok (.iload_n 1, 1) := by decide +kernel
theorem dX10_reads_53 : decode mX10_reads.2.1 53 = .ok (.putfield 203, 3) := by decide +kernel
theorem dX10_reads_56 : decode mX10_reads.2.1 56 = .ok (.iload_n 1, 1) := by decide +kernel
theorem dX10_reads_57 : decode mX10_reads.2.1 57 = .ok (.bipush (-4), 2) := by decide +kernel
theorem dX10_reads_59 : decode mX10_reads.2.1 59 = .ok (.if_icmp .ne 11, 3) := by decide +kernel
theorem dX10_reads_62 : decode mX10_reads.2.1 62 = .ok (.aload_n 0, 1) := by decide +kernel
theorem dX10_reads_63 : decode mX10_reads.2.1 63 = .ok (.iconst 0, 1) := by decide +kernel
theorem dX10_reads_64 : decode mX10_reads.2.1 64 = .ok (.putfield 206, 3) := by decide +kernel
theorem dX10_reads_67 : decode mX10_reads.2.1 67 = .ok (.goto 216, 3) := by decide +kernel
theorem dX10_reads_70 : decode mX10_reads.2.1 70 = .ok (.iload_n 1, 1) := by decide +kernel
theorem dX10_reads_71 : decode mX10_reads.2.1 71 = .ok (.i2l, 1) := by decide +kernel
theorem dX10_reads_72 : decode mX10_reads.2.1 72 = .ok (.ldc2_w 209, 3) := by decide +kernel
theorem dX10_reads_75 : decode mX10_reads.2.1 75 = .ok (.ldc2_w 211, 3) := by decide +kernel
theorem dX10_reads_78 : decode mX10_reads.2.1 78 = .ok (.invokestatic 181, 3) := by decide +kernel
theorem dX10_reads_81 : decode mX10_reads.2.1 81 = .ok (.ifCond .eq 42, 3) := by decide +kernel
theorem dX10_reads_84 : decode mX10_reads.2.1 84 = .ok (.aload_n 0, 1) := by decide +kernel
theorem dX10_reads_85 : decode mX10_reads.2.1 85 = .ok (.iconst 1, 1) := by decide +kernel
theorem dX10_reads_86 : decode mX10_reads.2.1 86 = .ok (.putfield 206, 3) := by decide +kernel
theorem dX10_reads_89 : decode mX10_reads.2.1 89 = .ok (.aload_n 0, 1) := by decide +kernel
theorem dX10_reads_90 : decode mX10_reads.2.1 90 = .ok (.aload_n 0, 1) := by decide +kernel
theorem dX10_reads_91 : decode mX10_reads.2.1 91 = .ok (.getfield 197, 3) := by decide +kernel
theorem dX10_reads_94 : decode mX10_reads.2.1 94 = .ok (.invokevirtual 200, 3) := by decide +kernel
theorem dX10_reads_97 : decode mX10_reads.2.1 97 = .ok (.i2l, 1) := by decide +kernel
theorem dX10_reads_98 : decode mX10_reads.2.1 98 = .ok (.ldc2_w 209, 3) := by decide +kernel
theorem dX10_reads_101 : decode mX10_reads.2.1 101 = .ok (.ldc2_w 211, 3) := by decide +kernel
theorem dX10_reads_104 : decode mX10_reads.2.1 104 = .ok (.invokestatic 181, 3) := by decide +kernel
theorem dX10_reads_107 : decode mX10_reads.2.1 107 = .ok (.ifCond .eq 176, 3) := by decide +kernel
theorem dX10_reads_110 : decode mX10_reads.2.1 110 = .ok (.aload_n 0, 1) := by decide +kernel
theorem dX10_reads_111 : decode mX10_reads.2.1 111 = .ok (.dup, 1) := by decide +kernel
theorem dX10_reads_112 : decode mX10_reads.2.1 112 = .ok (.getfield 197, 3) := by decide +kernel
theorem dX10_reads_115 : decode mX10_reads.2.1 115 = .ok (.iconst 1, 1) := by decide +kernel
theorem dX10_reads_116 : decode mX10_reads.2.1 116 = .ok (.iadd, 1) := by decide +kernel
theorem dX10_reads_117 : decode mX10_reads.2.1 117 = .ok (.putfield 197, 3) := by decide +kernel
theorem dX10_reads_120 : decode mX10_reads.2.1 120 = .ok (.goto (-31), 3) := by decide +kernel
theorem dX10_reads_123 : decode mX10_reads.2.1 123 = .ok (.iload_n 1, 1) := by decide +kernel
theorem dX10_reads_124 : decode mX10_reads.2.1 124 = .ok (.i2l, 1) := by decide +kernel
theorem dX10_reads_125 : decode mX10_reads.2.1 125 = .ok (.ldc2_w 213, 3) := by decide +kernel
theorem dX10_reads_128 : decode mX10_reads.2.1 128 = .ok (.ldc2_w 215, 3) := by decide +kernel
theorem dX10_reads_131 : decode mX10_reads.2.1 131 = .ok (.invokestatic 181, 3) := by decide +kernel
theorem dX10_reads_134 : decode mX10_reads.2.1 134 = .ok (.ifCond .eq 117, 3) := by decide +kernel
theorem dX10_reads_137 : decode mX10_reads.2.1 137 = .ok (.aload_n 0, 1) := by decide +kernel
theorem dX10_reads_138 : decode mX10_reads.2.1 138 = .ok (.iconst 2, 1) := by decide +kernel
theorem dX10_reads_139 : decode mX10_reads.2.1 139 = .ok (.putfield 206, 3) := by decide +kernel
theorem dX10_reads_142 : decode mX10_reads.2.1 142 = .ok (.aload_n 0, 1) := by decide +kernel
theorem dX10_reads_143 : decode mX10_reads.2.1 143 = .ok (.iconst 0, 1) := by decide +kernel
theorem dX10_reads_144 : decode mX10_reads.2.1 144 = .ok (.putfield 203, 3) := by decide +kernel
theorem dX10_reads_147 : decode mX10_reads.2.1 147 = .ok (.aload_n 0, 1) := by decide +kernel
theorem dX10_reads_148 : decode mX10_reads.2.1 148 = .ok (.aload_n 0, 1) := by decide +kernel
theorem dX10_reads_149 : decode mX10_reads.2.1 149 = .ok (.getfield 197, 3) := by decide +kernel
theorem dX10_reads_152 : decode mX10_reads.2.1 152 = .ok (.invokevirtual 200, 3) := by decide +kernel
theorem dX10_reads_155 : decode mX10_reads.2.1 155 = .ok (.i2l, 1) := by decide +kernel
theorem dX10_reads_156 : decode mX10_reads.2.1 156 = .ok (.ldc2_w 213, 3) := by decide +kernel
theorem dX10_reads_159 : decode mX10_reads.2.1 159 = .ok (.ldc2_w 215, 3) := by decide +kernel
theorem dX10_reads_162 : decode mX10_reads.2.1 162 = .ok (.invokestatic 181, 3) := by decide +kernel
theorem dX10_reads_165 : decode mX10_reads.2.1 165 = .ok (.ifCond .eq 59, 3) := by decide +kernel
theorem dX10_reads_168 : decode mX10_reads.2.1 168 = .ok (.aload_n 0, 1) := by decide +kernel
theorem dX10_reads_169 : decode mX10_reads.2.1 169 = .ok (.aload_n 0, 1) := by decide +kernel
theorem dX10_reads_170 : decode mX10_reads.2.1 170 = .ok (.getfield 197, 3) := by decide +kernel
theorem dX10_reads_173 : decode mX10_reads.2.1 173 = .ok (.aload_n 0, 1) := by decide +kernel
theorem dX10_reads_174 : decode mX10_reads.2.1 174 = .ok (.getfield 191, 3) := by decide +kernel
theorem dX10_reads_177 : decode mX10_reads.2.1 177 = .ok (.isub, 1) := by decide +kernel
theorem dX10_reads_178 : decode mX10_reads.2.1 178 = .ok (.iconst 2, 1) := by decide +kernel
theorem dX10_reads_179 : decode mX10_reads.2.1 179 = .ok (.if_icmp .ge 25, 3) := by decide +kernel
theorem dX10_reads_182 : decode mX10_reads.2.1 182 = .ok (.bipush 10, 2) := by decide +kernel
theorem dX10_reads_184 : decode mX10_reads.2.1 184 = .ok (.aload_n 0, 1) := by decide +kernel
theorem dX10_reads_185 : decode mX10_reads.2.1 185 = .ok (.getfield 203, 3) := by decide +kernel
theorem dX10_reads_188 : decode mX10_reads.2.1 188 = .ok (.imul, 1) := by decide +kernel
theorem dX10_reads_189 : decode mX10_reads.2.1 189 = .ok (.aload_n 0, 1) := by decide +kernel
theorem dX10_reads_190 : decode mX10_reads.2.1 190 = .ok (.aload_n 0, 1) := by decide +kernel
theorem dX10_reads_191 : decode mX10_reads.2.1 191 = .ok (.getfield 197, 3) := by decide +kernel
theorem dX10_reads_194 : decode mX10_reads.2.1 194 = .ok (.invokevirtual 200, 3) := by decide +kernel
theorem dX10_reads_197 : decode mX10_reads.2.1 197 = .ok (.iadd, 1) := by decide +kernel
theorem dX10_reads_198 : decode mX10_reads.2.1 198 = .ok (.bipush 48, 2) := by decide +kernel
theorem dX10_reads_200 : decode mX10_reads.2.1 200 = .ok (.isub, 1) := by decide +kernel
theorem dX10_reads_201 : decode mX10_reads.2.1 201 = .ok (.goto 7, 3) := by decide +kernel
theorem dX10_reads_204 : decode mX10_reads.2.1 204 = .ok (.aload_n 0, 1) := by decide +kernel
theorem dX10_reads_205 : decode mX10_reads.2.1 205 = .ok (.getfield 203, 3) := by decide +kernel
theorem dX10_reads_208 : decode mX10_reads.2.1 208 = .ok (.putfield 203, 3) := by decide +kernel
theorem dX10_reads_211 : decode mX10_reads.2.1 211 = .ok (.aload_n 0, 1) := by decide +kernel
theorem dX10_reads_212 : decode mX10_reads.2.1 212 = .ok (.dup, 1) := by decide +kernel
theorem dX10_reads_213 : decode mX10_reads.2.1 213 = .ok (.getfield 197, 3) := by decide +kernel
theorem dX10_reads_216 : decode mX10_reads.2.1 216 = .ok (.iconst 1, 1) := by decide +kernel
theorem dX10_reads_217 : decode mX10_reads.2.1 217 = .ok (.iadd, 1) := by decide +kernel
theorem dX10_reads_218 : decode mX10_reads.2.1 218 = .ok (.putfield 197, 3) := by decide +kernel
theorem dX10_reads_221 : decode mX10_reads.2.1 221 = .ok (.goto (-74), 3) := by decide +kernel
theorem dX10_reads_224 : decode mX10_reads.2.1 224 = .ok (.aload_n 0, 1) := by decide +kernel
theorem dX10_reads_225 : decode mX10_reads.2.1 225 = .ok (.aload_n 0, 1) := by decide +kernel
theorem dX10_reads_226 : decode mX10_reads.2.1 226 = .ok (.getfield 197, 3) := by decide +kernel
theorem dX10_reads_229 : decode mX10_reads.2.1 229 = .ok (.aload_n 0, 1) := by decide +kernel
theorem dX10_reads_230 : decode mX10_reads.2.1 230 = .ok (.getfield 191, 3) := by decide +kernel
theorem dX10_reads_233 : decode mX10_reads.2.1 233 = .ok (.isub, 1) := by decide +kernel
theorem dX10_reads_234 : decode mX10_reads.2.1 234 = .ok (.iconst 2, 1) := by decide +kernel
theorem dX10_reads_235 : decode mX10_reads.2.1 235 = .ok (.if_icmp .gt 7, 3) := by decide +kernel
theorem dX10_reads_238 : decode mX10_reads.2.1 238 = .ok (.iconst 1, 1) := by decide +kernel
theorem dX10_reads_239 : decode mX10_reads.2.1 239 = .ok (.goto 4, 3) := by decide +kernel
theorem dX10_reads_242 : decode mX10_reads.2.1 242 = .ok (.iconst 0, 1) := by decide +kernel
theorem dX10_reads_243 : decode mX10_reads.2.1 243 = .ok (.iconst 1, 1) := by decide +kernel
theorem dX10_reads_244 : decode mX10_reads.2.1 244 = .ok (.invokevirtual 217, 3) := by decide +kernel
theorem dX10_reads_247 : decode mX10_reads.2.1 247 = .ok (.pop, 1) := by decide +kernel
theorem dX10_reads_248 : decode mX10_reads.2.1 248 = .ok (.goto 35, 3) := by decide +kernel
theorem dX10_reads_251 : decode mX10_reads.2.1 251 = .ok (.aload_n 0, 1) := by decide +kernel
theorem dX10_reads_252 : decode mX10_reads.2.1 252 = .ok (.iconst 3, 1) := by decide +kernel
theorem dX10_reads_253 : decode mX10_reads.2.1 253 = .ok (.putfield 206, 3) := by decide +kernel
theorem dX10_reads_256 : decode mX10_reads.2.1 256 = .ok (.aload_n 0, 1) := by decide +kernel
theorem dX10_reads_257 : decode mX10_reads.2.1 257 = .ok (.iload_n 1, 1) := by decide +kernel
theorem dX10_reads_258 : decode mX10_reads.2.1 258 = .ok (.bipush 59, 2) := by decide +kernel
theorem dX10_reads_260 : decode mX10_reads.2.1 260 = .ok (.if_icmp .ne 7, 3) := by decide +kernel
theorem dX10_reads_263 : decode mX10_reads.2.1 263 = .ok (.iconst 1, 1) := by decide +kernel
theorem dX10_reads_264 : decode mX10_reads.2.1 264 = .ok (.goto 4, 3) := by decide +kernel
theorem dX10_reads_267 : decode mX10_reads.2.1 267 = .ok (.iconst 0, 1) := by decide +kernel
theorem dX10_reads_268 : decode mX10_reads.2.1 268 = .ok (.iconst 1, 1) := by decide +kernel
theorem dX10_reads_269 : decode mX10_reads.2.1 269 = .ok (.invokevirtual 217, 3) := by decide +kernel
theorem dX10_reads_272 : decode mX10_reads.2.1 272 = .ok (.pop, 1) := by decide +kernel
theorem dX10_reads_273 : decode mX10_reads.2.1 273 = .ok (.aload_n 0, 1) := by decide +kernel
theorem dX10_reads_274 : decode mX10_reads.2.1 274 = .ok (.dup, 1) := by decide +kernel
theorem dX10_reads_275 : decode mX10_reads.2.1 275 = .ok (.getfield 197, 3) := by decide +kernel
theorem dX10_reads_278 : decode mX10_reads.2.1 278 = .ok (.iconst 1, 1) := by decide +kernel
theorem dX10_reads_279 : decode mX10_reads.2.1 279 = .ok (.iadd, 1) := by decide +kernel
theorem dX10_reads_280 : decode mX10_reads.2.1 280 = .ok (.putfield 197, 3) := by decide +kernel
theorem dX10_reads_283 : decode mX10_reads.2.1 283 = .ok (.return_, 1) := by decide +kernel
theorem dX10_nameNow_0 : decode mX10_nameNow.2.1 0 = .ok (.iconst 0, 1) := by decide +kernel
theorem dX10_nameNow_1 : decode mX10_nameNow.2.1 1 = .ok (.istore_n 1, 1) := by decide +kernel
theorem dX10_nameNow_2 : decode mX10_nameNow.2.1 2 = .ok (.iload_n 1, 1) := by decide +kernel
theorem dX10_nameNow_3 : decode mX10_nameNow.2.1 3 = .ok (.iconst 5, 1) := by decide +kernel
theorem dX10_nameNow_4 : decode mX10_nameNow.2.1 4 = .ok (.if_icmp .gt 19, 3) := by decide +kernel
theorem dX10_nameNow_7 : decode mX10_nameNow.2.1 7 = .ok (.aload_n 0, 1) := by decide +kernel
theorem dX10_nameNow_8 : decode mX10_nameNow.2.1 8 = .ok (.iload_n 1, 1) := by decide +kernel
theorem dX10_nameNow_9 : decode mX10_nameNow.2.1 9 = .ok (.invokevirtual 221, 3) := by decide +kernel
theorem dX10_nameNow_12 : decode mX10_nameNow.2.1 12 = .ok (.ifCond .eq 5, 3) := by decide +kernel
theorem dX10_nameNow_15 : decode mX10_nameNow.2.1 15 = .ok (.iload_n 1, 1) := by decide +kernel
theorem dX10_nameNow_16 : decode mX10_nameNow.2.1 16 = .ok (.ireturn, 1) := by decide +kernel
theorem dX10_nameNow_17 : decode mX10_nameNow.2.1 17 = .ok (.iinc 1 1, 3) := by decide +kernel
theorem dX10_nameNow_20 : decode mX10_nameNow.2.1 20 = .ok (.goto (-18), 3) := by decide +kernel
theorem dX10_nameNow_23 : decode mX10_nameNow.2.1 23 = .ok (.bipush (-4), 2) := by decide +kernel
theorem dX10_nameNow_25 : decode mX10_nameNow.2.1 25 = .ok (.ireturn, 1) := by decide +kernel
theorem dX10_readsPrime_0 : decode mX10_readsPrime.2.1 0 = .ok (.aload_n 0, 1) := by decide +kernel
theorem dX10_readsPrime_1 : decode mX10_readsPrime.2.1 1 = .ok (.aload_n 0, 1) := by decide +kernel
theorem dX10_readsPrime_2 : decode mX10_readsPrime.2.1 2 = .ok (.getfield 206, 3) := by decide +kernel
theorem dX10_readsPrime_5 : decode mX10_readsPrime.2.1 5 = .ok (.iconst 2, 1) := by decide +kernel
theorem dX10_readsPrime_6 : decode mX10_readsPrime.2.1 6 = .ok (.if_icmp .ne 7, 3) := by decide +kernel
theorem dX10_readsPrime_9 : decode mX10_readsPrime.2.1 9 = .ok (.iconst 1, 1) := by decide +kernel
theorem dX10_readsPrime_10 : decode mX10_readsPrime.2.1 10 = .ok (.goto 4, 3) := by decide +kernel
theorem dX10_readsPrime_13 : decode mX10_readsPrime.2.1 13 = .ok (.iconst 0, 1) := by decide +kernel
theorem dX10_readsPrime_14 : decode mX10_readsPrime.2.1 14 = .ok (.iconst 2, 1) := by decide +kernel
theorem dX10_readsPrime_15 : decode mX10_readsPrime.2.1 15 = .ok (.invokevirtual 217, 3) := by decide +kernel
theorem dX10_readsPrime_18 : decode mX10_readsPrime.2.1 18 = .ok (.pop, 1) := by decide +kernel
theorem dX10_readsPrime_19 : decode mX10_readsPrime.2.1 19 = .ok (.aload_n 0, 1) := by decide +kernel
theorem dX10_readsPrime_20 : decode mX10_readsPrime.2.1 20 = .ok (.aload_n 0, 1) := by decide +kernel
theorem dX10_readsPrime_21 : decode mX10_readsPrime.2.1 21 = .ok (.getfield 188, 3) := by decide +kernel
theorem dX10_readsPrime_24 : decode mX10_readsPrime.2.1 24 = .ok (.ifCond .gt 30, 3) := by decide +kernel
theorem dX10_readsPrime_27 : decode mX10_readsPrime.2.1 27 = .ok (.aload_n 0, 1) := by decide +kernel
theorem dX10_readsPrime_28 : decode mX10_readsPrime.2.1 28 = .ok (.getfield 203, 3) := by decide +kernel
theorem dX10_readsPrime_31 : decode mX10_readsPrime.2.1 31 = .ok (.i2l, 1) := by decide +kernel
theorem dX10_readsPrime_32 : decode mX10_readsPrime.2.1 32 = .ok (.ldc2_w 227, 3) := by decide +kernel
theorem dX10_readsPrime_35 : decode mX10_readsPrime.2.1 35 = .ok (.ldc2_w 209, 3) := by decide +kernel
theorem dX10_readsPrime_38 : decode mX10_readsPrime.2.1 38 = .ok (.invokestatic 181, 3) := by decide +kernel
theorem dX10_readsPrime_41 : decode mX10_readsPrime.2.1 41 = .ok (.ifCond .eq 17, 3) := by decide +kernel
theorem dX10_readsPrime_44 : decode mX10_readsPrime.2.1 44 = .ok (.aload_n 0, 1) := by decide +kernel
theorem dX10_readsPrime_45 : decode mX10_readsPrime.2.1 45 = .ok (.getfield 203, 3) := by decide +kernel
theorem dX10_readsPrime_48 : decode mX10_readsPrime.2.1 48 = .ok (.invokestatic 229, 3) := by decide +kernel
theorem dX10_readsPrime_51 : decode mX10_readsPrime.2.1 51 = .ok (.ifCond .eq 7, 3) := by decide +kernel
theorem dX10_readsPrime_54 : decode mX10_readsPrime.2.1 54 = .ok (.iconst 1, 1) := by decide +kernel
theorem dX10_readsPrime_55 : decode mX10_readsPrime.2.1 55 = .ok (.goto 4, 3) := by decide +kernel
theorem dX10_readsPrime_58 : decode mX10_readsPrime.2.1 58 = .ok (.iconst 0, 1) := by decide +kernel
theorem dX10_readsPrime_59 : decode mX10_readsPrime.2.1 59 = .ok (.iconst 3, 1) := by decide +kernel
theorem dX10_readsPrime_60 : decode mX10_readsPrime.2.1 60 = .ok (.invokevirtual 217, 3) := by decide +kernel
theorem dX10_readsPrime_63 : decode mX10_readsPrime.2.1 63 = .ok (.pop, 1) := by decide +kernel
theorem dX10_readsPrime_64 : decode mX10_readsPrime.2.1 64 = .ok (.aload_n 0, 1) := by decide +kernel
theorem dX10_readsPrime_65 : decode mX10_readsPrime.2.1 65 = .ok (.aload_n 0, 1) := by decide +kernel
theorem dX10_readsPrime_66 : decode mX10_readsPrime.2.1 66 = .ok (.getfield 188, 3) := by decide +kernel
theorem dX10_readsPrime_69 : decode mX10_readsPrime.2.1 69 = .ok (.ifCond .le 10, 3) := by decide +kernel
theorem dX10_readsPrime_72 : decode mX10_readsPrime.2.1 72 = .ok (.aload_n 0, 1) := by decide +kernel
theorem dX10_readsPrime_73 : decode mX10_readsPrime.2.1 73 = .ok (.getfield 232, 3) := by decide +kernel
theorem dX10_readsPrime_76 : decode mX10_readsPrime.2.1 76 = .ok (.goto 7, 3) := by decide +kernel
theorem dX10_readsPrime_79 : decode mX10_readsPrime.2.1 79 = .ok (.aload_n 0, 1) := by decide +kernel
theorem dX10_readsPrime_80 : decode mX10_readsPrime.2.1 80 = .ok (.getfield 203, 3) := by decide +kernel
theorem dX10_readsPrime_83 : decode mX10_readsPrime.2.1 83 = .ok (.putfield 232, 3) := by decide +kernel
theorem dX10_readsPrime_86 : decode mX10_readsPrime.2.1 86 = .ok (.aload_n 0, 1) := by decide +kernel
theorem dX10_readsPrime_87 : decode mX10_readsPrime.2.1 87 = .ok (.invokevirtual 224, 3) := by decide +kernel
theorem dX10_readsPrime_90 : decode mX10_readsPrime.2.1 90 = .ok (.return_, 1) := by decide +kernel
theorem dX10_readsState_0 : decode mX10_readsState.2.1 0 = .ok (.aload_n 0, 1) := by decide +kernel
theorem dX10_readsState_1 : decode mX10_readsState.2.1 1 = .ok (.iconst 0, 1) := by decide +kernel
theorem dX10_readsState_2 : decode mX10_readsState.2.1 2 = .ok (.iconst 3, 1) := by decide +kernel
theorem dX10_readsState_3 : decode mX10_readsState.2.1 3 = .ok (.invokevirtual 235, 3) := by decide +kernel
theorem dX10_readsState_6 : decode mX10_readsState.2.1 6 = .ok (.istore_n 1, 1) := by decide +kernel
theorem dX10_readsState_7 : decode mX10_readsState.2.1 7 = .ok (.aload_n 0, 1) := by decide +kernel
theorem dX10_readsState_8 : decode mX10_readsState.2.1 8 = .ok (.iload_n 1, 1) := by decide +kernel
theorem dX10_readsState_9 : decode mX10_readsState.2.1 9 = .ok (.iconst 1, 1) := by decide +kernel
theorem dX10_readsState_10 : decode mX10_readsState.2.1 10 = .ok (.iadd, 1) := by decide +kernel
theorem dX10_readsState_11 : decode mX10_readsState.2.1 11 = .ok (.aload_n 0, 1) := by decide +kernel
theorem dX10_readsState_12 : decode mX10_readsState.2.1 12 = .ok (.getfield 238, 3) := by decide +kernel
theorem dX10_readsState_15 : decode mX10_readsState.2.1 15 = .ok (.if_icmp .le 9, 3) := by decide +kernel
theorem dX10_readsState_18 : decode mX10_readsState.2.1 18 = .ok (.iload_n 1, 1) := by decide +kernel
theorem dX10_readsState_19 : decode mX10_readsState.2.1 19 = .ok (.iconst 1, 1) := by decide +kernel
theorem dX10_readsState_20 : decode mX10_readsState.2.1 20 = .ok (.iadd, 1) := by decide +kernel
theorem dX10_readsState_21 : decode mX10_readsState.2.1 21 = .ok (.goto 7, 3) := by decide +kernel
theorem dX10_readsState_24 : decode mX10_readsState.2.1 24 = .ok (.aload_n 0, 1) := by decide +kernel
theorem dX10_readsState_25 : decode mX10_readsState.2.1 25 = .ok (.getfield 238, 3) := by decide +kernel
theorem dX10_readsState_28 : decode mX10_readsState.2.1 28 = .ok (.putfield 238, 3) := by decide +kernel
theorem dX10_readsState_31 : decode mX10_readsState.2.1 31 = .ok (.iload_n 1, 1) := by decide +kernel
theorem dX10_readsState_32 : decode mX10_readsState.2.1 32 = .ok (.ireturn, 1) := by decide +kernel
theorem dX10_readsEdge_0 : decode mX10_readsEdge.2.1 0 = .ok (.aload_n 0, 1) := by decide +kernel
theorem dX10_readsEdge_1 : decode mX10_readsEdge.2.1 1 = .ok (.invokevirtual 241, 3) := by decide +kernel
theorem dX10_readsEdge_4 : decode mX10_readsEdge.2.1 4 = .ok (.istore_n 1, 1) := by decide +kernel
theorem dX10_readsEdge_5 : decode mX10_readsEdge.2.1 5 = .ok (.aload_n 0, 1) := by decide +kernel
theorem dX10_readsEdge_6 : decode mX10_readsEdge.2.1 6 = .ok (.aload_n 0, 1) := by decide +kernel
theorem dX10_readsEdge_7 : decode mX10_readsEdge.2.1 7 = .ok (.getfield 206, 3) := by decide +kernel
theorem dX10_readsEdge_10 : decode mX10_readsEdge.2.1 10 = .ok (.iconst 1, 1) := by decide +kernel
theorem dX10_readsEdge_11 : decode mX10_readsEdge.2.1 11 = .ok (.if_icmp .ne 37, 3) := by decide +kernel
theorem dX10_readsEdge_14 : decode mX10_readsEdge.2.1 14 = .ok (.aload_n 0, 1) := by decide +kernel
theorem dX10_readsEdge_15 : decode mX10_readsEdge.2.1 15 = .ok (.getfield 197, 3) := by decide +kernel
theorem dX10_readsEdge_18 : decode mX10_readsEdge.2.1 18 = .ok (.aload_n 0, 1) := by decide +kernel
theorem dX10_readsEdge_19 : decode mX10_readsEdge.2.1 19 = .ok (.getfield 191, 3) := by decide +kernel
theorem dX10_readsEdge_22 : decode mX10_readsEdge.2.1 22 = .ok (.isub, 1) := by decide +kernel
theorem dX10_readsEdge_23 : decode mX10_readsEdge.2.1 23 = .ok (.iconst 1, 1) := by decide +kernel
theorem dX10_readsEdge_24 : decode mX10_readsEdge.2.1 24 = .ok (.if_icmp .ne 24, 3) := by decide +kernel
theorem dX10_readsEdge_27 : decode mX10_readsEdge.2.1 27 = .ok (.aload_n 0, 1) := by decide +kernel
theorem dX10_readsEdge_28 : decode mX10_readsEdge.2.1 28 = .ok (.getfield 203, 3) := by decide +kernel
theorem dX10_readsEdge_31 : decode mX10_readsEdge.2.1 31 = .ok (.i2l, 1) := by decide +kernel
theorem dX10_readsEdge_32 : decode mX10_readsEdge.2.1 32 = .ok (.ldc2_w 209, 3) := by decide +kernel
theorem dX10_readsEdge_35 : decode mX10_readsEdge.2.1 35 = .ok (.ldc2_w 244, 3) := by decide +kernel
theorem dX10_readsEdge_38 : decode mX10_readsEdge.2.1 38 = .ok (.invokestatic 181, 3) := by decide +kernel
theorem dX10_readsEdge_41 : decode mX10_readsEdge.2.1 41 = .ok (.ifCond .eq 7, 3) := by decide +kernel
theorem dX10_readsEdge_44 : decode mX10_readsEdge.2.1 44 = .ok (.iconst 1, 1) := by decide +kernel
theorem dX10_readsEdge_45 : decode mX10_readsEdge.2.1 45 = .ok (.goto 4, 3) := by decide +kernel
theorem dX10_readsEdge_48 : decode mX10_readsEdge.2.1 48 = .ok (.iconst 0, 1) := by decide +kernel
theorem dX10_readsEdge_49 : decode mX10_readsEdge.2.1 49 = .ok (.iconst 2, 1) := by decide +kernel
theorem dX10_readsEdge_50 : decode mX10_readsEdge.2.1 50 = .ok (.invokevirtual 217, 3) := by decide +kernel
theorem dX10_readsEdge_53 : decode mX10_readsEdge.2.1 53 = .ok (.pop, 1) := by decide +kernel
theorem dX10_readsEdge_54 : decode mX10_readsEdge.2.1 54 = .ok (.aload_n 0, 1) := by decide +kernel
theorem dX10_readsEdge_55 : decode mX10_readsEdge.2.1 55 = .ok (.getfield 188, 3) := by decide +kernel
theorem dX10_readsEdge_58 : decode mX10_readsEdge.2.1 58 = .ok (.ifCond .le 7, 3) := by decide +kernel
theorem dX10_readsEdge_61 : decode mX10_readsEdge.2.1 61 = .ok (.iconst 0, 1) := by decide +kernel
theorem dX10_readsEdge_62 : decode mX10_readsEdge.2.1 62 = .ok (.goto 10, 3) := by decide +kernel
theorem dX10_readsEdge_65 : decode mX10_readsEdge.2.1 65 = .ok (.aload_n 0, 1) := by decide +kernel
theorem dX10_readsEdge_66 : decode mX10_readsEdge.2.1 66 = .ok (.getfield 203, 3) := by decide +kernel
theorem dX10_readsEdge_69 : decode mX10_readsEdge.2.1 69 = .ok (.bipush 97, 2) := by decide +kernel
theorem dX10_readsEdge_71 : decode mX10_readsEdge.2.1 71 = .ok (.isub, 1) := by decide +kernel
theorem dX10_readsEdge_72 : decode mX10_readsEdge.2.1 72 = .ok (.istore_n 2, 1) := by decide +kernel
theorem dX10_readsEdge_73 : decode mX10_readsEdge.2.1 73 = .ok (.aload_n 0, 1) := by decide +kernel
theorem dX10_readsEdge_74 : decode mX10_readsEdge.2.1 74 = .ok (.iload_n 2, 1) := by decide +kernel
theorem dX10_readsEdge_75 : decode mX10_readsEdge.2.1 75 = .ok (.iconst 1, 1) := by decide +kernel
theorem dX10_readsEdge_76 : decode mX10_readsEdge.2.1 76 = .ok (.iadd, 1) := by decide +kernel
theorem dX10_readsEdge_77 : decode mX10_readsEdge.2.1 77 = .ok (.aload_n 0, 1) := by decide +kernel
theorem dX10_readsEdge_78 : decode mX10_readsEdge.2.1 78 = .ok (.getfield 246, 3) := by decide +kernel
theorem dX10_readsEdge_81 : decode mX10_readsEdge.2.1 81 = .ok (.if_icmp .le 9, 3) := by decide +kernel
theorem dX10_readsEdge_84 : decode mX10_readsEdge.2.1 84 = .ok (.iload_n 2, 1) := by decide +kernel
theorem dX10_readsEdge_85 : decode mX10_readsEdge.2.1 85 = .ok (.iconst 1, 1) := by decide +kernel
theorem dX10_readsEdge_86 : decode mX10_readsEdge.2.1 86 = .ok (.iadd, 1) := by decide +kernel
theorem dX10_readsEdge_87 : decode mX10_readsEdge.2.1 87 = .ok (.goto 7, 3) := by decide +kernel
theorem dX10_readsEdge_90 : decode mX10_readsEdge.2.1 90 = .ok (.aload_n 0, 1) := by decide +kernel
theorem dX10_readsEdge_91 : decode mX10_readsEdge.2.1 91 = .ok (.getfield 246, 3) := by decide +kernel
theorem dX10_readsEdge_94 : decode mX10_readsEdge.2.1 94 = .ok (.putfield 246, 3) := by decide +kernel
theorem dX10_readsEdge_97 : decode mX10_readsEdge.2.1 97 = .ok (.aload_n 0, 1) := by decide +kernel
theorem dX10_readsEdge_98 : decode mX10_readsEdge.2.1 98 = .ok (.invokevirtual 224, 3) := by decide +kernel
theorem dX10_readsEdge_101 : decode mX10_readsEdge.2.1 101 = .ok (.aload_n 0, 1) := by decide +kernel
theorem dX10_readsEdge_102 : decode mX10_readsEdge.2.1 102 = .ok (.invokevirtual 241, 3) := by decide +kernel
theorem dX10_readsEdge_105 : decode mX10_readsEdge.2.1 105 = .ok (.istore_n 3, 1) := by decide +kernel
theorem dX10_readsEdge_106 : decode mX10_readsEdge.2.1 106 = .ok (.aload_n 0, 1) := by decide +kernel
theorem dX10_readsEdge_107 : decode mX10_readsEdge.2.1 107 = .ok (.iconst 0, 1) := by decide +kernel
theorem dX10_readsEdge_108 : decode mX10_readsEdge.2.1 108 = .ok (.bipush 99, 2) := by decide +kernel
theorem dX10_readsEdge_110 : decode mX10_readsEdge.2.1 110 = .ok (.invokevirtual 235, 3) := by decide +kernel
theorem dX10_readsEdge_113 : decode mX10_readsEdge.2.1 113 = .ok (.istore 4, 2) := by decide +kernel
theorem dX10_readsEdge_115 : decode mX10_readsEdge.2.1 115 = .ok (.aload_n 0, 1) := by decide +kernel
theorem dX10_readsEdge_116 : decode mX10_readsEdge.2.1 116 = .ok (.getfield 188, 3) := by decide +kernel
theorem dX10_readsEdge_119 : decode mX10_readsEdge.2.1 119 = .ok (.ifCond .ne 14, 3) := by decide +kernel
theorem dX10_readsEdge_122 : decode mX10_readsEdge.2.1 122 = .ok (.aload_n 0, 1) := by decide +kernel
theorem dX10_readsEdge_123 : decode mX10_readsEdge.2.1 123 = .ok (.bipush 31, 2) := by decide +kernel
theorem dX10_readsEdge_125 : decode mX10_readsEdge.2.1 125 = .ok (.iload_n 1, 1) := by decide +kernel
theorem dX10_readsEdge_126 : decode mX10_readsEdge.2.1 126 = .ok (.iload_n 2, 1) := by decide +kernel
theorem dX10_readsEdge_127 : decode mX10_readsEdge.2.1 127 = .ok (.iload_n 3, 1) := by decide +kernel
theorem dX10_readsEdge_128 : decode mX10_readsEdge.2.1 128 = .ok (.iload 4, 2) := by decide +kernel
theorem dX10_readsEdge_130 : decode mX10_readsEdge.2.1 130 = .ok (.invokevirtual 160, 3) := by decide +kernel
theorem dX10_readsEdge_133 : decode mX10_readsEdge.2.1 133 = .ok (.return_, 1) := by decide +kernel
theorem dX10_readsLine_0 : decode mX10_readsLine.2.1 0 = .ok (.aload_n 0, 1) := by decide +kernel
theorem dX10_readsLine_1 : decode mX10_readsLine.2.1 1 = .ok (.invokevirtual 249, 3) := by decide +kernel
theorem dX10_readsLine_4 : decode mX10_readsLine.2.1 4 = .ok (.istore_n 1, 1) := by decide +kernel
theorem dX10_readsLine_5 : decode mX10_readsLine.2.1 5 = .ok (.aload_n 0, 1) := by decide +kernel
theorem dX10_readsLine_6 : decode mX10_readsLine.2.1 6 = .ok (.iload_n 1, 1) := by decide +kernel
theorem dX10_readsLine_7 : decode mX10_readsLine.2.1 7 = .ok (.bipush (-4), 2) := by decide +kernel
theorem dX10_readsLine_9 : decode mX10_readsLine.2.1 9 = .ok (.if_icmp .eq 7, 3) := by decide +kernel
theorem dX10_readsLine_12 : decode mX10_readsLine.2.1 12 = .ok (.iconst 1, 1) := by decide +kernel
theorem dX10_readsLine_13 : decode mX10_readsLine.2.1 13 = .ok (.goto 4, 3) := by decide +kernel
theorem dX10_readsLine_16 : decode mX10_readsLine.2.1 16 = .ok (.iconst 0, 1) := by decide +kernel
theorem dX10_readsLine_17 : decode mX10_readsLine.2.1 17 = .ok (.iconst 2, 1) := by decide +kernel
theorem dX10_readsLine_18 : decode mX10_readsLine.2.1 18 = .ok (.invokevirtual 217, 3) := by decide +kernel
theorem dX10_readsLine_21 : decode mX10_readsLine.2.1 21 = .ok (.pop, 1) := by decide +kernel
theorem dX10_readsLine_22 : decode mX10_readsLine.2.1 22 = .ok (.aload_n 0, 1) := by decide +kernel
theorem dX10_readsLine_23 : decode mX10_readsLine.2.1 23 = .ok (.aload_n 0, 1) := by decide +kernel
theorem dX10_readsLine_24 : decode mX10_readsLine.2.1 24 = .ok (.getfield 188, 3) := by decide +kernel
theorem dX10_readsLine_27 : decode mX10_readsLine.2.1 27 = .ok (.ifCond .gt 17, 3) := by decide +kernel
theorem dX10_readsLine_30 : decode mX10_readsLine.2.1 30 = .ok (.iload_n 1, 1) := by decide +kernel
theorem dX10_readsLine_31 : decode mX10_readsLine.2.1 31 = .ok (.iconst 2, 1) := by decide +kernel
theorem dX10_readsLine_32 : decode mX10_readsLine.2.1 32 = .ok (.if_icmp .gt 12, 3) := by decide +kernel
theorem dX10_readsLine_35 : decode mX10_readsLine.2.1 35 = .ok (.aload_n 0, 1) := by decide +kernel
theorem dX10_readsLine_36 : decode mX10_readsLine.2.1 36 = .ok (.getfield 50, 3) := by decide +kernel
theorem dX10_readsLine_39 : decode mX10_readsLine.2.1 39 = .ok (.iload_n 1, 1) := by decide +kernel
theorem dX10_readsLine_40 : decode mX10_readsLine.2.1 40 = .ok (.baload, 1) := by decide +kernel
theorem dX10_readsLine_41 : decode mX10_readsLine.2.1 41 = .ok (.ifCond .ne 7, 3) := by decide +kernel
theorem dX10_readsLine_44 : decode mX10_readsLine.2.1 44 = .ok (.iconst 1, 1) := by decide +kernel
theorem dX10_readsLine_45 : decode mX10_readsLine.2.1 45 = .ok (.goto 4, 3) := by decide +kernel
theorem dX10_readsLine_48 : decode mX10_readsLine.2.1 48 = .ok (.iconst 0, 1) := by decide +kernel
theorem dX10_readsLine_49 : decode mX10_readsLine.2.1 49 = .ok (.iconst 4, 1) := by decide +kernel
theorem dX10_readsLine_50 : decode mX10_readsLine.2.1 50 = .ok (.invokevirtual 217, 3) := by decide +kernel
theorem dX10_readsLine_53 : decode mX10_readsLine.2.1 53 = .ok (.pop, 1) := by decide +kernel
theorem dX10_readsLine_54 : decode mX10_readsLine.2.1 54 = .ok (.aload_n 0, 1) := by decide +kernel
theorem dX10_readsLine_55 : decode mX10_readsLine.2.1 55 = .ok (.getfield 188, 3) := by decide +kernel
theorem dX10_readsLine_58 : decode mX10_readsLine.2.1 58 = .ok (.ifCond .le 4, 3) := by decide +kernel
theorem dX10_readsLine_61 : decode mX10_readsLine.2.1 61 = .ok (.return_, 1) := by decide +kernel
theorem dX10_readsLine_62 : decode mX10_readsLine.2.1 62 = .ok (.iload_n 1, 1) := by decide +kernel
theorem dX10_readsLine_63 : decode mX10_readsLine.2.1 63 = .ok (.iconst 2, 1) := by decide +kernel
theorem dX10_readsLine_64 : decode mX10_readsLine.2.1 64 = .ok (.if_icmp .gt 10, 3) := by decide +kernel
theorem dX10_readsLine_67 : decode mX10_readsLine.2.1 67 = .ok (.aload_n 0, 1) := by decide +kernel
theorem dX10_readsLine_68 : decode mX10_readsLine.2.1 68 = .ok (.getfield 50, 3) := by decide +kernel
theorem dX10_readsLine_71 : decode mX10_readsLine.2.1 71 = .ok (.iload_n 1, 1) := by decide +kernel
theorem dX10_readsLine_72 : decode mX10_readsLine.2.1 72 = .ok (.iconst 1, 1) := by decide +kernel
theorem dX10_readsLine_73 : decode mX10_readsLine.2.1 73 = .ok (.bastore, 1) := by decide +kernel
theorem dX10_readsLine_74 : decode mX10_readsLine.2.1 74 = .ok (.aload_n 0, 1) := by decide +kernel
theorem dX10_readsLine_75 : decode mX10_readsLine.2.1 75 = .ok (.invokevirtual 224, 3) := by decide +kernel
theorem dX10_readsLine_78 : decode mX10_readsLine.2.1 78 = .ok (.iload_n 1, 1) := by decide +kernel
theorem dX10_readsLine_79 : decode mX10_readsLine.2.1 79 = .ok (.ifCond .ne 10, 3) := by decide +kernel
theorem dX10_readsLine_82 : decode mX10_readsLine.2.1 82 = .ok (.aload_n 0, 1) := by decide +kernel
theorem dX10_readsLine_83 : decode mX10_readsLine.2.1 83 = .ok (.invokevirtual 252, 3) := by decide +kernel
theorem dX10_readsLine_86 : decode mX10_readsLine.2.1 86 = .ok (.goto 73, 3) := by decide +kernel
theorem dX10_readsLine_89 : decode mX10_readsLine.2.1 89 = .ok (.iload_n 1, 1) := by decide +kernel
theorem dX10_readsLine_90 : decode mX10_readsLine.2.1 90 = .ok (.iconst 1, 1) := by decide +kernel
theorem dX10_readsLine_91 : decode mX10_readsLine.2.1 91 = .ok (.if_icmp .ne 16, 3) := by decide +kernel
theorem dX10_readsLine_94 : decode mX10_readsLine.2.1 94 = .ok (.aload_n 0, 1) := by decide +kernel
theorem dX10_readsLine_95 : decode mX10_readsLine.2.1 95 = .ok (.aload_n 0, 1) := by decide +kernel
theorem dX10_readsLine_96 : decode mX10_readsLine.2.1 96 = .ok (.iconst 1, 1) := by decide +kernel
theorem dX10_readsLine_97 : decode mX10_readsLine.2.1 97 = .ok (.iconst 3, 1) := by decide +kernel
theorem dX10_readsLine_98 : decode mX10_readsLine.2.1 98 = .ok (.invokevirtual 235, 3) := by decide +kernel
theorem dX10_readsLine_101 : decode mX10_readsLine.2.1 101 = .ok (.putfield 255, 3) := by decide +kernel
theorem dX10_readsLine_104 : decode mX10_readsLine.2.1 104 = .ok (.goto 55, 3) := by decide +kernel
theorem dX10_readsLine_107 : decode mX10_readsLine.2.1 107 = .ok (.iload_n 1, 1) := by decide +kernel
theorem dX10_readsLine_108 : decode mX10_readsLine.2.1 108 = .ok (.iconst 2, 1) := by decide +kernel
theorem dX10_readsLine_109 : decode mX10_readsLine.2.1 109 = .ok (.if_icmp .ne 24, 3) := by decide +kernel
theorem dX10_readsLine_112 : decode mX10_readsLine.2.1 112 = .ok (.aload_n 0, 1) := by decide +kernel
theorem dX10_readsLine_113 : decode mX10_readsLine.2.1 113 = .ok (.getfield 7, 3) := by decide +kernel
theorem dX10_readsLine_116 : decode mX10_readsLine.2.1 116 = .ok (.aload_n 0, 1) := by decide +kernel
theorem dX10_readsLine_117 : decode mX10_readsLine.2.1 117 = .ok (.bipush 31, 2) := by decide +kernel
theorem dX10_readsLine_119 : decode mX10_readsLine.2.1 119 = .ok (.iconst 0, 1) := by decide +kernel
theorem dX10_readsLine_120 : decode mX10_readsLine.2.1 120 = .ok (.invokevirtual 81, 3) := by decide +kernel
theorem dX10_readsLine_123 : decode mX10_readsLine.2.1 123 = .ok (.aload_n 0, 1) := by decide +kernel
theorem dX10_readsLine_124 : decode mX10_readsLine.2.1 124 = .ok (.iconst 0, 1) := by decide +kernel
theorem dX10_readsLine_125 : decode mX10_readsLine.2.1 125 = .ok (.iconst 4, 1) := by decide +kernel
theorem dX10_readsLine_126 : decode mX10_readsLine.2.1 126 = .ok (.invokevirtual 235, 3) := by decide +kernel
theorem dX10_readsLine_129 : decode mX10_readsLine.2.1 129 = .ok (.iastore, 1) := by decide +kernel
theorem dX10_readsLine_130 : decode mX10_readsLine.2.1 130 = .ok (.goto 29, 3) := by decide +kernel
theorem dX10_readsLine_133 : decode mX10_readsLine.2.1 133 = .ok (.iload_n 1, 1) := by decide +kernel
theorem dX10_readsLine_134 : decode mX10_readsLine.2.1 134 = .ok (.iconst 5, 1) := by decide +kernel
theorem dX10_readsLine_135 : decode mX10_readsLine.2.1 135 = .ok (.if_icmp .ne 10, 3) := by decide +kernel
theorem dX10_readsLine_138 : decode mX10_readsLine.2.1 138 = .ok (.aload_n 0, 1) := by decide +kernel
theorem dX10_readsLine_139 : decode mX10_readsLine.2.1 139 = .ok (.invokevirtual 258, 3) := by decide +kernel
theorem dX10_readsLine_142 : decode mX10_readsLine.2.1 142 = .ok (.goto 17, 3) := by decide +kernel
theorem dX10_readsLine_145 : decode mX10_readsLine.2.1 145 = .ok (.aload_n 0, 1) := by decide +kernel
theorem dX10_readsLine_146 : decode mX10_readsLine.2.1 146 = .ok (.iload_n 1, 1) := by decide +kernel
theorem dX10_readsLine_147 : decode mX10_readsLine.2.1 147 = .ok (.iconst 3, 1) := by decide +kernel
theorem dX10_readsLine_148 : decode mX10_readsLine.2.1 148 = .ok (.if_icmp .ne 7, 3) := by decide +kernel
theorem dX10_readsLine_151 : decode mX10_readsLine.2.1 151 = .ok (.iconst 1, 1) := by decide +kernel
theorem dX10_readsLine_152 : decode mX10_readsLine.2.1 152 = .ok (.goto 4, 3) := by decide +kernel
theorem dX10_readsLine_155 : decode mX10_readsLine.2.1 155 = .ok (.iconst 5, 1) := by decide +kernel
theorem dX10_readsLine_156 : decode mX10_readsLine.2.1 156 = .ok (.invokevirtual 261, 3) := by decide +kernel
theorem dX10_readsLine_159 : decode mX10_readsLine.2.1 159 = .ok (.aload_n 0, 1) := by decide +kernel
theorem dX10_readsLine_160 : decode mX10_readsLine.2.1 160 = .ok (.aload_n 0, 1) := by decide +kernel
theorem dX10_readsLine_161 : decode mX10_readsLine.2.1 161 = .ok (.getfield 188, 3) := by decide +kernel
theorem dX10_readsLine_164 : decode mX10_readsLine.2.1 164 = .ok (.ifCond .gt 11, 3) := by decide +kernel
theorem dX10_readsLine_167 : decode mX10_readsLine.2.1 167 = .ok (.aload_n 0, 1) := by decide +kernel
theorem dX10_readsLine_168 : decode mX10_readsLine.2.1 168 = .ok (.getfield 206, 3) := by decide +kernel
theorem dX10_readsLine_171 : decode mX10_readsLine.2.1 171 = .ok (.iconst 3, 1) := by decide +kernel
theorem dX10_readsLine_172 : decode mX10_readsLine.2.1 172 = .ok (.if_icmp .ne 7, 3) := by decide +kernel
theorem dX10_readsLine_175 : decode mX10_readsLine.2.1 175 = .ok (.iconst 1, 1) := by decide +kernel
theorem dX10_readsLine_176 : decode mX10_readsLine.2.1 176 = .ok (.goto 4, 3) := by decide +kernel
theorem dX10_readsLine_179 : decode mX10_readsLine.2.1 179 = .ok (.iconst 0, 1) := by decide +kernel
theorem dX10_readsLine_180 : decode mX10_readsLine.2.1 180 = .ok (.iconst 2, 1) := by decide +kernel
theorem dX10_readsLine_181 : decode mX10_readsLine.2.1 181 = .ok (.invokevirtual 217, 3) := by decide +kernel
theorem dX10_readsLine_184 : decode mX10_readsLine.2.1 184 = .ok (.pop, 1) := by decide +kernel
theorem dX10_readsLine_185 : decode mX10_readsLine.2.1 185 = .ok (.aload_n 0, 1) := by decide +kernel
theorem dX10_readsLine_186 : decode mX10_readsLine.2.1 186 = .ok (.invokevirtual 224, 3) := by decide +kernel
theorem dX10_readsLine_189 : decode mX10_readsLine.2.1 189 = .ok (.return_, 1) := by decide +kernel
theorem dX10_copies_0 : decode mX10_copies.2.1 0 = .ok (.iconst 0, 1) := by decide +kernel
theorem dX10_copies_1 : decode mX10_copies.2.1 1 = .ok (.istore_n 3, 1) := by decide +kernel
theorem dX10_copies_2 : decode mX10_copies.2.1 2 = .ok (.iload_n 3, 1) := by decide +kernel
theorem dX10_copies_3 : decode mX10_copies.2.1 3 = .ok (.bipush 57, 2) := by decide +kernel
theorem dX10_copies_5 : decode mX10_copies.2.1 5 = .ok (.if_icmp .ge 31, 3) := by decide +kernel
theorem dX10_copies_8 : decode mX10_copies.2.1 8 = .ok (.aload_n 0, 1) := by decide +kernel
theorem dX10_copies_9 : decode mX10_copies.2.1 9 = .ok (.getfield 7, 3) := by decide +kernel
theorem dX10_copies_12 : decode mX10_copies.2.1 12 = .ok (.aload_n 0, 1) := by decide +kernel
theorem dX10_copies_13 : decode mX10_copies.2.1 13 = .ok (.iload_n 2, 1) := by decide +kernel
theorem dX10_copies_14 : decode mX10_copies.2.1 14 = .ok (.iload_n 3, 1) := by decide +kernel
theorem dX10_copies_15 : decode mX10_copies.2.1 15 = .ok (.invokevirtual 81, 3) := by decide +kernel
theorem dX10_copies_18 : decode mX10_copies.2.1 18 = .ok (.aload_n 0, 1) := by decide +kernel
theorem dX10_copies_19 : decode mX10_copies.2.1 19 = .ok (.getfield 7, 3) := by decide +kernel
theorem dX10_copies_22 : decode mX10_copies.2.1 22 = .ok (.aload_n 0, 1) := by decide +kernel
theorem dX10_copies_23 : decode mX10_copies.2.1 23 = .ok (.iload_n 1, 1) := by decide +kernel
theorem dX10_copies_24 : decode mX10_copies.2.1 24 = .ok (.iload_n 3, 1) := by decide +kernel
theorem dX10_copies_25 : decode mX10_copies.2.1 25 = .ok (.invokevirtual 81, 3) := by decide +kernel
theorem dX10_copies_28 : decode mX10_copies.2.1 28 = .ok (.iaload, 1) := by decide +kernel
theorem dX10_copies_29 : decode mX10_copies.2.1 29 = .ok (.iastore, 1) := by decide +kernel
theorem dX10_copies_30 : decode mX10_copies.2.1 30 = .ok (.iinc 3 1, 3) := by decide +kernel
theorem dX10_copies_33 : decode mX10_copies.2.1 33 = .ok (.goto (-31), 3) := by decide +kernel
theorem dX10_copies_36 : decode mX10_copies.2.1 36 = .ok (.return_, 1) := by decide +kernel
theorem dX10_text_0 : decode mX10_text.2.1 0 = .ok (.aload_n 0, 1) := by decide +kernel
theorem dX10_text_1 : decode mX10_text.2.1 1 = .ok (.iconst 0, 1) := by decide +kernel
theorem dX10_text_2 : decode mX10_text.2.1 2 = .ok (.putfield 188, 3) := by decide +kernel
theorem dX10_text_5 : decode mX10_text.2.1 5 = .ok (.aload_n 0, 1) := by decide +kernel
theorem dX10_text_6 : decode mX10_text.2.1 6 = .ok (.iconst 0, 1) := by decide +kernel
theorem dX10_text_7 : decode mX10_text.2.1 7 = .ok (.putfield 197, 3) := by decide +kernel
theorem dX10_text_10 : decode mX10_text.2.1 10 = .ok (.aload_n 0, 1) := by decide +kernel
theorem dX10_text_11 : decode mX10_text.2.1 11 = .ok (.bipush 31, 2) := by decide +kernel
theorem dX10_text_13 : decode mX10_text.2.1 13 = .ok (.invokevirtual 156, 3) := by decide +kernel
theorem dX10_text_16 : decode mX10_text.2.1 16 = .ok (.aload_n 0, 1) := by decide +kernel
theorem dX10_text_17 : decode mX10_text.2.1 17 = .ok (.bipush 7, 2) := by decide +kernel
theorem dX10_text_19 : decode mX10_text.2.1 19 = .ok (.putfield 232, 3) := by decide +kernel
theorem dX10_text_22 : decode mX10_text.2.1 22 = .ok (.aload_n 0, 1) := by decide +kernel
theorem dX10_text_23 : decode mX10_text.2.1 23 = .ok (.iconst 2, 1) := by decide +kernel
theorem dX10_text_24 : decode mX10_text.2.1 24 = .ok (.putfield 255, 3) := by decide +kernel
theorem dX10_text_27 : decode mX10_text.2.1 27 = .ok (.aload_n 0, 1) := by decide +kernel
theorem dX10_text_28 : decode mX10_text.2.1 28 = .ok (.iconst 0, 1) := by decide +kernel
theorem dX10_text_29 : decode mX10_text.2.1 29 = .ok (.putfield 238, 3) := by decide +kernel
theorem dX10_text_32 : decode mX10_text.2.1 32 = .ok (.aload_n 0, 1) := by decide +kernel
theorem dX10_text_33 : decode mX10_text.2.1 33 = .ok (.iconst 0, 1) := by decide +kernel
theorem dX10_text_34 : decode mX10_text.2.1 34 = .ok (.putfield 246, 3) := by decide +kernel
theorem dX10_text_37 : decode mX10_text.2.1 37 = .ok (.iconst 0, 1) := by decide +kernel
theorem dX10_text_38 : decode mX10_text.2.1 38 = .ok (.istore_n 1, 1) := by decide +kernel
theorem dX10_text_39 : decode mX10_text.2.1 39 = .ok (.iload_n 1, 1) := by decide +kernel
theorem dX10_text_40 : decode mX10_text.2.1 40 = .ok (.iconst 3, 1) := by decide +kernel
theorem dX10_text_41 : decode mX10_text.2.1 41 = .ok (.if_icmp .ge 16, 3) := by decide +kernel
theorem dX10_text_44 : decode mX10_text.2.1 44 = .ok (.aload_n 0, 1) := by decide +kernel
theorem dX10_text_45 : decode mX10_text.2.1 45 = .ok (.getfield 50, 3) := by decide +kernel
theorem dX10_text_48 : decode mX10_text.2.1 48 = .ok (.iload_n 1, 1) := by decide +kernel
theorem dX10_text_49 : decode mX10_text.2.1 49 = .ok (.iconst 0, 1) := by decide +kernel
theorem dX10_text_50 : decode mX10_text.2.1 50 = .ok (.bastore, 1) := by decide +kernel
theorem dX10_text_51 : decode mX10_text.2.1 51 = .ok (.iinc 1 1, 3) := by decide +kernel
theorem dX10_text_54 : decode mX10_text.2.1 54 = .ok (.goto (-15), 3) := by decide +kernel
theorem dX10_text_57 : decode mX10_text.2.1 57 = .ok (.iconst 0, 1) := by decide +kernel
theorem dX10_text_58 : decode mX10_text.2.1 58 = .ok (.istore_n 1, 1) := by decide +kernel
theorem dX10_text_59 : decode mX10_text.2.1 59 = .ok (.aload_n 0, 1) := by decide +kernel
theorem dX10_text_60 : decode mX10_text.2.1 60 = .ok (.invokevirtual 224, 3) := by decide +kernel
theorem dX10_text_63 : decode mX10_text.2.1 63 = .ok (.aload_n 0, 1) := by decide +kernel
theorem dX10_text_64 : decode mX10_text.2.1 64 = .ok (.getfield 188, 3) := by decide +kernel
theorem dX10_text_67 : decode mX10_text.2.1 67 = .ok (.ifCond .ne 20, 3) := by decide +kernel
theorem dX10_text_70 : decode mX10_text.2.1 70 = .ok (.aload_n 0, 1) := by decide +kernel
theorem dX10_text_71 : decode mX10_text.2.1 71 = .ok (.getfield 206, 3) := by decide +kernel
theorem dX10_text_74 : decode mX10_text.2.1 74 = .ok (.ifCond .eq 13, 3) := by decide +kernel
theorem dX10_text_77 : decode mX10_text.2.1 77 = .ok (.aload_n 0, 1) := by decide +kernel
theorem dX10_text_78 : decode mX10_text.2.1 78 = .ok (.invokevirtual 270, 3) := by decide +kernel
theorem dX10_text_81 : decode mX10_text.2.1 81 = .ok (.iinc 1 1, 3) := by decide +kernel
theorem dX10_text_84 : decode mX10_text.2.1 84 = .ok (.goto (-21), 3) := by decide +kernel
theorem dX10_text_87 : decode mX10_text.2.1 87 = .ok (.aload_n 0, 1) := by decide +kernel
theorem dX10_text_88 : decode mX10_text.2.1 88 = .ok (.aload_n 0, 1) := by decide +kernel
theorem dX10_text_89 : decode mX10_text.2.1 89 = .ok (.getfield 188, 3) := by decide +kernel
theorem dX10_text_92 : decode mX10_text.2.1 92 = .ok (.ifCond .gt 27, 3) := by decide +kernel
theorem dX10_text_95 : decode mX10_text.2.1 95 = .ok (.aload_n 0, 1) := by decide +kernel
theorem dX10_text_96 : decode mX10_text.2.1 96 = .ok (.getfield 238, 3) := by decide +kernel
theorem dX10_text_99 : decode mX10_text.2.1 99 = .ok (.aload_n 0, 1) := by decide +kernel
theorem dX10_text_100 : decode mX10_text.2.1 100 = .ok (.bipush 31, 2) := by decide +kernel
theorem dX10_text_102 : decode mX10_text.2.1 102 = .ok (.invokevirtual 95, 3) := by decide +kernel
theorem dX10_text_105 : decode mX10_text.2.1 105 = .ok (.if_icmp .gt 18, 3) := by decide +kernel
theorem dX10_text_108 : decode mX10_text.2.1 108 = .ok (.aload_n 0, 1) := by decide +kernel
theorem dX10_text_109 : decode mX10_text.2.1 109 = .ok (.getfield 246, 3) := by decide +kernel
theorem dX10_text_112 : decode mX10_text.2.1 112 = .ok (.aload_n 0, 1) := by decide +kernel
theorem dX10_text_113 : decode mX10_text.2.1 113 = .ok (.getfield 255, 3) := by decide +kernel
theorem dX10_text_116 : decode mX10_text.2.1 116 = .ok (.if_icmp .gt 7, 3) := by decide +kernel
theorem dX10_text_119 : decode mX10_text.2.1 119 = .ok (.iconst 1, 1) := by decide +kernel
theorem dX10_text_120 : decode mX10_text.2.1 120 = .ok (.goto 4, 3) := by decide +kernel
theorem dX10_text_123 : decode mX10_text.2.1 123 = .ok (.iconst 0, 1) := by decide +kernel
theorem dX10_text_124 : decode mX10_text.2.1 124 = .ok (.iconst 5, 1) := by decide +kernel
theorem dX10_text_125 : decode mX10_text.2.1 125 = .ok (.invokevirtual 217, 3) := by decide +kernel
theorem dX10_text_128 : decode mX10_text.2.1 128 = .ok (.pop, 1) := by decide +kernel
theorem dX10_text_129 : decode mX10_text.2.1 129 = .ok (.aload_n 0, 1) := by decide +kernel
theorem dX10_text_130 : decode mX10_text.2.1 130 = .ok (.iconst 0, 1) := by decide +kernel
theorem dX10_text_131 : decode mX10_text.2.1 131 = .ok (.putfield 185, 3) := by decide +kernel
theorem dX10_text_134 : decode mX10_text.2.1 134 = .ok (.aload_n 0, 1) := by decide +kernel
theorem dX10_text_135 : decode mX10_text.2.1 135 = .ok (.getfield 188, 3) := by decide +kernel
theorem dX10_text_138 : decode mX10_text.2.1 138 = .ok (.ifCond .le 11, 3) := by decide +kernel
theorem dX10_text_141 : decode mX10_text.2.1 141 = .ok (.bipush (-10), 2) := by decide +kernel
theorem dX10_text_143 : decode mX10_text.2.1 143 = .ok (.aload_n 0, 1) := by decide +kernel
theorem dX10_text_144 : decode mX10_text.2.1 144 = .ok (.getfield 194, 3) := by decide +kernel
theorem dX10_text_147 : decode mX10_text.2.1 147 = .ok (.isub, 1) := by decide +kernel
theorem dX10_text_148 : decode mX10_text.2.1 148 = .ok (.ireturn, 1) := by decide +kernel
theorem dX10_text_149 : decode mX10_text.2.1 149 = .ok (.aload_n 0, 1) := by decide +kernel
theorem dX10_text_150 : decode mX10_text.2.1 150 = .ok (.invokevirtual 273, 3) := by decide +kernel
theorem dX10_text_153 : decode mX10_text.2.1 153 = .ok (.iload_n 1, 1) := by decide +kernel
theorem dX10_text_154 : decode mX10_text.2.1 154 = .ok (.ireturn, 1) := by decide +kernel
theorem dX10_fault_0 : decode mX10_fault.2.1 0 = .ok (.aload_n 0, 1) := by decide +kernel
theorem dX10_fault_1 : decode mX10_fault.2.1 1 = .ok (.getfield 188, 3) := by decide +kernel
theorem dX10_fault_4 : decode mX10_fault.2.1 4 = .ok (.ireturn, 1) := by decide +kernel
theorem dX10_firstOf_0 : decode mX10_firstOf.2.1 0 = .ok (.iconst 0, 1) := by decide +kernel
theorem dX10_firstOf_1 : decode mX10_firstOf.2.1 1 = .ok (.istore_n 2, 1) := by decide +kernel
theorem dX10_firstOf_2 : decode mX10_firstOf.2.1 2 = .ok (.iconst 0, 1) := by decide +kernel
theorem dX10_firstOf_3 : decode mX10_firstOf.2.1 3 = .ok (.istore_n 3, 1) := by decide +kernel
theorem dX10_firstOf_4 : decode mX10_firstOf.2.1 4 = .ok (.iload_n 3, 1) := by decide +kernel
theorem dX10_firstOf_5 : decode mX10_firstOf.2.1 5 = .ok (.iload_n 1, 1) := by decide +kernel
theorem dX10_firstOf_6 : decode mX10_firstOf.2.1 6 = .ok (.if_icmp .ge 17, 3) := by decide +kernel
theorem dX10_firstOf_9 : decode mX10_firstOf.2.1 9 = .ok (.iload_n 2, 1) := by decide +kernel
theorem dX10_firstOf_10 : decode mX10_firstOf.2.1 10 = .ok (.aload_n 0, 1) := by decide +kernel
theorem dX10_firstOf_11 : decode mX10_firstOf.2.1 11 = .ok (.iload_n 3, 1) := by decide +kernel
theorem dX10_firstOf_12 : decode mX10_firstOf.2.1 12 = .ok (.invokevirtual 85, 3) := by decide +kernel
theorem dX10_firstOf_15 : decode mX10_firstOf.2.1 15 = .ok (.iadd, 1) := by decide +kernel
theorem dX10_firstOf_16 : decode mX10_firstOf.2.1 16 = .ok (.istore_n 2, 1) := by decide +kernel
theorem dX10_firstOf_17 : decode mX10_firstOf.2.1 17 = .ok (.iinc 3 1, 3) := by decide +kernel
theorem dX10_firstOf_20 : decode mX10_firstOf.2.1 20 = .ok (.goto (-16), 3) := by decide +kernel
theorem dX10_firstOf_23 : decode mX10_firstOf.2.1 23 = .ok (.iload_n 2, 1) := by decide +kernel
theorem dX10_firstOf_24 : decode mX10_firstOf.2.1 24 = .ok (.ireturn, 1) := by decide +kernel
theorem dX10_joined_0 : decode mX10_joined.2.1 0 = .ok (.aload_n 0, 1) := by decide +kernel
theorem dX10_joined_1 : decode mX10_joined.2.1 1 = .ok (.iload_n 1, 1) := by decide +kernel
theorem dX10_joined_2 : decode mX10_joined.2.1 2 = .ok (.invokevirtual 92, 3) := by decide +kernel
theorem dX10_joined_5 : decode mX10_joined.2.1 5 = .ok (.istore_n 3, 1) := by decide +kernel
theorem dX10_joined_6 : decode mX10_joined.2.1 6 = .ok (.aload_n 0, 1) := by decide +kernel
theorem dX10_joined_7 : decode mX10_joined.2.1 7 = .ok (.iload_n 2, 1) := by decide +kernel
theorem dX10_joined_8 : decode mX10_joined.2.1 8 = .ok (.invokevirtual 92, 3) := by decide +kernel
theorem dX10_joined_11 : decode mX10_joined.2.1 11 = .ok (.istore 4, 2) := by decide +kernel
theorem dX10_joined_13 : decode mX10_joined.2.1 13 = .ok (.aload_n 0, 1) := by decide +kernel
theorem dX10_joined_14 : decode mX10_joined.2.1 14 = .ok (.iload_n 3, 1) := by decide +kernel
theorem dX10_joined_15 : decode mX10_joined.2.1 15 = .ok (.iload 4, 2) := by decide +kernel
theorem dX10_joined_17 : decode mX10_joined.2.1 17 = .ok (.iadd, 1) := by decide +kernel
theorem dX10_joined_18 : decode mX10_joined.2.1 18 = .ok (.invokevirtual 89, 3) := by decide +kernel
theorem dX10_joined_21 : decode mX10_joined.2.1 21 = .ok (.iload_n 1, 1) := by decide +kernel
theorem dX10_joined_22 : decode mX10_joined.2.1 22 = .ok (.aload_n 0, 1) := by decide +kernel
theorem dX10_joined_23 : decode mX10_joined.2.1 23 = .ok (.iload_n 3, 1) := by decide +kernel
theorem dX10_joined_24 : decode mX10_joined.2.1 24 = .ok (.invokevirtual 89, 3) := by decide +kernel
theorem dX10_joined_27 : decode mX10_joined.2.1 27 = .ok (.isub, 1) := by decide +kernel
theorem dX10_joined_28 : decode mX10_joined.2.1 28 = .ok (.aload_n 0, 1) := by decide +kernel
theorem dX10_joined_29 : decode mX10_joined.2.1 29 = .ok (.iload 4, 2) := by decide +kernel
theorem dX10_joined_31 : decode mX10_joined.2.1 31 = .ok (.invokevirtual 85, 3) := by decide +kernel
theorem dX10_joined_34 : decode mX10_joined.2.1 34 = .ok (.imul, 1) := by decide +kernel
theorem dX10_joined_35 : decode mX10_joined.2.1 35 = .ok (.iadd, 1) := by decide +kernel
theorem dX10_joined_36 : decode mX10_joined.2.1 36 = .ok (.iload_n 2, 1) := by decide +kernel
theorem dX10_joined_37 : decode mX10_joined.2.1 37 = .ok (.iadd, 1) := by decide +kernel
theorem dX10_joined_38 : decode mX10_joined.2.1 38 = .ok (.aload_n 0, 1) := by decide +kernel
theorem dX10_joined_39 : decode mX10_joined.2.1 39 = .ok (.iload 4, 2) := by decide +kernel
theorem dX10_joined_41 : decode mX10_joined.2.1 41 = .ok (.invokevirtual 89, 3) := by decide +kernel
theorem dX10_joined_44 : decode mX10_joined.2.1 44 = .ok (.isub, 1) := by decide +kernel
theorem dX10_joined_45 : decode mX10_joined.2.1 45 = .ok (.ireturn, 1) := by decide +kernel
theorem dX10_steps_0 : decode mX10_steps.2.1 0 = .ok (.aload_n 0, 1) := by decide +kernel
theorem dX10_steps_1 : decode mX10_steps.2.1 1 = .ok (.iload_n 1, 1) := by decide +kernel
theorem dX10_steps_2 : decode mX10_steps.2.1 2 = .ok (.invokevirtual 95, 3) := by decide +kernel
theorem dX10_steps_5 : decode mX10_steps.2.1 5 = .ok (.istore_n 3, 1) := by decide +kernel
theorem dX10_steps_6 : decode mX10_steps.2.1 6 = .ok (.iconst 0, 1) := by decide +kernel
theorem dX10_steps_7 : decode mX10_steps.2.1 7 = .ok (.istore 4, 2) := by decide +kernel
theorem dX10_steps_9 : decode mX10_steps.2.1 9 = .ok (.iload 4, 2) := by decide +kernel
theorem dX10_steps_11 : decode mX10_steps.2.1 11 = .ok (.iload_n 3, 1) := by decide +kernel
theorem dX10_steps_12 : decode mX10_steps.2.1 12 = .ok (.if_icmp .ge 64, 3) := by decide +kernel
theorem dX10_steps_15 : decode mX10_steps.2.1 15 = .ok (.iconst 0, 1) := by decide +kernel
theorem dX10_steps_16 : decode mX10_steps.2.1 16 = .ok (.istore 5, 2) := by decide +kernel
theorem dX10_steps_18 : decode mX10_steps.2.1 18 = .ok (.iconst 0, 1) := by decide +kernel
theorem dX10_steps_19 : decode mX10_steps.2.1 19 = .ok (.istore 6, 2) := by decide +kernel
theorem dX10_steps_21 : decode mX10_steps.2.1 21 = .ok (.iload 6, 2) := by decide +kernel
theorem dX10_steps_23 : decode mX10_steps.2.1 23 = .ok (.iload_n 3, 1) := by decide +kernel
theorem dX10_steps_24 : decode mX10_steps.2.1 24 = .ok (.if_icmp .ge 32, 3) := by decide +kernel
theorem dX10_steps_27 : decode mX10_steps.2.1 27 = .ok (.iload 5, 2) := by decide +kernel
theorem dX10_steps_29 : decode mX10_steps.2.1 29 = .ok (.aload_n 0, 1) := by decide +kernel
theorem dX10_steps_30 : decode mX10_steps.2.1 30 = .ok (.getfield 20, 3) := by decide +kernel
theorem dX10_steps_33 : decode mX10_steps.2.1 33 = .ok (.iload 6, 2) := by decide +kernel
theorem dX10_steps_35 : decode mX10_steps.2.1 35 = .ok (.iaload, 1) := by decide +kernel
theorem dX10_steps_36 : decode mX10_steps.2.1 36 = .ok (.aload_n 0, 1) := by decide +kernel
theorem dX10_steps_37 : decode mX10_steps.2.1 37 = .ok (.iload_n 1, 1) := by decide +kernel
theorem dX10_steps_38 : decode mX10_steps.2.1 38 = .ok (.iload 6, 2) := by decide +kernel
theorem dX10_steps_40 : decode mX10_steps.2.1 40 = .ok (.iload_n 2, 1) := by decide +kernel
theorem dX10_steps_41 : decode mX10_steps.2.1 41 = .ok (.iload 4, 2) := by decide +kernel
theorem dX10_steps_43 : decode mX10_steps.2.1 43 = .ok (.invokevirtual 98, 3) := by decide +kernel
theorem dX10_steps_46 : decode mX10_steps.2.1 46 = .ok (.imul, 1) := by decide +kernel
theorem dX10_steps_47 : decode mX10_steps.2.1 47 = .ok (.iadd, 1) := by decide +kernel
theorem dX10_steps_48 : decode mX10_steps.2.1 48 = .ok (.istore 5, 2) := by decide +kernel
theorem dX10_steps_50 : decode mX10_steps.2.1 50 = .ok (.iinc 6 1, 3) := by decide +kernel
theorem dX10_steps_53 : decode mX10_steps.2.1 53 = .ok (.goto (-32), 3) := by decide +kernel
theorem dX10_steps_56 : decode mX10_steps.2.1 56 = .ok (.aload_n 0, 1) := by decide +kernel
theorem dX10_steps_57 : decode mX10_steps.2.1 57 = .ok (.getfield 23, 3) := by decide +kernel
theorem dX10_steps_60 : decode mX10_steps.2.1 60 = .ok (.iload 4, 2) := by decide +kernel
theorem dX10_steps_62 : decode mX10_steps.2.1 62 = .ok (.iload 5, 2) := by decide +kernel
theorem dX10_steps_64 : decode mX10_steps.2.1 64 = .ok (.aload_n 0, 1) := by decide +kernel
theorem dX10_steps_65 : decode mX10_steps.2.1 65 = .ok (.getfield 13, 3) := by decide +kernel
theorem dX10_steps_68 : decode mX10_steps.2.1 68 = .ok (.irem, 1) := by decide +kernel
theorem dX10_steps_69 : decode mX10_steps.2.1 69 = .ok (.iastore, 1) := by decide +kernel
theorem dX10_steps_70 : decode mX10_steps.2.1 70 = .ok (.iinc 4 1, 3) := by decide +kernel
theorem dX10_steps_73 : decode mX10_steps.2.1 73 = .ok (.goto (-64), 3) := by decide +kernel
theorem dX10_steps_76 : decode mX10_steps.2.1 76 = .ok (.iconst 0, 1) := by decide +kernel
theorem dX10_steps_77 : decode mX10_steps.2.1 77 = .ok (.istore 4, 2) := by decide +kernel
theorem dX10_steps_79 : decode mX10_steps.2.1 79 = .ok (.iload 4, 2) := by decide +kernel
theorem dX10_steps_81 : decode mX10_steps.2.1 81 = .ok (.iload_n 3, 1) := by decide +kernel
theorem dX10_steps_82 : decode mX10_steps.2.1 82 = .ok (.if_icmp .ge 23, 3) := by decide +kernel
theorem dX10_steps_85 : decode mX10_steps.2.1 85 = .ok (.aload_n 0, 1) := by decide +kernel
theorem dX10_steps_86 : decode mX10_steps.2.1 86 = .ok (.getfield 20, 3) := by decide +kernel
theorem dX10_steps_89 : decode mX10_steps.2.1 89 = .ok (.iload 4, 2) := by decide +kernel
theorem dX10_steps_91 : decode mX10_steps.2.1 91 = .ok (.aload_n 0, 1) := by decide +kernel
theorem dX10_steps_92 : decode mX10_steps.2.1 92 = .ok (.getfield 23, 3) := by decide +kernel
theorem dX10_steps_95 : decode mX10_steps.2.1 95 = .ok (.iload 4, 2) := by decide +kernel
theorem dX10_steps_97 : decode mX10_steps.2.1 97 = .ok (.iaload, 1) := by decide +kernel
theorem dX10_steps_98 : decode mX10_steps.2.1 98 = .ok (.iastore, 1) := by decide +kernel
theorem dX10_steps_99 : decode mX10_steps.2.1 99 = .ok (.iinc 4 1, 3) := by decide +kernel
theorem dX10_steps_102 : decode mX10_steps.2.1 102 = .ok (.goto (-23), 3) := by decide +kernel
theorem dX10_steps_105 : decode mX10_steps.2.1 105 = .ok (.return_, 1) := by decide +kernel
theorem dX10_ended_0 : decode mX10_ended.2.1 0 = .ok (.iconst 0, 1) := by decide +kernel
theorem dX10_ended_1 : decode mX10_ended.2.1 1 = .ok (.istore_n 2, 1) := by decide +kernel
theorem dX10_ended_2 : decode mX10_ended.2.1 2 = .ok (.iconst 0, 1) := by decide +kernel
theorem dX10_ended_3 : decode mX10_ended.2.1 3 = .ok (.istore_n 3, 1) := by decide +kernel
theorem dX10_ended_4 : decode mX10_ended.2.1 4 = .ok (.iload_n 3, 1) := by decide +kernel
theorem dX10_ended_5 : decode mX10_ended.2.1 5 = .ok (.aload_n 0, 1) := by decide +kernel
theorem dX10_ended_6 : decode mX10_ended.2.1 6 = .ok (.iload_n 1, 1) := by decide +kernel
theorem dX10_ended_7 : decode mX10_ended.2.1 7 = .ok (.invokevirtual 95, 3) := by decide +kernel
theorem dX10_ended_10 : decode mX10_ended.2.1 10 = .ok (.if_icmp .ge 32, 3) := by decide +kernel
theorem dX10_ended_13 : decode mX10_ended.2.1 13 = .ok (.iload_n 2, 1) := by decide +kernel
theorem dX10_ended_14 : decode mX10_ended.2.1 14 = .ok (.aload_n 0, 1) := by decide +kernel
theorem dX10_ended_15 : decode mX10_ended.2.1 15 = .ok (.getfield 20, 3) := by decide +kernel
theorem dX10_ended_18 : decode mX10_ended.2.1 18 = .ok (.iload_n 3, 1) := by decide +kernel
theorem dX10_ended_19 : decode mX10_ended.2.1 19 = .ok (.iaload, 1) := by decide +kernel
theorem dX10_ended_20 : decode mX10_ended.2.1 20 = .ok (.aload_n 0, 1) := by decide +kernel
theorem dX10_ended_21 : decode mX10_ended.2.1 21 = .ok (.getfield 7, 3) := by decide +kernel
theorem dX10_ended_24 : decode mX10_ended.2.1 24 = .ok (.aload_n 0, 1) := by decide +kernel
theorem dX10_ended_25 : decode mX10_ended.2.1 25 = .ok (.iload_n 1, 1) := by decide +kernel
theorem dX10_ended_26 : decode mX10_ended.2.1 26 = .ok (.iconst 5, 1) := by decide +kernel
theorem dX10_ended_27 : decode mX10_ended.2.1 27 = .ok (.iload_n 3, 1) := by decide +kernel
theorem dX10_ended_28 : decode mX10_ended.2.1 28 = .ok (.iadd, 1) := by decide +kernel
theorem dX10_ended_29 : decode mX10_ended.2.1 29 = .ok (.invokevirtual 81, 3) := by decide +kernel
theorem dX10_ended_32 : decode mX10_ended.2.1 32 = .ok (.iaload, 1) := by decide +kernel
theorem dX10_ended_33 : decode mX10_ended.2.1 33 = .ok (.imul, 1) := by decide +kernel
theorem dX10_ended_34 : decode mX10_ended.2.1 34 = .ok (.iadd, 1) := by decide +kernel
theorem dX10_ended_35 : decode mX10_ended.2.1 35 = .ok (.istore_n 2, 1) := by decide +kernel
theorem dX10_ended_36 : decode mX10_ended.2.1 36 = .ok (.iinc 3 1, 3) := by decide +kernel
theorem dX10_ended_39 : decode mX10_ended.2.1 39 = .ok (.goto (-35), 3) := by decide +kernel
theorem dX10_ended_42 : decode mX10_ended.2.1 42 = .ok (.iload_n 2, 1) := by decide +kernel
theorem dX10_ended_43 : decode mX10_ended.2.1 43 = .ok (.aload_n 0, 1) := by decide +kernel
theorem dX10_ended_44 : decode mX10_ended.2.1 44 = .ok (.getfield 13, 3) := by decide +kernel
theorem dX10_ended_47 : decode mX10_ended.2.1 47 = .ok (.irem, 1) := by decide +kernel
theorem dX10_ended_48 : decode mX10_ended.2.1 48 = .ok (.ireturn, 1) := by decide +kernel
theorem dX10_swaps_0 : decode mX10_swaps.2.1 0 = .ok (.iconst 0, 1) := by decide +kernel
theorem dX10_swaps_1 : decode mX10_swaps.2.1 1 = .ok (.istore 4, 2) := by decide +kernel
theorem dX10_swaps_3 : decode mX10_swaps.2.1 3 = .ok (.iload 4, 2) := by decide +kernel
theorem dX10_swaps_5 : decode mX10_swaps.2.1 5 = .ok (.iload_n 3, 1) := by decide +kernel
theorem dX10_swaps_6 : decode mX10_swaps.2.1 6 = .ok (.if_icmp .gt 57, 3) := by decide +kernel
theorem dX10_swaps_9 : decode mX10_swaps.2.1 9 = .ok (.aload_n 0, 1) := by decide +kernel
theorem dX10_swaps_10 : decode mX10_swaps.2.1 10 = .ok (.getfield 26, 3) := by decide +kernel
theorem dX10_swaps_13 : decode mX10_swaps.2.1 13 = .ok (.iconst 5, 1) := by decide +kernel
theorem dX10_swaps_14 : decode mX10_swaps.2.1 14 = .ok (.iload_n 1, 1) := by decide +kernel
theorem dX10_swaps_15 : decode mX10_swaps.2.1 15 = .ok (.imul, 1) := by decide +kernel
theorem dX10_swaps_16 : decode mX10_swaps.2.1 16 = .ok (.iload 4, 2) := by decide +kernel
theorem dX10_swaps_18 : decode mX10_swaps.2.1 18 = .ok (.iadd, 1) := by decide +kernel
theorem dX10_swaps_19 : decode mX10_swaps.2.1 19 = .ok (.iaload, 1) := by decide +kernel
theorem dX10_swaps_20 : decode mX10_swaps.2.1 20 = .ok (.istore 5, 2) := by decide +kernel
theorem dX10_swaps_22 : decode mX10_swaps.2.1 22 = .ok (.aload_n 0, 1) := by decide +kernel
theorem dX10_swaps_23 : decode mX10_swaps.2.1 23 = .ok (.getfield 26, 3) := by decide +kernel
theorem dX10_swaps_26 : decode mX10_swaps.2.1 26 = .ok (.iconst 5, 1) := by decide +kernel
theorem dX10_swaps_27 : decode mX10_swaps.2.1 27 = .ok (.iload_n 1, 1) := by decide +kernel
theorem dX10_swaps_28 : decode mX10_swaps.2.1 28 = .ok (.imul, 1) := by decide +kernel
theorem dX10_swaps_29 : decode mX10_swaps.2.1 29 = .ok (.iload 4, 2) := by decide +kernel
theorem dX10_swaps_31 : decode mX10_swaps.2.1 31 = .ok (.iadd, 1) := by decide +kernel
theorem dX10_swaps_32 : decode mX10_swaps.2.1 32 = .ok (.aload_n 0, 1) := by decide +kernel
theorem dX10_swaps_33 : decode mX10_swaps.2.1 33 = .ok (.getfield 26, 3) := by decide +kernel
theorem dX10_swaps_36 : decode mX10_swaps.2.1 36 = .ok (.iconst 5, 1) := by decide +kernel
theorem dX10_swaps_37 : decode mX10_swaps.2.1 37 = .ok (.iload_n 2, 1) := by decide +kernel
theorem dX10_swaps_38 : decode mX10_swaps.2.1 38 = .ok (.imul, 1) := by decide +kernel
theorem dX10_swaps_39 : decode mX10_swaps.2.1 39 = .ok (.iload 4, 2) := by decide +kernel
theorem dX10_swaps_41 : decode mX10_swaps.2.1 41 = .ok (.iadd, 1) := by decide +kernel
theorem dX10_swaps_42 : decode mX10_swaps.2.1 42 = .ok (.iaload, 1) := by decide +kernel
theorem dX10_swaps_43 : decode mX10_swaps.2.1 43 = .ok (.iastore, 1) := by decide +kernel
theorem dX10_swaps_44 : decode mX10_swaps.2.1 44 = .ok (.aload_n 0, 1) := by decide +kernel
theorem dX10_swaps_45 : decode mX10_swaps.2.1 45 = .ok (.getfield 26, 3) := by decide +kernel
theorem dX10_swaps_48 : decode mX10_swaps.2.1 48 = .ok (.iconst 5, 1) := by decide +kernel
theorem dX10_swaps_49 : decode mX10_swaps.2.1 49 = .ok (.iload_n 2, 1) := by decide +kernel
theorem dX10_swaps_50 : decode mX10_swaps.2.1 50 = .ok (.imul, 1) := by decide +kernel
theorem dX10_swaps_51 : decode mX10_swaps.2.1 51 = .ok (.iload 4, 2) := by decide +kernel
theorem dX10_swaps_53 : decode mX10_swaps.2.1 53 = .ok (.iadd, 1) := by decide +kernel
theorem dX10_swaps_54 : decode mX10_swaps.2.1 54 = .ok (.iload 5, 2) := by decide +kernel
theorem dX10_swaps_56 : decode mX10_swaps.2.1 56 = .ok (.iastore, 1) := by decide +kernel
theorem dX10_swaps_57 : decode mX10_swaps.2.1 57 = .ok (.iinc 4 1, 3) := by decide +kernel
theorem dX10_swaps_60 : decode mX10_swaps.2.1 60 = .ok (.goto (-57), 3) := by decide +kernel
theorem dX10_swaps_63 : decode mX10_swaps.2.1 63 = .ok (.return_, 1) := by decide +kernel
theorem dX10_takesAway_0 : decode mX10_takesAway.2.1 0 = .ok (.aload_n 0, 1) := by decide +kernel
theorem dX10_takesAway_1 : decode mX10_takesAway.2.1 1 = .ok (.getfield 26, 3) := by decide +kernel
theorem dX10_takesAway_4 : decode mX10_takesAway.2.1 4 = .ok (.iconst 5, 1) := by decide +kernel
theorem dX10_takesAway_5 : decode mX10_takesAway.2.1 5 = .ok (.iload_n 1, 1) := by decide +kernel
theorem dX10_takesAway_6 : decode mX10_takesAway.2.1 6 = .ok (.imul, 1) := by decide +kernel
theorem dX10_takesAway_7 : decode mX10_takesAway.2.1 7 = .ok (.iload 4, 2) := by decide +kernel
theorem dX10_takesAway_9 : decode mX10_takesAway.2.1 9 = .ok (.iadd, 1) := by decide +kernel
theorem dX10_takesAway_10 : decode mX10_takesAway.2.1 10 = .ok (.iaload, 1) := by decide +kernel
theorem dX10_takesAway_11 : decode mX10_takesAway.2.1 11 = .ok (.istore 5, 2) := by decide +kernel
theorem dX10_takesAway_13 : decode mX10_takesAway.2.1 13 = .ok (.iconst 0, 1) := by decide +kernel
theorem dX10_takesAway_14 : decode mX10_takesAway.2.1 14 = .ok (.istore 6, 2) := by decide +kernel
theorem dX10_takesAway_16 : decode mX10_takesAway.2.1 16 = .ok (.iload 6, 2) := by decide +kernel
theorem dX10_takesAway_18 : decode mX10_takesAway.2.1 18 = .ok (.iload_n 3, 1) := by decide +kernel
theorem dX10_takesAway_19 : decode mX10_takesAway.2.1 19 = .ok (.if_icmp .gt 56, 3) := by decide +kernel
theorem dX10_takesAway_22 : decode mX10_takesAway.2.1 22 = .ok (.aload_n 0, 1) := by decide +kernel
theorem dX10_takesAway_23 : decode mX10_takesAway.2.1 23 = .ok (.getfield 26, 3) := by decide +kernel
theorem dX10_takesAway_26 : decode mX10_takesAway.2.1 26 = .ok (.iconst 5, 1) := by decide +kernel
theorem dX10_takesAway_27 : decode mX10_takesAway.2.1 27 = .ok (.iload_n 1, 1) := by decide +kernel
theorem dX10_takesAway_28 : decode mX10_takesAway.2.1 28 = .ok (.imul, 1) := by decide +kernel
theorem dX10_takesAway_29 : decode mX10_takesAway.2.1 29 = .ok (.iload 6, 2) := by decide +kernel
theorem dX10_takesAway_31 : decode mX10_takesAway.2.1 31 = .ok (.iadd, 1) := by decide +kernel
theorem dX10_takesAway_32 : decode mX10_takesAway.2.1 32 = .ok (.aload_n 0, 1) := by decide +kernel
theorem dX10_takesAway_33 : decode mX10_takesAway.2.1 33 = .ok (.getfield 26, 3) := by decide +kernel
theorem dX10_takesAway_36 : decode mX10_takesAway.2.1 36 = .ok (.iconst 5, 1) := by decide +kernel
theorem dX10_takesAway_37 : decode mX10_takesAway.2.1 37 = .ok (.iload_n 1, 1) := by decide +kernel
theorem dX10_takesAway_38 : decode mX10_takesAway.2.1 38 = .ok (.imul, 1) := by decide +kernel
theorem dX10_takesAway_39 : decode mX10_takesAway.2.1 39 = .ok (.iload 6, 2) := by decide +kernel
theorem dX10_takesAway_41 : decode mX10_takesAway.2.1 41 = .ok (.iadd, 1) := by decide +kernel
theorem dX10_takesAway_42 : decode mX10_takesAway.2.1 42 = .ok (.iaload, 1) := by decide +kernel
theorem dX10_takesAway_43 : decode mX10_takesAway.2.1 43 = .ok (.aload_n 0, 1) := by decide +kernel
theorem dX10_takesAway_44 : decode mX10_takesAway.2.1 44 = .ok (.getfield 13, 3) := by decide +kernel
theorem dX10_takesAway_47 : decode mX10_takesAway.2.1 47 = .ok (.iload 5, 2) := by decide +kernel
theorem dX10_takesAway_49 : decode mX10_takesAway.2.1 49 = .ok (.isub, 1) := by decide +kernel
theorem dX10_takesAway_50 : decode mX10_takesAway.2.1 50 = .ok (.aload_n 0, 1) := by decide +kernel
theorem dX10_takesAway_51 : decode mX10_takesAway.2.1 51 = .ok (.getfield 26, 3) := by decide +kernel
theorem dX10_takesAway_54 : decode mX10_takesAway.2.1 54 = .ok (.iconst 5, 1) := by decide +kernel
theorem dX10_takesAway_55 : decode mX10_takesAway.2.1 55 = .ok (.iload_n 2, 1) := by decide +kernel
theorem dX10_takesAway_56 : decode mX10_takesAway.2.1 56 = .ok (.imul, 1) := by decide +kernel
theorem dX10_takesAway_57 : decode mX10_takesAway.2.1 57 = .ok (.iload 6, 2) := by decide +kernel
theorem dX10_takesAway_59 : decode mX10_takesAway.2.1 59 = .ok (.iadd, 1) := by decide +kernel
theorem dX10_takesAway_60 : decode mX10_takesAway.2.1 60 = .ok (.iaload, 1) := by decide +kernel
theorem dX10_takesAway_61 : decode mX10_takesAway.2.1 61 = .ok (.imul, 1) := by decide +kernel
theorem dX10_takesAway_62 : decode mX10_takesAway.2.1 62 = .ok (.iadd, 1) := by decide +kernel
theorem dX10_takesAway_63 : decode mX10_takesAway.2.1 63 = .ok (.aload_n 0, 1) := by decide +kernel
theorem dX10_takesAway_64 : decode mX10_takesAway.2.1 64 = .ok (.getfield 13, 3) := by decide +kernel
theorem dX10_takesAway_67 : decode mX10_takesAway.2.1 67 = .ok (.irem, 1) := by decide +kernel
theorem dX10_takesAway_68 : decode mX10_takesAway.2.1 68 = .ok (.iastore, 1) := by decide +kernel
theorem dX10_takesAway_69 : decode mX10_takesAway.2.1 69 = .ok (.iinc 6 1, 3) := by decide +kernel
theorem dX10_takesAway_72 : decode mX10_takesAway.2.1 72 = .ok (.goto (-56), 3) := by decide +kernel
theorem dX10_takesAway_75 : decode mX10_takesAway.2.1 75 = .ok (.return_, 1) := by decide +kernel
theorem dX10_isBased_0 : decode mX10_isBased.2.1 0 = .ok (.aload_n 0, 1) := by decide +kernel
theorem dX10_isBased_1 : decode mX10_isBased.2.1 1 = .ok (.iconst 4, 1) := by decide +kernel
theorem dX10_isBased_2 : decode mX10_isBased.2.1 2 = .ok (.invokevirtual 89, 3) := by decide +kernel
theorem dX10_isBased_5 : decode mX10_isBased.2.1 5 = .ok (.istore_n 3, 1) := by decide +kernel
theorem dX10_isBased_6 : decode mX10_isBased.2.1 6 = .ok (.iconst 0, 1) := by decide +kernel
theorem dX10_isBased_7 : decode mX10_isBased.2.1 7 = .ok (.istore 4, 2) := by decide +kernel
theorem dX10_isBased_9 : decode mX10_isBased.2.1 9 = .ok (.iload 4, 2) := by decide +kernel
theorem dX10_isBased_11 : decode mX10_isBased.2.1 11 = .ok (.iload_n 3, 1) := by decide +kernel
theorem dX10_isBased_12 : decode mX10_isBased.2.1 12 = .ok (.if_icmp .ge 83, 3) := by decide +kernel
theorem dX10_isBased_15 : decode mX10_isBased.2.1 15 = .ok (.iconst 0, 1) := by decide +kernel
theorem dX10_isBased_16 : decode mX10_isBased.2.1 16 = .ok (.istore 5, 2) := by decide +kernel
theorem dX10_isBased_18 : decode mX10_isBased.2.1 18 = .ok (.iload 5, 2) := by decide +kernel
theorem dX10_isBased_20 : decode mX10_isBased.2.1 20 = .ok (.aload_n 0, 1) := by decide +kernel
theorem dX10_isBased_21 : decode mX10_isBased.2.1 21 = .ok (.getfield 170, 3) := by decide +kernel
theorem dX10_isBased_24 : decode mX10_isBased.2.1 24 = .ok (.if_icmp .ge 39, 3) := by decide +kernel
theorem dX10_isBased_27 : decode mX10_isBased.2.1 27 = .ok (.aload_n 0, 1) := by decide +kernel
theorem dX10_isBased_28 : decode mX10_isBased.2.1 28 = .ok (.getfield 26, 3) := by decide +kernel
theorem dX10_isBased_31 : decode mX10_isBased.2.1 31 = .ok (.iconst 5, 1) := by decide +kernel
theorem dX10_isBased_32 : decode mX10_isBased.2.1 32 = .ok (.iload 4, 2) := by decide +kernel
theorem dX10_isBased_34 : decode mX10_isBased.2.1 34 = .ok (.imul, 1) := by decide +kernel
theorem dX10_isBased_35 : decode mX10_isBased.2.1 35 = .ok (.iload 5, 2) := by decide +kernel
theorem dX10_isBased_37 : decode mX10_isBased.2.1 37 = .ok (.iadd, 1) := by decide +kernel
theorem dX10_isBased_38 : decode mX10_isBased.2.1 38 = .ok (.aload_n 0, 1) := by decide +kernel
theorem dX10_isBased_39 : decode mX10_isBased.2.1 39 = .ok (.iload_n 1, 1) := by decide +kernel
theorem dX10_isBased_40 : decode mX10_isBased.2.1 40 = .ok (.aload_n 0, 1) := by decide +kernel
theorem dX10_isBased_41 : decode mX10_isBased.2.1 41 = .ok (.aload_n 0, 1) := by decide +kernel
theorem dX10_isBased_42 : decode mX10_isBased.2.1 42 = .ok (.getfield 38, 3) := by decide +kernel
theorem dX10_isBased_45 : decode mX10_isBased.2.1 45 = .ok (.iload 5, 2) := by decide +kernel
theorem dX10_isBased_47 : decode mX10_isBased.2.1 47 = .ok (.iaload, 1) := by decide +kernel
theorem dX10_isBased_48 : decode mX10_isBased.2.1 48 = .ok (.iload 4, 2) := by decide +kernel
theorem dX10_isBased_50 : decode mX10_isBased.2.1 50 = .ok (.invokevirtual 139, 3) := by decide +kernel
theorem dX10_isBased_53 : decode mX10_isBased.2.1 53 = .ok (.invokevirtual 112, 3) := by decide +kernel
theorem dX10_isBased_56 : decode mX10_isBased.2.1 56 = .ok (.iastore, 1) := by decide +kernel
theorem dX10_isBased_57 : decode mX10_isBased.2.1 57 = .ok (.iinc 5 1, 3) := by decide +kernel
theorem dX10_isBased_60 : decode mX10_isBased.2.1 60 = .ok (.goto (-42), 3) := by decide +kernel
theorem dX10_isBased_63 : decode mX10_isBased.2.1 63 = .ok (.aload_n 0, 1) := by decide +kernel
theorem dX10_isBased_64 : decode mX10_isBased.2.1 64 = .ok (.getfield 26, 3) := by decide +kernel
theorem dX10_isBased_67 : decode mX10_isBased.2.1 67 = .ok (.iconst 5, 1) := by decide +kernel
theorem dX10_isBased_68 : decode mX10_isBased.2.1 68 = .ok (.iload 4, 2) := by decide +kernel
theorem dX10_isBased_70 : decode mX10_isBased.2.1 70 = .ok (.imul, 1) := by decide +kernel
theorem dX10_isBased_71 : decode mX10_isBased.2.1 71 = .ok (.aload_n 0, 1) := by decide +kernel
theorem dX10_isBased_72 : decode mX10_isBased.2.1 72 = .ok (.getfield 170, 3) := by decide +kernel
theorem dX10_isBased_75 : decode mX10_isBased.2.1 75 = .ok (.iadd, 1) := by decide +kernel
theorem dX10_isBased_76 : decode mX10_isBased.2.1 76 = .ok (.aload_n 0, 1) := by decide +kernel
theorem dX10_isBased_77 : decode mX10_isBased.2.1 77 = .ok (.iload_n 1, 1) := by decide +kernel
theorem dX10_isBased_78 : decode mX10_isBased.2.1 78 = .ok (.aload_n 0, 1) := by decide +kernel
theorem dX10_isBased_79 : decode mX10_isBased.2.1 79 = .ok (.iload_n 2, 1) := by decide +kernel
theorem dX10_isBased_80 : decode mX10_isBased.2.1 80 = .ok (.iload 4, 2) := by decide +kernel
theorem dX10_isBased_82 : decode mX10_isBased.2.1 82 = .ok (.invokevirtual 139, 3) := by decide +kernel
theorem dX10_isBased_85 : decode mX10_isBased.2.1 85 = .ok (.invokevirtual 112, 3) := by decide +kernel
theorem dX10_isBased_88 : decode mX10_isBased.2.1 88 = .ok (.iastore, 1) := by decide +kernel
theorem dX10_isBased_89 : decode mX10_isBased.2.1 89 = .ok (.iinc 4 1, 3) := by decide +kernel
theorem dX10_isBased_92 : decode mX10_isBased.2.1 92 = .ok (.goto (-83), 3) := by decide +kernel
theorem dX10_isBased_95 : decode mX10_isBased.2.1 95 = .ok (.aload_n 0, 1) := by decide +kernel
theorem dX10_isBased_96 : decode mX10_isBased.2.1 96 = .ok (.aload_n 0, 1) := by decide +kernel
theorem dX10_isBased_97 : decode mX10_isBased.2.1 97 = .ok (.getfield 170, 3) := by decide +kernel
theorem dX10_isBased_100 : decode mX10_isBased.2.1 100 = .ok (.iload_n 3, 1) := by decide +kernel
theorem dX10_isBased_101 : decode mX10_isBased.2.1 101 = .ok (.invokevirtual 142, 3) := by decide +kernel
theorem dX10_isBased_104 : decode mX10_isBased.2.1 104 = .ok (.ireturn, 1) := by decide +kernel
theorem dX10_leastMany_0 : decode mX10_leastMany.2.1 0 = .ok (.aload_n 0, 1) := by decide +kernel
theorem dX10_leastMany_1 : decode mX10_leastMany.2.1 1 = .ok (.iconst 0, 1) := by decide +kernel
theorem dX10_leastMany_2 : decode mX10_leastMany.2.1 2 = .ok (.invokevirtual 176, 3) := by decide +kernel
theorem dX10_leastMany_5 : decode mX10_leastMany.2.1 5 = .ok (.aload_n 0, 1) := by decide +kernel
theorem dX10_leastMany_6 : decode mX10_leastMany.2.1 6 = .ok (.getfield 170, 3) := by decide +kernel
theorem dX10_leastMany_9 : decode mX10_leastMany.2.1 9 = .ok (.ireturn, 1) := by decide +kernel
theorem dX10_oneOf_0 : decode mX10_oneOf.2.1 0 = .ok (.iconst 1, 1) := by decide +kernel
theorem dX10_oneOf_1 : decode mX10_oneOf.2.1 1 = .ok (.iload_n 0, 1) := by decide +kernel
theorem dX10_oneOf_2 : decode mX10_oneOf.2.1 2 = .ok (.iadd, 1) := by decide +kernel
theorem dX10_oneOf_3 : decode mX10_oneOf.2.1 3 = .ok (.ireturn, 1) := by decide +kernel
theorem dX10_wordsIn_0 : decode mX10_wordsIn.2.1 0 = .ok (.aload_n 0, 1) := by decide +kernel
theorem dX10_wordsIn_1 : decode mX10_wordsIn.2.1 1 = .ok (.getfield 54, 3) := by decide +kernel
theorem dX10_wordsIn_4 : decode mX10_wordsIn.2.1 4 = .ok (.astore_n 1, 1) := by decide +kernel
theorem dX10_wordsIn_5 : decode mX10_wordsIn.2.1 5 = .ok (.iconst 0, 1) := by decide +kernel
theorem dX10_wordsIn_6 : decode mX10_wordsIn.2.1 6 = .ok (.istore_n 2, 1) := by decide +kernel
theorem dX10_wordsIn_7 : decode mX10_wordsIn.2.1 7 = .ok (.iconst 0, 1) := by decide +kernel
theorem dX10_wordsIn_8 : decode mX10_wordsIn.2.1 8 = .ok (.istore_n 3, 1) := by decide +kernel
theorem dX10_wordsIn_9 : decode mX10_wordsIn.2.1 9 = .ok (.iload_n 3, 1) := by decide +kernel
theorem dX10_wordsIn_10 : decode mX10_wordsIn.2.1 10 = .ok (.aload_n 0, 1) := by decide +kernel
theorem dX10_wordsIn_11 : decode mX10_wordsIn.2.1 11 = .ok (.getfield 126, 3) := by decide +kernel
theorem dX10_wordsIn_14 : decode mX10_wordsIn.2.1 14 = .ok (.if_icmp .ge 143, 3) := by decide +kernel
theorem dX10_wordsIn_17 : decode mX10_wordsIn.2.1 17 = .ok (.iconst (-1), 1) := by decide +kernel
theorem dX10_wordsIn_18 : decode mX10_wordsIn.2.1 18 = .ok (.istore 4, 2) := by decide +kernel
theorem dX10_wordsIn_20 : decode mX10_wordsIn.2.1 20 = .ok (.iload 4, 2) := by decide +kernel
theorem dX10_wordsIn_22 : decode mX10_wordsIn.2.1 22 = .ok (.aload_n 0, 1) := by decide +kernel
theorem dX10_wordsIn_23 : decode mX10_wordsIn.2.1 23 = .ok (.getfield 17, 3) := by decide +kernel
theorem dX10_wordsIn_26 : decode mX10_wordsIn.2.1 26 = .ok (.if_icmp .ge 125, 3) := by decide +kernel
theorem dX10_wordsIn_29 : decode mX10_wordsIn.2.1 29 = .ok (.iload 4, 2) := by decide +kernel
theorem dX10_wordsIn_31 : decode mX10_wordsIn.2.1 31 = .ok (.ifCond .ge 12, 3) := by decide +kernel
theorem dX10_wordsIn_34 : decode mX10_wordsIn.2.1 34 = .ok (.aload_n 0, 1) := by decide +kernel
theorem dX10_wordsIn_35 : decode mX10_wordsIn.2.1 35 = .ok (.getfield 32, 3) := by decide +kernel
theorem dX10_wordsIn_38 : decode mX10_wordsIn.2.1 38 = .ok (.iload_n 3, 1) := by decide +kernel
theorem dX10_wordsIn_39 : decode mX10_wordsIn.2.1 39 = .ok (.iaload, 1) := by decide +kernel
theorem dX10_wordsIn_40 : decode mX10_wordsIn.2.1 40 = .ok (.goto 18, 3) := by decide +kernel
theorem dX10_wordsIn_43 : decode mX10_wordsIn.2.1 43 = .ok (.aload_n 0, 1) := by decide +kernel
theorem dX10_wordsIn_44 : decode mX10_wordsIn.2.1 44 = .ok (.aload_n 0, 1) := by decide +kernel
theorem dX10_wordsIn_45 : decode mX10_wordsIn.2.1 45 = .ok (.getfield 32, 3) := by decide +kernel
theorem dX10_wordsIn_48 : decode mX10_wordsIn.2.1 48 = .ok (.iload_n 3, 1) := by decide +kernel
theorem dX10_wordsIn_49 : decode mX10_wordsIn.2.1 49 = .ok (.iaload, 1) := by decide +kernel
theorem dX10_wordsIn_50 : decode mX10_wordsIn.2.1 50 = .ok (.iload 4, 2) := by decide +kernel
theorem dX10_wordsIn_52 : decode mX10_wordsIn.2.1 52 = .ok (.invokestatic 149, 3) := by decide +kernel
theorem dX10_wordsIn_55 : decode mX10_wordsIn.2.1 55 = .ok (.invokevirtual 139, 3) := by decide +kernel
theorem dX10_wordsIn_58 : decode mX10_wordsIn.2.1 58 = .ok (.istore 5, 2) := by decide +kernel
theorem dX10_wordsIn_60 : decode mX10_wordsIn.2.1 60 = .ok (.iconst 0, 1) := by decide +kernel
theorem dX10_wordsIn_61 : decode mX10_wordsIn.2.1 61 = .ok (.istore 6, 2) := by decide +kernel
theorem dX10_wordsIn_63 : decode mX10_wordsIn.2.1 63 = .ok (.iload 6, 2) := by decide +kernel
theorem dX10_wordsIn_65 : decode mX10_wordsIn.2.1 65 = .ok (.aload_n 0, 1) := by decide +kernel
theorem dX10_wordsIn_66 : decode mX10_wordsIn.2.1 66 = .ok (.getfield 129, 3) := by decide +kernel
theorem dX10_wordsIn_69 : decode mX10_wordsIn.2.1 69 = .ok (.if_icmp .ge 76, 3) := by decide +kernel
theorem dX10_wordsIn_72 : decode mX10_wordsIn.2.1 72 = .ok (.aload_n 0, 1) := by decide +kernel
theorem dX10_wordsIn_73 : decode mX10_wordsIn.2.1 73 = .ok (.iload 5, 2) := by decide +kernel
theorem dX10_wordsIn_75 : decode mX10_wordsIn.2.1 75 = .ok (.aload_n 0, 1) := by decide +kernel
theorem dX10_wordsIn_76 : decode mX10_wordsIn.2.1 76 = .ok (.getfield 35, 3) := by decide +kernel
theorem dX10_wordsIn_79 : decode mX10_wordsIn.2.1 79 = .ok (.iload 6, 2) := by decide +kernel
theorem dX10_wordsIn_81 : decode mX10_wordsIn.2.1 81 = .ok (.iaload, 1) := by decide +kernel
theorem dX10_wordsIn_82 : decode mX10_wordsIn.2.1 82 = .ok (.invokevirtual 139, 3) := by decide +kernel
theorem dX10_wordsIn_85 : decode mX10_wordsIn.2.1 85 = .ok (.istore 7, 2) := by decide +kernel
theorem dX10_wordsIn_87 : decode mX10_wordsIn.2.1 87 = .ok (.iconst 1, 1) := by decide +kernel
theorem dX10_wordsIn_88 : decode mX10_wordsIn.2.1 88 = .ok (.istore 8, 2) := by decide +kernel
theorem dX10_wordsIn_90 : decode mX10_wordsIn.2.1 90 = .ok (.iconst 0, 1) := by decide +kernel
theorem dX10_wordsIn_91 : decode mX10_wordsIn.2.1 91 = .ok (.istore 9, 2) := by decide +kernel
theorem dX10_wordsIn_93 : decode mX10_wordsIn.2.1 93 = .ok (.iload 9, 2) := by decide +kernel
theorem dX10_wordsIn_95 : decode mX10_wordsIn.2.1 95 = .ok (.iload_n 2, 1) := by decide +kernel
theorem dX10_wordsIn_96 : decode mX10_wordsIn.2.1 96 = .ok (.if_icmp .ge 30, 3) := by decide +kernel
theorem dX10_wordsIn_99 : decode mX10_wordsIn.2.1 99 = .ok (.iload 8, 2) := by decide +kernel
theorem dX10_wordsIn_101 : decode mX10_wordsIn.2.1 101 = .ok (.ifCond .eq 25, 3) := by decide +kernel
theorem dX10_wordsIn_104 : decode mX10_wordsIn.2.1 104 = .ok (.aload_n 1, 1) := by decide +kernel
theorem dX10_wordsIn_105 : decode mX10_wordsIn.2.1 105 = .ok (.iload 9, 2) := by decide +kernel
theorem dX10_wordsIn_107 : decode mX10_wordsIn.2.1 107 = .ok (.iaload, 1) := by decide +kernel
theorem dX10_wordsIn_108 : decode mX10_wordsIn.2.1 108 = .ok (.iload 7, 2) := by decide +kernel
theorem dX10_wordsIn_110 : decode mX10_wordsIn.2.1 110 = .ok (.if_icmp .eq 7, 3) := by decide +kernel
theorem dX10_wordsIn_113 : decode mX10_wordsIn.2.1 113 = .ok (.iconst 1, 1) := by decide +kernel
theorem dX10_wordsIn_114 : decode mX10_wordsIn.2.1 114 = .ok (.goto 4, 3) := by decide +kernel
theorem dX10_wordsIn_117 : decode mX10_wordsIn.2.1 117 = .ok (.iconst 0, 1) := by decide +kernel
theorem dX10_wordsIn_118 : decode mX10_wordsIn.2.1 118 = .ok (.istore 8, 2) := by decide +kernel
theorem dX10_wordsIn_120 : decode mX10_wordsIn.2.1 120 = .ok (.iinc 9 1, 3) := by decide +kernel
theorem dX10_wordsIn_123 : decode mX10_wordsIn.2.1 123 = .ok (.goto (-30), 3) := by decide +kernel
theorem dX10_wordsIn_126 : decode mX10_wordsIn.2.1 126 = .ok (.iload 8, 2) := by decide +kernel
theorem dX10_wordsIn_128 : decode mX10_wordsIn.2.1 128 = .ok (.ifCond .eq 11, 3) := by decide +kernel
theorem dX10_wordsIn_131 : decode mX10_wordsIn.2.1 131 = .ok (.aload_n 1, 1) := by decide +kernel
theorem dX10_wordsIn_132 : decode mX10_wordsIn.2.1 132 = .ok (.iload_n 2, 1) := by decide +kernel
theorem dX10_wordsIn_133 : decode mX10_wordsIn.2.1 133 = .ok (.iload 7, 2) := by decide +kernel
theorem dX10_wordsIn_135 : decode mX10_wordsIn.2.1 135 = .ok (.iastore, 1) := by decide +kernel
theorem dX10_wordsIn_136 : decode mX10_wordsIn.2.1 136 = .ok (.iinc 2 1, 3) := by decide +kernel
theorem dX10_wordsIn_139 : decode mX10_wordsIn.2.1 139 = .ok (.iinc 6 1, 3) := by decide +kernel
theorem dX10_wordsIn_142 : decode mX10_wordsIn.2.1 142 = .ok (.goto (-79), 3) := by decide +kernel
theorem dX10_wordsIn_145 : decode mX10_wordsIn.2.1 145 = .ok (.iinc 4 1, 3) := by decide +kernel
theorem dX10_wordsIn_148 : decode mX10_wordsIn.2.1 148 = .ok (.goto (-128), 3) := by decide +kernel
theorem dX10_wordsIn_151 : decode mX10_wordsIn.2.1 151 = .ok (.iinc 3 1, 3) := by decide +kernel
theorem dX10_wordsIn_154 : decode mX10_wordsIn.2.1 154 = .ok (.goto (-145), 3) := by decide +kernel
theorem dX10_wordsIn_157 : decode mX10_wordsIn.2.1 157 = .ok (.iload_n 2, 1) := by decide +kernel
theorem dX10_wordsIn_158 : decode mX10_wordsIn.2.1 158 = .ok (.ireturn, 1) := by decide +kernel
theorem dX10_rule_0 : decode mX10_rule.2.1 0 = .ok (.iload_n 1, 1) := by decide +kernel
theorem dX10_rule_1 : decode mX10_rule.2.1 1 = .ok (.tableswitch 181 0 12 #[67, 72, 77, 83, 101, 106, 111, 116, 121, 136, 141, 146, 176], 67) := by decide +kernel
theorem dX10_rule_68 : decode mX10_rule.2.1 68 = .ok (.aload_n 0, 1) := by decide +kernel
theorem dX10_rule_69 : decode mX10_rule.2.1 69 = .ok (.getfield 13, 3) := by decide +kernel
theorem dX10_rule_72 : decode mX10_rule.2.1 72 = .ok (.ireturn, 1) := by decide +kernel
theorem dX10_rule_73 : decode mX10_rule.2.1 73 = .ok (.aload_n 0, 1) := by decide +kernel
theorem dX10_rule_74 : decode mX10_rule.2.1 74 = .ok (.getfield 17, 3) := by decide +kernel
theorem dX10_rule_77 : decode mX10_rule.2.1 77 = .ok (.ireturn, 1) := by decide +kernel
theorem dX10_rule_78 : decode mX10_rule.2.1 78 = .ok (.aload_n 0, 1) := by decide +kernel
theorem dX10_rule_79 : decode mX10_rule.2.1 79 = .ok (.iconst 0, 1) := by decide +kernel
theorem dX10_rule_80 : decode mX10_rule.2.1 80 = .ok (.invokevirtual 95, 3) := by decide +kernel
theorem dX10_rule_83 : decode mX10_rule.2.1 83 = .ok (.ireturn, 1) := by decide +kernel
theorem dX10_rule_84 : decode mX10_rule.2.1 84 = .ok (.aload_n 0, 1) := by decide +kernel
theorem dX10_rule_85 : decode mX10_rule.2.1 85 = .ok (.getfield 135, 3) := by decide +kernel
theorem dX10_rule_88 : decode mX10_rule.2.1 88 = .ok (.ifCond .eq 11, 3) := by decide +kernel
theorem dX10_rule_91 : decode mX10_rule.2.1 91 = .ok (.aload_n 0, 1) := by decide +kernel
theorem dX10_rule_92 : decode mX10_rule.2.1 92 = .ok (.iconst 1, 1) := by decide +kernel
theorem dX10_rule_93 : decode mX10_rule.2.1 93 = .ok (.invokevirtual 95, 3) := by decide +kernel
theorem dX10_rule_96 : decode mX10_rule.2.1 96 = .ok (.goto 5, 3) := by decide +kernel
theorem dX10_rule_99 : decode mX10_rule.2.1 99 = .ok (.bipush (-4), 2) := by decide +kernel
theorem dX10_rule_101 : decode mX10_rule.2.1 101 = .ok (.ireturn, 1) := by decide +kernel
theorem dX10_rule_102 : decode mX10_rule.2.1 102 = .ok (.aload_n 0, 1) := by decide +kernel
theorem dX10_rule_103 : decode mX10_rule.2.1 103 = .ok (.invokevirtual 276, 3) := by decide +kernel
theorem dX10_rule_106 : decode mX10_rule.2.1 106 = .ok (.ireturn, 1) := by decide +kernel
theorem dX10_rule_107 : decode mX10_rule.2.1 107 = .ok (.aload_n 0, 1) := by decide +kernel
theorem dX10_rule_108 : decode mX10_rule.2.1 108 = .ok (.getfield 126, 3) := by decide +kernel
theorem dX10_rule_111 : decode mX10_rule.2.1 111 = .ok (.ireturn, 1) := by decide +kernel
theorem dX10_rule_112 : decode mX10_rule.2.1 112 = .ok (.aload_n 0, 1) := by decide +kernel
theorem dX10_rule_113 : decode mX10_rule.2.1 113 = .ok (.getfield 129, 3) := by decide +kernel
theorem dX10_rule_116 : decode mX10_rule.2.1 116 = .ok (.ireturn, 1) := by decide +kernel
theorem dX10_rule_117 : decode mX10_rule.2.1 117 = .ok (.aload_n 0, 1) := by decide +kernel
theorem dX10_rule_118 : decode mX10_rule.2.1 118 = .ok (.getfield 132, 3) := by decide +kernel
theorem dX10_rule_121 : decode mX10_rule.2.1 121 = .ok (.ireturn, 1) := by decide +kernel
theorem dX10_rule_122 : decode mX10_rule.2.1 122 = .ok (.aload_n 0, 1) := by decide +kernel
theorem dX10_rule_123 : decode mX10_rule.2.1 123 = .ok (.invokevirtual 152, 3) := by decide +kernel
theorem dX10_rule_126 : decode mX10_rule.2.1 126 = .ok (.bipush (-4), 2) := by decide +kernel
theorem dX10_rule_128 : decode mX10_rule.2.1 128 = .ok (.if_icmp .ne 7, 3) := by decide +kernel
theorem dX10_rule_131 : decode mX10_rule.2.1 131 = .ok (.iconst 1, 1) := by decide +kernel
theorem dX10_rule_132 : decode mX10_rule.2.1 132 = .ok (.goto 4, 3) := by decide +kernel
theorem dX10_rule_135 : decode mX10_rule.2.1 135 = .ok (.iconst 0, 1) := by decide +kernel
theorem dX10_rule_136 : decode mX10_rule.2.1 136 = .ok (.ireturn, 1) := by decide +kernel
theorem dX10_rule_137 : decode mX10_rule.2.1 137 = .ok (.aload_n 0, 1) := by decide +kernel
theorem dX10_rule_138 : decode mX10_rule.2.1 138 = .ok (.invokevirtual 279, 3) := by decide +kernel
theorem dX10_rule_141 : decode mX10_rule.2.1 141 = .ok (.ireturn, 1) := by decide +kernel
theorem dX10_rule_142 : decode mX10_rule.2.1 142 = .ok (.aload_n 0, 1) := by decide +kernel
theorem dX10_rule_143 : decode mX10_rule.2.1 143 = .ok (.getfield 185, 3) := by decide +kernel
theorem dX10_rule_146 : decode mX10_rule.2.1 146 = .ok (.ireturn, 1) := by decide +kernel
theorem dX10_rule_147 : decode mX10_rule.2.1 147 = .ok (.aload_n 0, 1) := by decide +kernel
theorem dX10_rule_148 : decode mX10_rule.2.1 148 = .ok (.getfield 63, 3) := by decide +kernel
theorem dX10_rule_151 : decode mX10_rule.2.1 151 = .ok (.iconst 0, 1) := by decide +kernel
theorem dX10_rule_152 : decode mX10_rule.2.1 152 = .ok (.baload, 1) := by decide +kernel
theorem dX10_rule_153 : decode mX10_rule.2.1 153 = .ok (.ifCond .eq 7, 3) := by decide +kernel
theorem dX10_rule_156 : decode mX10_rule.2.1 156 = .ok (.iconst 1, 1) := by decide +kernel
theorem dX10_rule_157 : decode mX10_rule.2.1 157 = .ok (.goto 4, 3) := by decide +kernel
theorem dX10_rule_160 : decode mX10_rule.2.1 160 = .ok (.iconst 0, 1) := by decide +kernel
theorem dX10_rule_161 : decode mX10_rule.2.1 161 = .ok (.aload_n 0, 1) := by decide +kernel
theorem dX10_rule_162 : decode mX10_rule.2.1 162 = .ok (.getfield 63, 3) := by decide +kernel
theorem dX10_rule_165 : decode mX10_rule.2.1 165 = .ok (.iconst 1, 1) := by decide +kernel
theorem dX10_rule_166 : decode mX10_rule.2.1 166 = .ok (.baload, 1) := by decide +kernel
theorem dX10_rule_167 : decode mX10_rule.2.1 167 = .ok (.ifCond .eq 7, 3) := by decide +kernel
theorem dX10_rule_170 : decode mX10_rule.2.1 170 = .ok (.iconst 1, 1) := by decide +kernel
theorem dX10_rule_171 : decode mX10_rule.2.1 171 = .ok (.goto 4, 3) := by decide +kernel
theorem dX10_rule_174 : decode mX10_rule.2.1 174 = .ok (.iconst 0, 1) := by decide +kernel
theorem dX10_rule_175 : decode mX10_rule.2.1 175 = .ok (.iadd, 1) := by decide +kernel
theorem dX10_rule_176 : decode mX10_rule.2.1 176 = .ok (.ireturn, 1) := by decide +kernel
theorem dX10_rule_177 : decode mX10_rule.2.1 177 = .ok (.aload_n 0, 1) := by decide +kernel
theorem dX10_rule_178 : decode mX10_rule.2.1 178 = .ok (.invokevirtual 282, 3) := by decide +kernel
theorem dX10_rule_181 : decode mX10_rule.2.1 181 = .ok (.ireturn, 1) := by decide +kernel
theorem dX10_rule_182 : decode mX10_rule.2.1 182 = .ok (.iconst (-1), 1) := by decide +kernel
theorem dX10_rule_183 : decode mX10_rule.2.1 183 = .ok (.ireturn, 1) := by decide +kernel
theorem dX10_wrong_0 : decode mX10_wrong.2.1 0 = .ok (.iload_n 1, 1) := by decide +kernel
theorem dX10_wrong_1 : decode mX10_wrong.2.1 1 = .ok (.i2l, 1) := by decide +kernel
theorem dX10_wrong_2 : decode mX10_wrong.2.1 2 = .ok (.lconst 0, 1) := by decide +kernel
theorem dX10_wrong_3 : decode mX10_wrong.2.1 3 = .ok (.ldc2_w 227, 3) := by decide +kernel
theorem dX10_wrong_6 : decode mX10_wrong.2.1 6 = .ok (.invokestatic 181, 3) := by decide +kernel
theorem dX10_wrong_9 : decode mX10_wrong.2.1 9 = .ok (.ifCond .ne 5, 3) := by decide +kernel
theorem dX10_wrong_12 : decode mX10_wrong.2.1 12 = .ok (.iconst (-1), 1) := by decide +kernel
theorem dX10_wrong_13 : decode mX10_wrong.2.1 13 = .ok (.ireturn, 1) := by decide +kernel
theorem dX10_wrong_14 : decode mX10_wrong.2.1 14 = .ok (.iload_n 1, 1) := by decide +kernel
theorem dX10_wrong_15 : decode mX10_wrong.2.1 15 = .ok (.iconst 1, 1) := by decide +kernel
theorem dX10_wrong_16 : decode mX10_wrong.2.1 16 = .ok (.if_icmp .ne 13, 3) := by decide +kernel
theorem dX10_wrong_19 : decode mX10_wrong.2.1 19 = .ok (.aload_n 0, 1) := by decide +kernel
theorem dX10_wrong_20 : decode mX10_wrong.2.1 20 = .ok (.getfield 135, 3) := by decide +kernel
theorem dX10_wrong_23 : decode mX10_wrong.2.1 23 = .ok (.ifCond .ne 6, 3) := by decide +kernel
theorem dX10_wrong_26 : decode mX10_wrong.2.1 26 = .ok (.bipush (-2), 2) := by decide +kernel
theorem dX10_wrong_28 : decode mX10_wrong.2.1 28 = .ok (.ireturn, 1) := by decide +kernel
theorem dX10_wrong_29 : decode mX10_wrong.2.1 29 = .ok (.iload_n 1, 1) := by decide +kernel
theorem dX10_wrong_30 : decode mX10_wrong.2.1 30 = .ok (.iconst 2, 1) := by decide +kernel
theorem dX10_wrong_31 : decode mX10_wrong.2.1 31 = .ok (.if_icmp .ne 7, 3) := by decide +kernel
theorem dX10_wrong_34 : decode mX10_wrong.2.1 34 = .ok (.aload_n 0, 1) := by decide +kernel
theorem dX10_wrong_35 : decode mX10_wrong.2.1 35 = .ok (.invokevirtual 285, 3) := by decide +kernel
theorem dX10_wrong_38 : decode mX10_wrong.2.1 38 = .ok (.iconst 0, 1) := by decide +kernel
theorem dX10_wrong_39 : decode mX10_wrong.2.1 39 = .ok (.ireturn, 1) := by decide +kernel
theorem dX10_start_0 : decode mX10_start.2.1 0 = .ok (.aload_n 0, 1) := by decide +kernel
theorem dX10_start_1 : decode mX10_start.2.1 1 = .ok (.iload_n 1, 1) := by decide +kernel
theorem dX10_start_2 : decode mX10_start.2.1 2 = .ok (.invokevirtual 288, 3) := by decide +kernel
theorem dX10_start_5 : decode mX10_start.2.1 5 = .ok (.istore_n 3, 1) := by decide +kernel
theorem dX10_start_6 : decode mX10_start.2.1 6 = .ok (.iload_n 3, 1) := by decide +kernel
theorem dX10_start_7 : decode mX10_start.2.1 7 = .ok (.ifCond .eq 7, 3) := by decide +kernel
theorem dX10_start_10 : decode mX10_start.2.1 10 = .ok (.iload_n 3, 1) := by decide +kernel
theorem dX10_start_11 : decode mX10_start.2.1 11 = .ok (.goto 29, 3) := by decide +kernel
theorem dX10_start_14 : decode mX10_start.2.1 14 = .ok (.aload_n 0, 1) := by decide +kernel
theorem dX10_start_15 : decode mX10_start.2.1 15 = .ok (.iload_n 1, 1) := by decide +kernel
theorem dX10_start_16 : decode mX10_start.2.1 16 = .ok (.iload_n 2, 1) := by decide +kernel
theorem dX10_start_17 : decode mX10_start.2.1 17 = .ok (.invokevirtual 291, 3) := by decide +kernel
theorem dX10_start_20 : decode mX10_start.2.1 20 = .ok (.ifCond .eq 19, 3) := by decide +kernel
theorem dX10_start_23 : decode mX10_start.2.1 23 = .ok (.aload_n 0, 1) := by decide +kernel
theorem dX10_start_24 : decode mX10_start.2.1 24 = .ok (.getfield 7, 3) := by decide +kernel
theorem dX10_start_27 : decode mX10_start.2.1 27 = .ok (.aload_n 0, 1) := by decide +kernel
theorem dX10_start_28 : decode mX10_start.2.1 28 = .ok (.iload_n 1, 1) := by decide +kernel
theorem dX10_start_29 : decode mX10_start.2.1 29 = .ok (.iconst 1, 1) := by decide +kernel
theorem dX10_start_30 : decode mX10_start.2.1 30 = .ok (.iload_n 2, 1) := by decide +kernel
theorem dX10_start_31 : decode mX10_start.2.1 31 = .ok (.iadd, 1) := by decide +kernel
theorem dX10_start_32 : decode mX10_start.2.1 32 = .ok (.invokevirtual 81, 3) := by decide +kernel
theorem dX10_start_35 : decode mX10_start.2.1 35 = .ok (.iaload, 1) := by decide +kernel
theorem dX10_start_36 : decode mX10_start.2.1 36 = .ok (.goto 4, 3) := by decide +kernel
theorem dX10_start_39 : decode mX10_start.2.1 39 = .ok (.iconst (-1), 1) := by decide +kernel
theorem dX10_start_40 : decode mX10_start.2.1 40 = .ok (.ireturn, 1) := by decide +kernel
theorem dX10_finish_0 : decode mX10_finish.2.1 0 = .ok (.aload_n 0, 1) := by decide +kernel
theorem dX10_finish_1 : decode mX10_finish.2.1 1 = .ok (.iload_n 1, 1) := by decide +kernel
theorem dX10_finish_2 : decode mX10_finish.2.1 2 = .ok (.invokevirtual 288, 3) := by decide +kernel
theorem dX10_finish_5 : decode mX10_finish.2.1 5 = .ok (.istore_n 3, 1) := by decide +kernel
theorem dX10_finish_6 : decode mX10_finish.2.1 6 = .ok (.iload_n 3, 1) := by decide +kernel
theorem dX10_finish_7 : decode mX10_finish.2.1 7 = .ok (.ifCond .eq 7, 3) := by decide +kernel
theorem dX10_finish_10 : decode mX10_finish.2.1 10 = .ok (.iload_n 3, 1) := by decide +kernel
theorem dX10_finish_11 : decode mX10_finish.2.1 11 = .ok (.goto 29, 3) := by decide +kernel
theorem dX10_finish_14 : decode mX10_finish.2.1 14 = .ok (.aload_n 0, 1) := by decide +kernel
theorem dX10_finish_15 : decode mX10_finish.2.1 15 = .ok (.iload_n 1, 1) := by decide +kernel
theorem dX10_finish_16 : decode mX10_finish.2.1 16 = .ok (.iload_n 2, 1) := by decide +kernel
theorem dX10_finish_17 : decode mX10_finish.2.1 17 = .ok (.invokevirtual 291, 3) := by decide +kernel
theorem dX10_finish_20 : decode mX10_finish.2.1 20 = .ok (.ifCond .eq 19, 3) := by decide +kernel
theorem dX10_finish_23 : decode mX10_finish.2.1 23 = .ok (.aload_n 0, 1) := by decide +kernel
theorem dX10_finish_24 : decode mX10_finish.2.1 24 = .ok (.getfield 7, 3) := by decide +kernel
theorem dX10_finish_27 : decode mX10_finish.2.1 27 = .ok (.aload_n 0, 1) := by decide +kernel
theorem dX10_finish_28 : decode mX10_finish.2.1 28 = .ok (.iload_n 1, 1) := by decide +kernel
theorem dX10_finish_29 : decode mX10_finish.2.1 29 = .ok (.iconst 5, 1) := by decide +kernel
theorem dX10_finish_30 : decode mX10_finish.2.1 30 = .ok (.iload_n 2, 1) := by decide +kernel
theorem dX10_finish_31 : decode mX10_finish.2.1 31 = .ok (.iadd, 1) := by decide +kernel
theorem dX10_finish_32 : decode mX10_finish.2.1 32 = .ok (.invokevirtual 81, 3) := by decide +kernel
theorem dX10_finish_35 : decode mX10_finish.2.1 35 = .ok (.iaload, 1) := by decide +kernel
theorem dX10_finish_36 : decode mX10_finish.2.1 36 = .ok (.goto 4, 3) := by decide +kernel
theorem dX10_finish_39 : decode mX10_finish.2.1 39 = .ok (.iconst (-1), 1) := by decide +kernel
theorem dX10_finish_40 : decode mX10_finish.2.1 40 = .ok (.ireturn, 1) := by decide +kernel
theorem dX10_edge_0 : decode mX10_edge.2.1 0 = .ok (.aload_n 0, 1) := by decide +kernel
theorem dX10_edge_1 : decode mX10_edge.2.1 1 = .ok (.iload_n 1, 1) := by decide +kernel
theorem dX10_edge_2 : decode mX10_edge.2.1 2 = .ok (.invokevirtual 288, 3) := by decide +kernel
theorem dX10_edge_5 : decode mX10_edge.2.1 5 = .ok (.istore 5, 2) := by decide +kernel
theorem dX10_edge_7 : decode mX10_edge.2.1 7 = .ok (.iload 5, 2) := by decide +kernel
theorem dX10_edge_9 : decode mX10_edge.2.1 9 = .ok (.ifCond .eq 8, 3) := by decide +kernel
theorem dX10_edge_12 : decode mX10_edge.2.1 12 = .ok (.iload 5, 2) := by decide +kernel
theorem dX10_edge_14 : decode mX10_edge.2.1 14 = .ok (.goto 43, 3) := by decide +kernel
theorem dX10_edge_17 : decode mX10_edge.2.1 17 = .ok (.aload_n 0, 1) := by decide +kernel
theorem dX10_edge_18 : decode mX10_edge.2.1 18 = .ok (.iload_n 1, 1) := by decide +kernel
theorem dX10_edge_19 : decode mX10_edge.2.1 19 = .ok (.iload_n 2, 1) := by decide +kernel
theorem dX10_edge_20 : decode mX10_edge.2.1 20 = .ok (.invokevirtual 291, 3) := by decide +kernel
theorem dX10_edge_23 : decode mX10_edge.2.1 23 = .ok (.ifCond .eq 33, 3) := by decide +kernel
theorem dX10_edge_26 : decode mX10_edge.2.1 26 = .ok (.aload_n 0, 1) := by decide +kernel
theorem dX10_edge_27 : decode mX10_edge.2.1 27 = .ok (.iload_n 3, 1) := by decide +kernel
theorem dX10_edge_28 : decode mX10_edge.2.1 28 = .ok (.invokevirtual 294, 3) := by decide +kernel
theorem dX10_edge_31 : decode mX10_edge.2.1 31 = .ok (.ifCond .eq 25, 3) := by decide +kernel
theorem dX10_edge_34 : decode mX10_edge.2.1 34 = .ok (.aload_n 0, 1) := by decide +kernel
theorem dX10_edge_35 : decode mX10_edge.2.1 35 = .ok (.iload_n 1, 1) := by decide +kernel
theorem dX10_edge_36 : decode mX10_edge.2.1 36 = .ok (.iload 4, 2) := by decide +kernel
theorem dX10_edge_38 : decode mX10_edge.2.1 38 = .ok (.invokevirtual 291, 3) := by decide +kernel
theorem dX10_edge_41 : decode mX10_edge.2.1 41 = .ok (.ifCond .eq 15, 3) := by decide +kernel
theorem dX10_edge_44 : decode mX10_edge.2.1 44 = .ok (.aload_n 0, 1) := by decide +kernel
theorem dX10_edge_45 : decode mX10_edge.2.1 45 = .ok (.iload_n 1, 1) := by decide +kernel
theorem dX10_edge_46 : decode mX10_edge.2.1 46 = .ok (.iload_n 2, 1) := by decide +kernel
theorem dX10_edge_47 : decode mX10_edge.2.1 47 = .ok (.iload_n 3, 1) := by decide +kernel
theorem dX10_edge_48 : decode mX10_edge.2.1 48 = .ok (.iload 4, 2) := by decide +kernel
theorem dX10_edge_50 : decode mX10_edge.2.1 50 = .ok (.invokevirtual 98, 3) := by decide +kernel
theorem dX10_edge_53 : decode mX10_edge.2.1 53 = .ok (.goto 4, 3) := by decide +kernel
theorem dX10_edge_56 : decode mX10_edge.2.1 56 = .ok (.iconst (-1), 1) := by decide +kernel
theorem dX10_edge_57 : decode mX10_edge.2.1 57 = .ok (.ireturn, 1) := by decide +kernel
theorem dX10_letter_0 : decode mX10_letter.2.1 0 = .ok (.aload_n 0, 1) := by decide +kernel
theorem dX10_letter_1 : decode mX10_letter.2.1 1 = .ok (.iload_n 1, 1) := by decide +kernel
theorem dX10_letter_2 : decode mX10_letter.2.1 2 = .ok (.invokevirtual 294, 3) := by decide +kernel
theorem dX10_letter_5 : decode mX10_letter.2.1 5 = .ok (.ifCond .ne 5, 3) := by decide +kernel
theorem dX10_letter_8 : decode mX10_letter.2.1 8 = .ok (.iconst (-1), 1) := by decide +kernel
theorem dX10_letter_9 : decode mX10_letter.2.1 9 = .ok (.ireturn, 1) := by decide +kernel
theorem dX10_letter_10 : decode mX10_letter.2.1 10 = .ok (.aload_n 0, 1) := by decide +kernel
theorem dX10_letter_11 : decode mX10_letter.2.1 11 = .ok (.getfield 267, 3) := by decide +kernel
theorem dX10_letter_14 : decode mX10_letter.2.1 14 = .ok (.bipush 12, 2) := by decide +kernel
theorem dX10_letter_16 : decode mX10_letter.2.1 16 = .ok (.if_icmp .ne 6, 3) := by decide +kernel
theorem dX10_letter_19 : decode mX10_letter.2.1 19 = .ok (.bipush (-3), 2) := by decide +kernel
theorem dX10_letter_21 : decode mX10_letter.2.1 21 = .ok (.ireturn, 1) := by decide +kernel
theorem dX10_letter_22 : decode mX10_letter.2.1 22 = .ok (.aload_n 0, 1) := by decide +kernel
theorem dX10_letter_23 : decode mX10_letter.2.1 23 = .ok (.getfield 57, 3) := by decide +kernel
theorem dX10_letter_26 : decode mX10_letter.2.1 26 = .ok (.aload_n 0, 1) := by decide +kernel
theorem dX10_letter_27 : decode mX10_letter.2.1 27 = .ok (.getfield 267, 3) := by decide +kernel
theorem dX10_letter_30 : decode mX10_letter.2.1 30 = .ok (.iload_n 1, 1) := by decide +kernel
theorem dX10_letter_31 : decode mX10_letter.2.1 31 = .ok (.iastore, 1) := by decide +kernel
theorem dX10_letter_32 : decode mX10_letter.2.1 32 = .ok (.aload_n 0, 1) := by decide +kernel
theorem dX10_letter_33 : decode mX10_letter.2.1 33 = .ok (.dup, 1) := by decide +kernel
theorem dX10_letter_34 : decode mX10_letter.2.1 34 = .ok (.getfield 267, 3) := by decide +kernel
theorem dX10_letter_37 : decode mX10_letter.2.1 37 = .ok (.iconst 1, 1) := by decide +kernel
theorem dX10_letter_38 : decode mX10_letter.2.1 38 = .ok (.iadd, 1) := by decide +kernel
theorem dX10_letter_39 : decode mX10_letter.2.1 39 = .ok (.putfield 267, 3) := by decide +kernel
theorem dX10_letter_42 : decode mX10_letter.2.1 42 = .ok (.aload_n 0, 1) := by decide +kernel
theorem dX10_letter_43 : decode mX10_letter.2.1 43 = .ok (.getfield 267, 3) := by decide +kernel
theorem dX10_letter_46 : decode mX10_letter.2.1 46 = .ok (.ireturn, 1) := by decide +kernel
theorem dX10_wipe_0 : decode mX10_wipe.2.1 0 = .ok (.aload_n 0, 1) := by decide +kernel
theorem dX10_wipe_1 : decode mX10_wipe.2.1 1 = .ok (.getfield 267, 3) := by decide +kernel
theorem dX10_wipe_4 : decode mX10_wipe.2.1 4 = .ok (.istore_n 1, 1) := by decide +kernel
theorem dX10_wipe_5 : decode mX10_wipe.2.1 5 = .ok (.aload_n 0, 1) := by decide +kernel
theorem dX10_wipe_6 : decode mX10_wipe.2.1 6 = .ok (.iconst 0, 1) := by decide +kernel
theorem dX10_wipe_7 : decode mX10_wipe.2.1 7 = .ok (.putfield 267, 3) := by decide +kernel
theorem dX10_wipe_10 : decode mX10_wipe.2.1 10 = .ok (.iload_n 1, 1) := by decide +kernel
theorem dX10_wipe_11 : decode mX10_wipe.2.1 11 = .ok (.ireturn, 1) := by decide +kernel
theorem dX10_stepsBack_0 : decode mX10_stepsBack.2.1 0 = .ok (.aload_n 0, 1) := by decide +kernel
theorem dX10_stepsBack_1 : decode mX10_stepsBack.2.1 1 = .ok (.iload_n 1, 1) := by decide +kernel
theorem dX10_stepsBack_2 : decode mX10_stepsBack.2.1 2 = .ok (.invokevirtual 95, 3) := by decide +kernel
theorem dX10_stepsBack_5 : decode mX10_stepsBack.2.1 5 = .ok (.istore_n 3, 1) := by decide +kernel
theorem dX10_stepsBack_6 : decode mX10_stepsBack.2.1 6 = .ok (.iconst 0, 1) := by decide +kernel
theorem dX10_stepsBack_7 : decode mX10_stepsBack.2.1 7 = .ok (.istore 4, 2) := by decide +kernel
theorem dX10_stepsBack_9 : decode mX10_stepsBack.2.1 9 = .ok (.iload 4, 2) := by decide +kernel
theorem dX10_stepsBack_11 : decode mX10_stepsBack.2.1 11 = .ok (.iload_n 3, 1) := by decide +kernel
theorem dX10_stepsBack_12 : decode mX10_stepsBack.2.1 12 = .ok (.if_icmp .ge 64, 3) := by decide +kernel
theorem dX10_stepsBack_15 : decode mX10_stepsBack.2.1 15 = .ok (.iconst 0, 1) := by decide +kernel
theorem dX10_stepsBack_16 : decode mX10_stepsBack.2.1 16 = .ok (.istore 5, 2) := by decide +kernel
theorem dX10_stepsBack_18 : decode mX10_stepsBack.2.1 18 = .ok (.iconst 0, 1) := by decide +kernel
theorem dX10_stepsBack_19 : decode mX10_stepsBack.2.1 19 = .ok (.istore 6, 2) := by decide +kernel
theorem dX10_stepsBack_21 : decode mX10_stepsBack.2.1 21 = .ok (.iload 6, 2) := by decide +kernel
theorem dX10_stepsBack_23 : decode mX10_stepsBack.2.1 23 = .ok (.iload_n 3, 1) := by decide +kernel
theorem dX10_stepsBack_24 : decode mX10_stepsBack.2.1 24 = .ok (.if_icmp .ge 32, 3) := by decide +kernel
theorem dX10_stepsBack_27 : decode mX10_stepsBack.2.1 27 = .ok (.iload 5, 2) := by decide +kernel
theorem dX10_stepsBack_29 : decode mX10_stepsBack.2.1 29 = .ok (.aload_n 0, 1) := by decide +kernel
theorem dX10_stepsBack_30 : decode mX10_stepsBack.2.1 30 = .ok (.iload_n 1, 1) := by decide +kernel
theorem dX10_stepsBack_31 : decode mX10_stepsBack.2.1 31 = .ok (.iload 4, 2) := by decide +kernel
theorem dX10_stepsBack_33 : decode mX10_stepsBack.2.1 33 = .ok (.iload_n 2, 1) := by decide +kernel
theorem dX10_stepsBack_34 : decode mX10_stepsBack.2.1 34 = .ok (.iload 6, 2) := by decide +kernel
theorem dX10_stepsBack_36 : decode mX10_stepsBack.2.1 36 = .ok (.invokevirtual 98, 3) := by decide +kernel
theorem dX10_stepsBack_39 : decode mX10_stepsBack.2.1 39 = .ok (.aload_n 0, 1) := by decide +kernel
theorem dX10_stepsBack_40 : decode mX10_stepsBack.2.1 40 = .ok (.getfield 20, 3) := by decide +kernel
theorem dX10_stepsBack_43 : decode mX10_stepsBack.2.1 43 = .ok (.iload 6, 2) := by decide +kernel
theorem dX10_stepsBack_45 : decode mX10_stepsBack.2.1 45 = .ok (.iaload, 1) := by decide +kernel
theorem dX10_stepsBack_46 : decode mX10_stepsBack.2.1 46 = .ok (.imul, 1) := by decide +kernel
theorem dX10_stepsBack_47 : decode mX10_stepsBack.2.1 47 = .ok (.iadd, 1) := by decide +kernel
theorem dX10_stepsBack_48 : decode mX10_stepsBack.2.1 48 = .ok (.istore 5, 2) := by decide +kernel
theorem dX10_stepsBack_50 : decode mX10_stepsBack.2.1 50 = .ok (.iinc 6 1, 3) := by decide +kernel
theorem dX10_stepsBack_53 : decode mX10_stepsBack.2.1 53 = .ok (.goto (-32), 3) := by decide +kernel
theorem dX10_stepsBack_56 : decode mX10_stepsBack.2.1 56 = .ok (.aload_n 0, 1) := by decide +kernel
theorem dX10_stepsBack_57 : decode mX10_stepsBack.2.1 57 = .ok (.getfield 23, 3) := by decide +kernel
theorem dX10_stepsBack_60 : decode mX10_stepsBack.2.1 60 = .ok (.iload 4, 2) := by decide +kernel
theorem dX10_stepsBack_62 : decode mX10_stepsBack.2.1 62 = .ok (.iload 5, 2) := by decide +kernel
theorem dX10_stepsBack_64 : decode mX10_stepsBack.2.1 64 = .ok (.aload_n 0, 1) := by decide +kernel
theorem dX10_stepsBack_65 : decode mX10_stepsBack.2.1 65 = .ok (.getfield 13, 3) := by decide +kernel
theorem dX10_stepsBack_68 : decode mX10_stepsBack.2.1 68 = .ok (.irem, 1) := by decide +kernel
theorem dX10_stepsBack_69 : decode mX10_stepsBack.2.1 69 = .ok (.iastore, 1) := by decide +kernel
theorem dX10_stepsBack_70 : decode mX10_stepsBack.2.1 70 = .ok (.iinc 4 1, 3) := by decide +kernel
theorem dX10_stepsBack_73 : decode mX10_stepsBack.2.1 73 = .ok (.goto (-64), 3) := by decide +kernel
theorem dX10_stepsBack_76 : decode mX10_stepsBack.2.1 76 = .ok (.iconst 0, 1) := by decide +kernel
theorem dX10_stepsBack_77 : decode mX10_stepsBack.2.1 77 = .ok (.istore 4, 2) := by decide +kernel
theorem dX10_stepsBack_79 : decode mX10_stepsBack.2.1 79 = .ok (.iload 4, 2) := by decide +kernel
theorem dX10_stepsBack_81 : decode mX10_stepsBack.2.1 81 = .ok (.iload_n 3, 1) := by decide +kernel
theorem dX10_stepsBack_82 : decode mX10_stepsBack.2.1 82 = .ok (.if_icmp .ge 23, 3) := by decide +kernel
theorem dX10_stepsBack_85 : decode mX10_stepsBack.2.1 85 = .ok (.aload_n 0, 1) := by decide +kernel
theorem dX10_stepsBack_86 : decode mX10_stepsBack.2.1 86 = .ok (.getfield 20, 3) := by decide +kernel
theorem dX10_stepsBack_89 : decode mX10_stepsBack.2.1 89 = .ok (.iload 4, 2) := by decide +kernel
theorem dX10_stepsBack_91 : decode mX10_stepsBack.2.1 91 = .ok (.aload_n 0, 1) := by decide +kernel
theorem dX10_stepsBack_92 : decode mX10_stepsBack.2.1 92 = .ok (.getfield 23, 3) := by decide +kernel
theorem dX10_stepsBack_95 : decode mX10_stepsBack.2.1 95 = .ok (.iload 4, 2) := by decide +kernel
theorem dX10_stepsBack_97 : decode mX10_stepsBack.2.1 97 = .ok (.iaload, 1) := by decide +kernel
theorem dX10_stepsBack_98 : decode mX10_stepsBack.2.1 98 = .ok (.iastore, 1) := by decide +kernel
theorem dX10_stepsBack_99 : decode mX10_stepsBack.2.1 99 = .ok (.iinc 4 1, 3) := by decide +kernel
theorem dX10_stepsBack_102 : decode mX10_stepsBack.2.1 102 = .ok (.goto (-23), 3) := by decide +kernel
theorem dX10_stepsBack_105 : decode mX10_stepsBack.2.1 105 = .ok (.return_, 1) := by decide +kernel
theorem dX10_leadOf_0 : decode mX10_leadOf.2.1 0 = .ok (.iconst 0, 1) := by decide +kernel
theorem dX10_leadOf_1 : decode mX10_leadOf.2.1 1 = .ok (.istore_n 3, 1) := by decide +kernel
theorem dX10_leadOf_2 : decode mX10_leadOf.2.1 2 = .ok (.iload_n 3, 1) := by decide +kernel
theorem dX10_leadOf_3 : decode mX10_leadOf.2.1 3 = .ok (.iload_n 2, 1) := by decide +kernel
theorem dX10_leadOf_4 : decode mX10_leadOf.2.1 4 = .ok (.iconst 1, 1) := by decide +kernel
theorem dX10_leadOf_5 : decode mX10_leadOf.2.1 5 = .ok (.isub, 1) := by decide +kernel
theorem dX10_leadOf_6 : decode mX10_leadOf.2.1 6 = .ok (.if_icmp .ge 22, 3) := by decide +kernel
theorem dX10_leadOf_9 : decode mX10_leadOf.2.1 9 = .ok (.aload_n 0, 1) := by decide +kernel
theorem dX10_leadOf_10 : decode mX10_leadOf.2.1 10 = .ok (.getfield 60, 3) := by decide +kernel
theorem dX10_leadOf_13 : decode mX10_leadOf.2.1 13 = .ok (.iconst 4, 1) := by decide +kernel
theorem dX10_leadOf_14 : decode mX10_leadOf.2.1 14 = .ok (.iload_n 1, 1) := by decide +kernel
theorem dX10_leadOf_15 : decode mX10_leadOf.2.1 15 = .ok (.imul, 1) := by decide +kernel
theorem dX10_leadOf_16 : decode mX10_leadOf.2.1 16 = .ok (.iload_n 3, 1) := by decide +kernel
theorem dX10_leadOf_17 : decode mX10_leadOf.2.1 17 = .ok (.iadd, 1) := by decide +kernel
theorem dX10_leadOf_18 : decode mX10_leadOf.2.1 18 = .ok (.iaload, 1) := by decide +kernel
theorem dX10_leadOf_19 : decode mX10_leadOf.2.1 19 = .ok (.ifCond .ne 9, 3) := by decide +kernel
theorem dX10_leadOf_22 : decode mX10_leadOf.2.1 22 = .ok (.iinc 3 1, 3) := by decide +kernel
theorem dX10_leadOf_25 : decode mX10_leadOf.2.1 25 = .ok (.goto (-23), 3) := by decide +kernel
theorem dX10_leadOf_28 : decode mX10_leadOf.2.1 28 = .ok (.iload_n 3, 1) := by decide +kernel
theorem dX10_leadOf_29 : decode mX10_leadOf.2.1 29 = .ok (.ireturn, 1) := by decide +kernel
theorem dX10_dimension_0 : decode mX10_dimension.2.1 0 = .ok (.aload_n 0, 1) := by decide +kernel
theorem dX10_dimension_1 : decode mX10_dimension.2.1 1 = .ok (.iconst 0, 1) := by decide +kernel
theorem dX10_dimension_2 : decode mX10_dimension.2.1 2 = .ok (.putfield 297, 3) := by decide +kernel
theorem dX10_dimension_5 : decode mX10_dimension.2.1 5 = .ok (.iconst 0, 1) := by decide +kernel
theorem dX10_dimension_6 : decode mX10_dimension.2.1 6 = .ok (.istore_n 3, 1) := by decide +kernel
theorem dX10_dimension_7 : decode mX10_dimension.2.1 7 = .ok (.iload_n 3, 1) := by decide +kernel
theorem dX10_dimension_8 : decode mX10_dimension.2.1 8 = .ok (.aload_n 0, 1) := by decide +kernel
theorem dX10_dimension_9 : decode mX10_dimension.2.1 9 = .ok (.iconst 4, 1) := by decide +kernel
theorem dX10_dimension_10 : decode mX10_dimension.2.1 10 = .ok (.invokevirtual 89, 3) := by decide +kernel
theorem dX10_dimension_13 : decode mX10_dimension.2.1 13 = .ok (.if_icmp .ge 37, 3) := by decide +kernel
theorem dX10_dimension_16 : decode mX10_dimension.2.1 16 = .ok (.iload_n 2, 1) := by decide +kernel
theorem dX10_dimension_17 : decode mX10_dimension.2.1 17 = .ok (.ifCond .eq 12, 3) := by decide +kernel
theorem dX10_dimension_20 : decode mX10_dimension.2.1 20 = .ok (.aload_n 0, 1) := by decide +kernel
theorem dX10_dimension_21 : decode mX10_dimension.2.1 21 = .ok (.iload_n 1, 1) := by decide +kernel
theorem dX10_dimension_22 : decode mX10_dimension.2.1 22 = .ok (.iload_n 3, 1) := by decide +kernel
theorem dX10_dimension_23 : decode mX10_dimension.2.1 23 = .ok (.invokevirtual 106, 3) := by decide +kernel
theorem dX10_dimension_26 : decode mX10_dimension.2.1 26 = .ok (.goto 9, 3) := by decide +kernel
theorem dX10_dimension_29 : decode mX10_dimension.2.1 29 = .ok (.aload_n 0, 1) := by decide +kernel
theorem dX10_dimension_30 : decode mX10_dimension.2.1 30 = .ok (.iload_n 1, 1) := by decide +kernel
theorem dX10_dimension_31 : decode mX10_dimension.2.1 31 = .ok (.iload_n 3, 1) := by decide +kernel
theorem dX10_dimension_32 : decode mX10_dimension.2.1 32 = .ok (.invokevirtual 306, 3) := by decide +kernel
theorem dX10_dimension_35 : decode mX10_dimension.2.1 35 = .ok (.aload_n 0, 1) := by decide +kernel
theorem dX10_dimension_36 : decode mX10_dimension.2.1 36 = .ok (.aload_n 0, 1) := by decide +kernel
theorem dX10_dimension_37 : decode mX10_dimension.2.1 37 = .ok (.iload_n 1, 1) := by decide +kernel
theorem dX10_dimension_38 : decode mX10_dimension.2.1 38 = .ok (.invokevirtual 95, 3) := by decide +kernel
theorem dX10_dimension_41 : decode mX10_dimension.2.1 41 = .ok (.invokevirtual 309, 3) := by decide +kernel
theorem dX10_dimension_44 : decode mX10_dimension.2.1 44 = .ok (.iinc 3 1, 3) := by decide +kernel
theorem dX10_dimension_47 : decode mX10_dimension.2.1 47 = .ok (.goto (-40), 3) := by decide +kernel
theorem dX10_dimension_50 : decode mX10_dimension.2.1 50 = .ok (.aload_n 0, 1) := by decide +kernel
theorem dX10_dimension_51 : decode mX10_dimension.2.1 51 = .ok (.getfield 297, 3) := by decide +kernel
theorem dX10_dimension_54 : decode mX10_dimension.2.1 54 = .ok (.ireturn, 1) := by decide +kernel
theorem dX10_summed_0 : decode mX10_summed.2.1 0 = .ok (.iconst 0, 1) := by decide +kernel
theorem dX10_summed_1 : decode mX10_summed.2.1 1 = .ok (.istore 4, 2) := by decide +kernel
theorem dX10_summed_3 : decode mX10_summed.2.1 3 = .ok (.aload_n 0, 1) := by decide +kernel
theorem dX10_summed_4 : decode mX10_summed.2.1 4 = .ok (.iload_n 2, 1) := by decide +kernel
theorem dX10_summed_5 : decode mX10_summed.2.1 5 = .ok (.invokevirtual 89, 3) := by decide +kernel
theorem dX10_summed_8 : decode mX10_summed.2.1 8 = .ok (.istore 5, 2) := by decide +kernel
theorem dX10_summed_10 : decode mX10_summed.2.1 10 = .ok (.iload 5, 2) := by decide +kernel
theorem dX10_summed_12 : decode mX10_summed.2.1 12 = .ok (.aload_n 0, 1) := by decide +kernel
theorem dX10_summed_13 : decode mX10_summed.2.1 13 = .ok (.iload_n 2, 1) := by decide +kernel
theorem dX10_summed_14 : decode mX10_summed.2.1 14 = .ok (.iconst 1, 1) := by decide +kernel
theorem dX10_summed_15 : decode mX10_summed.2.1 15 = .ok (.iadd, 1) := by decide +kernel
theorem dX10_summed_16 : decode mX10_summed.2.1 16 = .ok (.invokevirtual 89, 3) := by decide +kernel
theorem dX10_summed_19 : decode mX10_summed.2.1 19 = .ok (.if_icmp .ge 42, 3) := by decide +kernel
theorem dX10_summed_22 : decode mX10_summed.2.1 22 = .ok (.aload_n 0, 1) := by decide +kernel
theorem dX10_summed_23 : decode mX10_summed.2.1 23 = .ok (.iload_n 1, 1) := by decide +kernel
theorem dX10_summed_24 : decode mX10_summed.2.1 24 = .ok (.iload 5, 2) := by decide +kernel
theorem dX10_summed_26 : decode mX10_summed.2.1 26 = .ok (.invokevirtual 112, 3) := by decide +kernel
theorem dX10_summed_29 : decode mX10_summed.2.1 29 = .ok (.istore 6, 2) := by decide +kernel
theorem dX10_summed_31 : decode mX10_summed.2.1 31 = .ok (.iload 4, 2) := by decide +kernel
theorem dX10_summed_33 : decode mX10_summed.2.1 33 = .ok (.iload_n 3, 1) := by decide +kernel
theorem dX10_summed_34 : decode mX10_summed.2.1 34 = .ok (.ifCond .eq 16, 3) := by decide +kernel
theorem dX10_summed_37 : decode mX10_summed.2.1 37 = .ok (.iload 6, 2) := by decide +kernel
theorem dX10_summed_39 : decode mX10_summed.2.1 39 = .ok (.ifCond .ne 7, 3) := by decide +kernel
theorem dX10_summed_42 : decode mX10_summed.2.1 42 = .ok (.iconst 1, 1) := by decide +kernel
theorem dX10_summed_43 : decode mX10_summed.2.1 43 = .ok (.goto 9, 3) := by decide +kernel
theorem dX10_summed_46 : decode mX10_summed.2.1 46 = .ok (.iconst 0, 1) := by decide +kernel
theorem dX10_summed_47 : decode mX10_summed.2.1 47 = .ok (.goto 5, 3) := by decide +kernel
theorem dX10_summed_50 : decode mX10_summed.2.1 50 = .ok (.iload 6, 2) := by decide +kernel
theorem dX10_summed_52 : decode mX10_summed.2.1 52 = .ok (.iadd, 1) := by decide +kernel
theorem dX10_summed_53 : decode mX10_summed.2.1 53 = .ok (.istore 4, 2) := by decide +kernel
theorem dX10_summed_55 : decode mX10_summed.2.1 55 = .ok (.iinc 5 1, 3) := by decide +kernel
theorem dX10_summed_58 : decode mX10_summed.2.1 58 = .ok (.goto (-48), 3) := by decide +kernel
theorem dX10_summed_61 : decode mX10_summed.2.1 61 = .ok (.iload 4, 2) := by decide +kernel
theorem dX10_summed_63 : decode mX10_summed.2.1 63 = .ok (.ireturn, 1) := by decide +kernel
theorem dX10_isRow_0 : decode mX10_isRow.2.1 0 = .ok (.iload_n 1, 1) := by decide +kernel
theorem dX10_isRow_1 : decode mX10_isRow.2.1 1 = .ok (.i2l, 1) := by decide +kernel
theorem dX10_isRow_2 : decode mX10_isRow.2.1 2 = .ok (.lconst 0, 1) := by decide +kernel
theorem dX10_isRow_3 : decode mX10_isRow.2.1 3 = .ok (.aload_n 0, 1) := by decide +kernel
theorem dX10_isRow_4 : decode mX10_isRow.2.1 4 = .ok (.getfield 126, 3) := by decide +kernel
theorem dX10_isRow_7 : decode mX10_isRow.2.1 7 = .ok (.aload_n 0, 1) := by decide +kernel
theorem dX10_isRow_8 : decode mX10_isRow.2.1 8 = .ok (.getfield 17, 3) := by decide +kernel
theorem dX10_isRow_11 : decode mX10_isRow.2.1 11 = .ok (.iconst 1, 1) := by decide +kernel
theorem dX10_isRow_12 : decode mX10_isRow.2.1 12 = .ok (.iadd, 1) := by decide +kernel
theorem dX10_isRow_13 : decode mX10_isRow.2.1 13 = .ok (.imul, 1) := by decide +kernel
theorem dX10_isRow_14 : decode mX10_isRow.2.1 14 = .ok (.iconst 1, 1) := by decide +kernel
theorem dX10_isRow_15 : decode mX10_isRow.2.1 15 = .ok (.isub, 1) := by decide +kernel
theorem dX10_isRow_16 : decode mX10_isRow.2.1 16 = .ok (.i2l, 1) := by decide +kernel
theorem dX10_isRow_17 : decode mX10_isRow.2.1 17 = .ok (.invokestatic 181, 3) := by decide +kernel
theorem dX10_isRow_20 : decode mX10_isRow.2.1 20 = .ok (.ireturn, 1) := by decide +kernel
theorem dX10_cell_0 : decode mX10_cell.2.1 0 = .ok (.aload_n 0, 1) := by decide +kernel
theorem dX10_cell_1 : decode mX10_cell.2.1 1 = .ok (.iload_n 1, 1) := by decide +kernel
theorem dX10_cell_2 : decode mX10_cell.2.1 2 = .ok (.invokevirtual 333, 3) := by decide +kernel
theorem dX10_cell_5 : decode mX10_cell.2.1 5 = .ok (.ifCond .eq 42, 3) := by decide +kernel
theorem dX10_cell_8 : decode mX10_cell.2.1 8 = .ok (.iload_n 2, 1) := by decide +kernel
theorem dX10_cell_9 : decode mX10_cell.2.1 9 = .ok (.i2l, 1) := by decide +kernel
theorem dX10_cell_10 : decode mX10_cell.2.1 10 = .ok (.lconst 0, 1) := by decide +kernel
theorem dX10_cell_11 : decode mX10_cell.2.1 11 = .ok (.aload_n 0, 1) := by decide +kernel
theorem dX10_cell_12 : decode mX10_cell.2.1 12 = .ok (.getfield 129, 3) := by decide +kernel
theorem dX10_cell_15 : decode mX10_cell.2.1 15 = .ok (.iconst 1, 1) := by decide +kernel
theorem dX10_cell_16 : decode mX10_cell.2.1 16 = .ok (.isub, 1) := by decide +kernel
theorem dX10_cell_17 : decode mX10_cell.2.1 17 = .ok (.i2l, 1) := by decide +kernel
theorem dX10_cell_18 : decode mX10_cell.2.1 18 = .ok (.invokestatic 181, 3) := by decide +kernel
theorem dX10_cell_21 : decode mX10_cell.2.1 21 = .ok (.ifCond .eq 26, 3) := by decide +kernel
theorem dX10_cell_24 : decode mX10_cell.2.1 24 = .ok (.aload_n 0, 1) := by decide +kernel
theorem dX10_cell_25 : decode mX10_cell.2.1 25 = .ok (.iconst 0, 1) := by decide +kernel
theorem dX10_cell_26 : decode mX10_cell.2.1 26 = .ok (.aload_n 0, 1) := by decide +kernel
theorem dX10_cell_27 : decode mX10_cell.2.1 27 = .ok (.aload_n 0, 1) := by decide +kernel
theorem dX10_cell_28 : decode mX10_cell.2.1 28 = .ok (.iload_n 1, 1) := by decide +kernel
theorem dX10_cell_29 : decode mX10_cell.2.1 29 = .ok (.invokevirtual 336, 3) := by decide +kernel
theorem dX10_cell_32 : decode mX10_cell.2.1 32 = .ok (.aload_n 0, 1) := by decide +kernel
theorem dX10_cell_33 : decode mX10_cell.2.1 33 = .ok (.getfield 35, 3) := by decide +kernel
theorem dX10_cell_36 : decode mX10_cell.2.1 36 = .ok (.iload_n 2, 1) := by decide +kernel
theorem dX10_cell_37 : decode mX10_cell.2.1 37 = .ok (.iaload, 1) := by decide +kernel
theorem dX10_cell_38 : decode mX10_cell.2.1 38 = .ok (.invokevirtual 139, 3) := by decide +kernel
theorem dX10_cell_41 : decode mX10_cell.2.1 41 = .ok (.invokevirtual 112, 3) := by decide +kernel
theorem dX10_cell_44 : decode mX10_cell.2.1 44 = .ok (.goto 4, 3) := by decide +kernel
theorem dX10_cell_47 : decode mX10_cell.2.1 47 = .ok (.iconst (-1), 1) := by decide +kernel
theorem dX10_cell_48 : decode mX10_cell.2.1 48 = .ok (.ireturn, 1) := by decide +kernel
theorem dX10_closes_0 : decode mX10_closes.2.1 0 = .ok (.iconst 0, 1) := by decide +kernel
theorem dX10_closes_1 : decode mX10_closes.2.1 1 = .ok (.istore_n 1, 1) := by decide +kernel
theorem dX10_closes_2 : decode mX10_closes.2.1 2 = .ok (.aload_n 0, 1) := by decide +kernel
theorem dX10_closes_3 : decode mX10_closes.2.1 3 = .ok (.invokevirtual 152, 3) := by decide +kernel
theorem dX10_closes_6 : decode mX10_closes.2.1 6 = .ok (.istore_n 2, 1) := by decide +kernel
theorem dX10_closes_7 : decode mX10_closes.2.1 7 = .ok (.iload_n 2, 1) := by decide +kernel
theorem dX10_closes_8 : decode mX10_closes.2.1 8 = .ok (.bipush (-4), 2) := by decide +kernel
theorem dX10_closes_10 : decode mX10_closes.2.1 10 = .ok (.if_icmp .eq 34, 3) := by decide +kernel
theorem dX10_closes_13 : decode mX10_closes.2.1 13 = .ok (.aload_n 0, 1) := by decide +kernel
theorem dX10_closes_14 : decode mX10_closes.2.1 14 = .ok (.getfield 32, 3) := by decide +kernel
theorem dX10_closes_17 : decode mX10_closes.2.1 17 = .ok (.aload_n 0, 1) := by decide +kernel
theorem dX10_closes_18 : decode mX10_closes.2.1 18 = .ok (.getfield 126, 3) := by decide +kernel
theorem dX10_closes_21 : decode mX10_closes.2.1 21 = .ok (.iload_n 2, 1) := by decide +kernel
theorem dX10_closes_22 : decode mX10_closes.2.1 22 = .ok (.iastore, 1) := by decide +kernel
theorem dX10_closes_23 : decode mX10_closes.2.1 23 = .ok (.aload_n 0, 1) := by decide +kernel
theorem dX10_closes_24 : decode mX10_closes.2.1 24 = .ok (.dup, 1) := by decide +kernel
theorem dX10_closes_25 : decode mX10_closes.2.1 25 = .ok (.getfield 126, 3) := by decide +kernel
theorem dX10_closes_28 : decode mX10_closes.2.1 28 = .ok (.iconst 1, 1) := by decide +kernel
theorem dX10_closes_29 : decode mX10_closes.2.1 29 = .ok (.iadd, 1) := by decide +kernel
theorem dX10_closes_30 : decode mX10_closes.2.1 30 = .ok (.putfield 126, 3) := by decide +kernel
theorem dX10_closes_33 : decode mX10_closes.2.1 33 = .ok (.iinc 1 1, 3) := by decide +kernel
theorem dX10_closes_36 : decode mX10_closes.2.1 36 = .ok (.aload_n 0, 1) := by decide +kernel
theorem dX10_closes_37 : decode mX10_closes.2.1 37 = .ok (.invokevirtual 152, 3) := by decide +kernel
theorem dX10_closes_40 : decode mX10_closes.2.1 40 = .ok (.istore_n 2, 1) := by decide +kernel
theorem dX10_closes_41 : decode mX10_closes.2.1 41 = .ok (.goto (-34), 3) := by decide +kernel
theorem dX10_closes_44 : decode mX10_closes.2.1 44 = .ok (.iload_n 1, 1) := by decide +kernel
theorem dX10_closes_45 : decode mX10_closes.2.1 45 = .ok (.ireturn, 1) := by decide +kernel
theorem dX10_guesses_0 : decode mX10_guesses.2.1 0 = .ok (.aload_n 0, 1) := by decide +kernel
theorem dX10_guesses_1 : decode mX10_guesses.2.1 1 = .ok (.iconst 1, 1) := by decide +kernel
theorem dX10_guesses_2 : decode mX10_guesses.2.1 2 = .ok (.invokevirtual 156, 3) := by decide +kernel
theorem dX10_guesses_5 : decode mX10_guesses.2.1 5 = .ok (.aload_n 0, 1) := by decide +kernel
theorem dX10_guesses_6 : decode mX10_guesses.2.1 6 = .ok (.getfield 7, 3) := by decide +kernel
theorem dX10_guesses_9 : decode mX10_guesses.2.1 9 = .ok (.aload_n 0, 1) := by decide +kernel
theorem dX10_guesses_10 : decode mX10_guesses.2.1 10 = .ok (.iconst 1, 1) := by decide +kernel
theorem dX10_guesses_11 : decode mX10_guesses.2.1 11 = .ok (.iconst 0, 1) := by decide +kernel
theorem dX10_guesses_12 : decode mX10_guesses.2.1 12 = .ok (.invokevirtual 81, 3) := by decide +kernel
theorem dX10_guesses_15 : decode mX10_guesses.2.1 15 = .ok (.aload_n 0, 1) := by decide +kernel
theorem dX10_guesses_16 : decode mX10_guesses.2.1 16 = .ok (.getfield 126, 3) := by decide +kernel
theorem dX10_guesses_19 : decode mX10_guesses.2.1 19 = .ok (.iastore, 1) := by decide +kernel
theorem dX10_guesses_20 : decode mX10_guesses.2.1 20 = .ok (.iconst 0, 1) := by decide +kernel
theorem dX10_guesses_21 : decode mX10_guesses.2.1 21 = .ok (.istore_n 1, 1) := by decide +kernel
theorem dX10_guesses_22 : decode mX10_guesses.2.1 22 = .ok (.iload_n 1, 1) := by decide +kernel
theorem dX10_guesses_23 : decode mX10_guesses.2.1 23 = .ok (.aload_n 0, 1) := by decide +kernel
theorem dX10_guesses_24 : decode mX10_guesses.2.1 24 = .ok (.getfield 126, 3) := by decide +kernel
theorem dX10_guesses_27 : decode mX10_guesses.2.1 27 = .ok (.if_icmp .ge 120, 3) := by decide +kernel
theorem dX10_guesses_30 : decode mX10_guesses.2.1 30 = .ok (.aload_n 0, 1) := by decide +kernel
theorem dX10_guesses_31 : decode mX10_guesses.2.1 31 = .ok (.getfield 7, 3) := by decide +kernel
theorem dX10_guesses_34 : decode mX10_guesses.2.1 34 = .ok (.aload_n 0, 1) := by decide +kernel
theorem dX10_guesses_35 : decode mX10_guesses.2.1 35 = .ok (.iconst 1, 1) := by decide +kernel
theorem dX10_guesses_36 : decode mX10_guesses.2.1 36 = .ok (.iconst 1, 1) := by decide +kernel
theorem dX10_guesses_37 : decode mX10_guesses.2.1 37 = .ok (.iload_n 1, 1) := by decide +kernel
theorem dX10_guesses_38 : decode mX10_guesses.2.1 38 = .ok (.iadd, 1) := by decide +kernel
theorem dX10_guesses_39 : decode mX10_guesses.2.1 39 = .ok (.invokevirtual 81, 3) := by decide +kernel
theorem dX10_guesses_42 : decode mX10_guesses.2.1 42 = .ok (.iload_n 1, 1) := by decide +kernel
theorem dX10_guesses_43 : decode mX10_guesses.2.1 43 = .ok (.ifCond .ne 7, 3) := by decide +kernel
theorem dX10_guesses_46 : decode mX10_guesses.2.1 46 = .ok (.iconst 1, 1) := by decide +kernel
theorem dX10_guesses_47 : decode mX10_guesses.2.1 47 = .ok (.goto 4, 3) := by decide +kernel
theorem dX10_guesses_50 : decode mX10_guesses.2.1 50 = .ok (.iconst 0, 1) := by decide +kernel
theorem dX10_guesses_51 : decode mX10_guesses.2.1 51 = .ok (.iastore, 1) := by decide +kernel
theorem dX10_guesses_52 : decode mX10_guesses.2.1 52 = .ok (.aload_n 0, 1) := by decide +kernel
theorem dX10_guesses_53 : decode mX10_guesses.2.1 53 = .ok (.getfield 7, 3) := by decide +kernel
theorem dX10_guesses_56 : decode mX10_guesses.2.1 56 = .ok (.aload_n 0, 1) := by decide +kernel
theorem dX10_guesses_57 : decode mX10_guesses.2.1 57 = .ok (.iconst 1, 1) := by decide +kernel
theorem dX10_guesses_58 : decode mX10_guesses.2.1 58 = .ok (.iconst 5, 1) := by decide +kernel
theorem dX10_guesses_59 : decode mX10_guesses.2.1 59 = .ok (.iload_n 1, 1) := by decide +kernel
theorem dX10_guesses_60 : decode mX10_guesses.2.1 60 = .ok (.iadd, 1) := by decide +kernel
theorem dX10_guesses_61 : decode mX10_guesses.2.1 61 = .ok (.invokevirtual 81, 3) := by decide +kernel
theorem dX10_guesses_64 : decode mX10_guesses.2.1 64 = .ok (.aload_n 0, 1) := by decide +kernel
theorem dX10_guesses_65 : decode mX10_guesses.2.1 65 = .ok (.iconst 0, 1) := by decide +kernel
theorem dX10_guesses_66 : decode mX10_guesses.2.1 66 = .ok (.aload_n 0, 1) := by decide +kernel
theorem dX10_guesses_67 : decode mX10_guesses.2.1 67 = .ok (.getfield 32, 3) := by decide +kernel
theorem dX10_guesses_70 : decode mX10_guesses.2.1 70 = .ok (.iload_n 1, 1) := by decide +kernel
theorem dX10_guesses_71 : decode mX10_guesses.2.1 71 = .ok (.iaload, 1) := by decide +kernel
theorem dX10_guesses_72 : decode mX10_guesses.2.1 72 = .ok (.invokevirtual 112, 3) := by decide +kernel
theorem dX10_guesses_75 : decode mX10_guesses.2.1 75 = .ok (.iastore, 1) := by decide +kernel
theorem dX10_guesses_76 : decode mX10_guesses.2.1 76 = .ok (.iconst 0, 1) := by decide +kernel
theorem dX10_guesses_77 : decode mX10_guesses.2.1 77 = .ok (.istore_n 2, 1) := by decide +kernel
theorem dX10_guesses_78 : decode mX10_guesses.2.1 78 = .ok (.iload_n 2, 1) := by decide +kernel
theorem dX10_guesses_79 : decode mX10_guesses.2.1 79 = .ok (.aload_n 0, 1) := by decide +kernel
theorem dX10_guesses_80 : decode mX10_guesses.2.1 80 = .ok (.getfield 17, 3) := by decide +kernel
theorem dX10_guesses_83 : decode mX10_guesses.2.1 83 = .ok (.if_icmp .ge 58, 3) := by decide +kernel
theorem dX10_guesses_86 : decode mX10_guesses.2.1 86 = .ok (.aload_n 0, 1) := by decide +kernel
theorem dX10_guesses_87 : decode mX10_guesses.2.1 87 = .ok (.aload_n 0, 1) := by decide +kernel
theorem dX10_guesses_88 : decode mX10_guesses.2.1 88 = .ok (.aload_n 0, 1) := by decide +kernel
theorem dX10_guesses_89 : decode mX10_guesses.2.1 89 = .ok (.getfield 32, 3) := by decide +kernel
theorem dX10_guesses_92 : decode mX10_guesses.2.1 92 = .ok (.iload_n 1, 1) := by decide +kernel
theorem dX10_guesses_93 : decode mX10_guesses.2.1 93 = .ok (.iaload, 1) := by decide +kernel
theorem dX10_guesses_94 : decode mX10_guesses.2.1 94 = .ok (.iload_n 2, 1) := by decide +kernel
theorem dX10_guesses_95 : decode mX10_guesses.2.1 95 = .ok (.invokestatic 149, 3) := by decide +kernel
theorem dX10_guesses_98 : decode mX10_guesses.2.1 98 = .ok (.invokevirtual 139, 3) := by decide +kernel
theorem dX10_guesses_101 : decode mX10_guesses.2.1 101 = .ok (.invokevirtual 146, 3) := by decide +kernel
theorem dX10_guesses_104 : decode mX10_guesses.2.1 104 = .ok (.pop, 1) := by decide +kernel
theorem dX10_guesses_105 : decode mX10_guesses.2.1 105 = .ok (.iconst 0, 1) := by decide +kernel
theorem dX10_guesses_106 : decode mX10_guesses.2.1 106 = .ok (.istore_n 3, 1) := by decide +kernel
theorem dX10_guesses_107 : decode mX10_guesses.2.1 107 = .ok (.iload_n 3, 1) := by decide +kernel
theorem dX10_guesses_108 : decode mX10_guesses.2.1 108 = .ok (.aload_n 0, 1) := by decide +kernel
theorem dX10_guesses_109 : decode mX10_guesses.2.1 109 = .ok (.getfield 126, 3) := by decide +kernel
theorem dX10_guesses_112 : decode mX10_guesses.2.1 112 = .ok (.if_icmp .ge 23, 3) := by decide +kernel
theorem dX10_guesses_115 : decode mX10_guesses.2.1 115 = .ok (.aload_n 0, 1) := by decide +kernel
theorem dX10_guesses_116 : decode mX10_guesses.2.1 116 = .ok (.iconst 1, 1) := by decide +kernel
theorem dX10_guesses_117 : decode mX10_guesses.2.1 117 = .ok (.iload_n 1, 1) := by decide +kernel
theorem dX10_guesses_118 : decode mX10_guesses.2.1 118 = .ok (.iload_n 2, 1) := by decide +kernel
theorem dX10_guesses_119 : decode mX10_guesses.2.1 119 = .ok (.iload_n 3, 1) := by decide +kernel
theorem dX10_guesses_120 : decode mX10_guesses.2.1 120 = .ok (.aload_n 0, 1) := by decide +kernel
theorem dX10_guesses_121 : decode mX10_guesses.2.1 121 = .ok (.getfield 29, 3) := by decide +kernel
theorem dX10_guesses_124 : decode mX10_guesses.2.1 124 = .ok (.iload_n 3, 1) := by decide +kernel
theorem dX10_guesses_125 : decode mX10_guesses.2.1 125 = .ok (.iaload, 1) := by decide +kernel
theorem dX10_guesses_126 : decode mX10_guesses.2.1 126 = .ok (.invokevirtual 160, 3) := by decide +kernel
theorem dX10_guesses_129 : decode mX10_guesses.2.1 129 = .ok (.iinc 3 1, 3) := by decide +kernel
theorem dX10_guesses_132 : decode mX10_guesses.2.1 132 = .ok (.goto (-25), 3) := by decide +kernel
theorem dX10_guesses_135 : decode mX10_guesses.2.1 135 = .ok (.iinc 2 1, 3) := by decide +kernel
theorem dX10_guesses_138 : decode mX10_guesses.2.1 138 = .ok (.goto (-60), 3) := by decide +kernel
theorem dX10_guesses_141 : decode mX10_guesses.2.1 141 = .ok (.iinc 1 1, 3) := by decide +kernel
theorem dX10_guesses_144 : decode mX10_guesses.2.1 144 = .ok (.goto (-122), 3) := by decide +kernel
theorem dX10_guesses_147 : decode mX10_guesses.2.1 147 = .ok (.aload_n 0, 1) := by decide +kernel
theorem dX10_guesses_148 : decode mX10_guesses.2.1 148 = .ok (.iconst 1, 1) := by decide +kernel
theorem dX10_guesses_149 : decode mX10_guesses.2.1 149 = .ok (.putfield 135, 3) := by decide +kernel
theorem dX10_guesses_152 : decode mX10_guesses.2.1 152 = .ok (.return_, 1) := by decide +kernel
theorem dX10_leftOf_0 : decode mX10_leftOf.2.1 0 = .ok (.aload_n 0, 1) := by decide +kernel
theorem dX10_leftOf_1 : decode mX10_leftOf.2.1 1 = .ok (.iload_n 1, 1) := by decide +kernel
theorem dX10_leftOf_2 : decode mX10_leftOf.2.1 2 = .ok (.invokevirtual 92, 3) := by decide +kernel
theorem dX10_leftOf_5 : decode mX10_leftOf.2.1 5 = .ok (.istore_n 3, 1) := by decide +kernel
theorem dX10_leftOf_6 : decode mX10_leftOf.2.1 6 = .ok (.aload_n 0, 1) := by decide +kernel
theorem dX10_leftOf_7 : decode mX10_leftOf.2.1 7 = .ok (.iload_n 3, 1) := by decide +kernel
theorem dX10_leftOf_8 : decode mX10_leftOf.2.1 8 = .ok (.iload_n 2, 1) := by decide +kernel
theorem dX10_leftOf_9 : decode mX10_leftOf.2.1 9 = .ok (.isub, 1) := by decide +kernel
theorem dX10_leftOf_10 : decode mX10_leftOf.2.1 10 = .ok (.invokevirtual 89, 3) := by decide +kernel
theorem dX10_leftOf_13 : decode mX10_leftOf.2.1 13 = .ok (.iload_n 1, 1) := by decide +kernel
theorem dX10_leftOf_14 : decode mX10_leftOf.2.1 14 = .ok (.aload_n 0, 1) := by decide +kernel
theorem dX10_leftOf_15 : decode mX10_leftOf.2.1 15 = .ok (.iload_n 3, 1) := by decide +kernel
theorem dX10_leftOf_16 : decode mX10_leftOf.2.1 16 = .ok (.invokevirtual 89, 3) := by decide +kernel
theorem dX10_leftOf_19 : decode mX10_leftOf.2.1 19 = .ok (.isub, 1) := by decide +kernel
theorem dX10_leftOf_20 : decode mX10_leftOf.2.1 20 = .ok (.aload_n 0, 1) := by decide +kernel
theorem dX10_leftOf_21 : decode mX10_leftOf.2.1 21 = .ok (.iload_n 3, 1) := by decide +kernel
theorem dX10_leftOf_22 : decode mX10_leftOf.2.1 22 = .ok (.iload_n 2, 1) := by decide +kernel
theorem dX10_leftOf_23 : decode mX10_leftOf.2.1 23 = .ok (.isub, 1) := by decide +kernel
theorem dX10_leftOf_24 : decode mX10_leftOf.2.1 24 = .ok (.invokevirtual 85, 3) := by decide +kernel
theorem dX10_leftOf_27 : decode mX10_leftOf.2.1 27 = .ok (.irem, 1) := by decide +kernel
theorem dX10_leftOf_28 : decode mX10_leftOf.2.1 28 = .ok (.iadd, 1) := by decide +kernel
theorem dX10_leftOf_29 : decode mX10_leftOf.2.1 29 = .ok (.ireturn, 1) := by decide +kernel
theorem dX10_endings_0 : decode mX10_endings.2.1 0 = .ok (.aload_n 0, 1) := by decide +kernel
theorem dX10_endings_1 : decode mX10_endings.2.1 1 = .ok (.iload_n 1, 1) := by decide +kernel
theorem dX10_endings_2 : decode mX10_endings.2.1 2 = .ok (.invokevirtual 92, 3) := by decide +kernel
theorem dX10_endings_5 : decode mX10_endings.2.1 5 = .ok (.istore_n 3, 1) := by decide +kernel
theorem dX10_endings_6 : decode mX10_endings.2.1 6 = .ok (.aload_n 0, 1) := by decide +kernel
theorem dX10_endings_7 : decode mX10_endings.2.1 7 = .ok (.getfield 129, 3) := by decide +kernel
theorem dX10_endings_10 : decode mX10_endings.2.1 10 = .ok (.istore 4, 2) := by decide +kernel
theorem dX10_endings_12 : decode mX10_endings.2.1 12 = .ok (.iload_n 3, 1) := by decide +kernel
theorem dX10_endings_13 : decode mX10_endings.2.1 13 = .ok (.istore 5, 2) := by decide +kernel
theorem dX10_endings_15 : decode mX10_endings.2.1 15 = .ok (.iload 5, 2) := by decide +kernel
theorem dX10_endings_17 : decode mX10_endings.2.1 17 = .ok (.ifCond .lt 43, 3) := by decide +kernel
theorem dX10_endings_20 : decode mX10_endings.2.1 20 = .ok (.aload_n 0, 1) := by decide +kernel
theorem dX10_endings_21 : decode mX10_endings.2.1 21 = .ok (.iload_n 1, 1) := by decide +kernel
theorem dX10_endings_22 : decode mX10_endings.2.1 22 = .ok (.iload 5, 2) := by decide +kernel
theorem dX10_endings_24 : decode mX10_endings.2.1 24 = .ok (.invokevirtual 164, 3) := by decide +kernel
theorem dX10_endings_27 : decode mX10_endings.2.1 27 = .ok (.istore 6, 2) := by decide +kernel
theorem dX10_endings_29 : decode mX10_endings.2.1 29 = .ok (.aload_n 0, 1) := by decide +kernel
theorem dX10_endings_30 : decode mX10_endings.2.1 30 = .ok (.iload 6, 2) := by decide +kernel
theorem dX10_endings_32 : decode mX10_endings.2.1 32 = .ok (.aload_n 0, 1) := by decide +kernel
theorem dX10_endings_33 : decode mX10_endings.2.1 33 = .ok (.getfield 129, 3) := by decide +kernel
theorem dX10_endings_36 : decode mX10_endings.2.1 36 = .ok (.invokevirtual 167, 3) := by decide +kernel
theorem dX10_endings_39 : decode mX10_endings.2.1 39 = .ok (.ifCond .ne 15, 3) := by decide +kernel
theorem dX10_endings_42 : decode mX10_endings.2.1 42 = .ok (.aload_n 0, 1) := by decide +kernel
theorem dX10_endings_43 : decode mX10_endings.2.1 43 = .ok (.getfield 35, 3) := by decide +kernel
theorem dX10_endings_46 : decode mX10_endings.2.1 46 = .ok (.iload 4, 2) := by decide +kernel
theorem dX10_endings_48 : decode mX10_endings.2.1 48 = .ok (.iload 6, 2) := by decide +kernel
theorem dX10_endings_50 : decode mX10_endings.2.1 50 = .ok (.iastore, 1) := by decide +kernel
theorem dX10_endings_51 : decode mX10_endings.2.1 51 = .ok (.iinc 4 1, 3) := by decide +kernel
theorem dX10_endings_54 : decode mX10_endings.2.1 54 = .ok (.iinc 5 (-1), 3) := by decide +kernel
theorem dX10_endings_57 : decode mX10_endings.2.1 57 = .ok (.goto (-42), 3) := by decide +kernel
theorem dX10_endings_60 : decode mX10_endings.2.1 60 = .ok (.aload_n 0, 1) := by decide +kernel
theorem dX10_endings_61 : decode mX10_endings.2.1 61 = .ok (.iload_n 2, 1) := by decide +kernel
theorem dX10_endings_62 : decode mX10_endings.2.1 62 = .ok (.ifCond .eq 8, 3) := by decide +kernel
theorem dX10_endings_65 : decode mX10_endings.2.1 65 = .ok (.iload 4, 2) := by decide +kernel
theorem dX10_endings_67 : decode mX10_endings.2.1 67 = .ok (.goto 7, 3) := by decide +kernel
theorem dX10_endings_70 : decode mX10_endings.2.1 70 = .ok (.aload_n 0, 1) := by decide +kernel
theorem dX10_endings_71 : decode mX10_endings.2.1 71 = .ok (.getfield 129, 3) := by decide +kernel
theorem dX10_endings_74 : decode mX10_endings.2.1 74 = .ok (.putfield 129, 3) := by decide +kernel
theorem dX10_endings_77 : decode mX10_endings.2.1 77 = .ok (.iload 4, 2) := by decide +kernel
theorem dX10_endings_79 : decode mX10_endings.2.1 79 = .ok (.ireturn, 1) := by decide +kernel
theorem dX10_ask_0 : decode mX10_ask.2.1 0 = .ok (.iload_n 1, 1) := by decide +kernel
theorem dX10_ask_1 : decode mX10_ask.2.1 1 = .ok (.i2l, 1) := by decide +kernel
theorem dX10_ask_2 : decode mX10_ask.2.1 2 = .ok (.lconst 0, 1) := by decide +kernel
theorem dX10_ask_3 : decode mX10_ask.2.1 3 = .ok (.aload_n 0, 1) := by decide +kernel
theorem dX10_ask_4 : decode mX10_ask.2.1 4 = .ok (.bipush 6, 2) := by decide +kernel
theorem dX10_ask_6 : decode mX10_ask.2.1 6 = .ok (.invokevirtual 89, 3) := by decide +kernel
theorem dX10_ask_9 : decode mX10_ask.2.1 9 = .ok (.iconst 1, 1) := by decide +kernel
theorem dX10_ask_10 : decode mX10_ask.2.1 10 = .ok (.isub, 1) := by decide +kernel
theorem dX10_ask_11 : decode mX10_ask.2.1 11 = .ok (.i2l, 1) := by decide +kernel
theorem dX10_ask_12 : decode mX10_ask.2.1 12 = .ok (.invokestatic 181, 3) := by decide +kernel
theorem dX10_ask_15 : decode mX10_ask.2.1 15 = .ok (.ifCond .ne 5, 3) := by decide +kernel
theorem dX10_ask_18 : decode mX10_ask.2.1 18 = .ok (.iconst (-1), 1) := by decide +kernel
theorem dX10_ask_19 : decode mX10_ask.2.1 19 = .ok (.ireturn, 1) := by decide +kernel
theorem dX10_ask_20 : decode mX10_ask.2.1 20 = .ok (.aload_n 0, 1) := by decide +kernel
theorem dX10_ask_21 : decode mX10_ask.2.1 21 = .ok (.iload_n 1, 1) := by decide +kernel
theorem dX10_ask_22 : decode mX10_ask.2.1 22 = .ok (.iconst 0, 1) := by decide +kernel
theorem dX10_ask_23 : decode mX10_ask.2.1 23 = .ok (.invokevirtual 348, 3) := by decide +kernel
theorem dX10_ask_26 : decode mX10_ask.2.1 26 = .ok (.bipush 24, 2) := by decide +kernel
theorem dX10_ask_28 : decode mX10_ask.2.1 28 = .ok (.if_icmp .le 6, 3) := by decide +kernel
theorem dX10_ask_31 : decode mX10_ask.2.1 31 = .ok (.bipush (-3), 2) := by decide +kernel
theorem dX10_ask_33 : decode mX10_ask.2.1 33 = .ok (.ireturn, 1) := by decide +kernel
theorem dX10_ask_34 : decode mX10_ask.2.1 34 = .ok (.aload_n 0, 1) := by decide +kernel
theorem dX10_ask_35 : decode mX10_ask.2.1 35 = .ok (.iload_n 1, 1) := by decide +kernel
theorem dX10_ask_36 : decode mX10_ask.2.1 36 = .ok (.iconst 1, 1) := by decide +kernel
theorem dX10_ask_37 : decode mX10_ask.2.1 37 = .ok (.invokevirtual 348, 3) := by decide +kernel
theorem dX10_ask_40 : decode mX10_ask.2.1 40 = .ok (.ireturn, 1) := by decide +kernel
theorem dX10_basis_0 : decode mX10_basis.2.1 0 = .ok (.iload_n 1, 1) := by decide +kernel
theorem dX10_basis_1 : decode mX10_basis.2.1 1 = .ok (.ifCond .ge 5, 3) := by decide +kernel
theorem dX10_basis_4 : decode mX10_basis.2.1 4 = .ok (.iconst (-1), 1) := by decide +kernel
theorem dX10_basis_5 : decode mX10_basis.2.1 5 = .ok (.ireturn, 1) := by decide +kernel
theorem dX10_basis_6 : decode mX10_basis.2.1 6 = .ok (.aload_n 0, 1) := by decide +kernel
theorem dX10_basis_7 : decode mX10_basis.2.1 7 = .ok (.iconst 0, 1) := by decide +kernel
theorem dX10_basis_8 : decode mX10_basis.2.1 8 = .ok (.invokevirtual 176, 3) := by decide +kernel
theorem dX10_basis_11 : decode mX10_basis.2.1 11 = .ok (.iload_n 1, 1) := by decide +kernel
theorem dX10_basis_12 : decode mX10_basis.2.1 12 = .ok (.aload_n 0, 1) := by decide +kernel
theorem dX10_basis_13 : decode mX10_basis.2.1 13 = .ok (.getfield 170, 3) := by decide +kernel
theorem dX10_basis_16 : decode mX10_basis.2.1 16 = .ok (.if_icmp .ge 12, 3) := by decide +kernel
theorem dX10_basis_19 : decode mX10_basis.2.1 19 = .ok (.aload_n 0, 1) := by decide +kernel
theorem dX10_basis_20 : decode mX10_basis.2.1 20 = .ok (.getfield 38, 3) := by decide +kernel
theorem dX10_basis_23 : decode mX10_basis.2.1 23 = .ok (.iload_n 1, 1) := by decide +kernel
theorem dX10_basis_24 : decode mX10_basis.2.1 24 = .ok (.iaload, 1) := by decide +kernel
theorem dX10_basis_25 : decode mX10_basis.2.1 25 = .ok (.goto 5, 3) := by decide +kernel
theorem dX10_basis_28 : decode mX10_basis.2.1 28 = .ok (.bipush (-4), 2) := by decide +kernel
theorem dX10_basis_30 : decode mX10_basis.2.1 30 = .ok (.ireturn, 1) := by decide +kernel
theorem dX10_marks_0 : decode mX10_marks.2.1 0 = .ok (.aload_n 0, 1) := by decide +kernel
theorem dX10_marks_1 : decode mX10_marks.2.1 1 = .ok (.iconst 0, 1) := by decide +kernel
theorem dX10_marks_2 : decode mX10_marks.2.1 2 = .ok (.iload_n 2, 1) := by decide +kernel
theorem dX10_marks_3 : decode mX10_marks.2.1 3 = .ok (.invokevirtual 291, 3) := by decide +kernel
theorem dX10_marks_6 : decode mX10_marks.2.1 6 = .ok (.ifCond .eq 11, 3) := by decide +kernel
theorem dX10_marks_9 : decode mX10_marks.2.1 9 = .ok (.aload_n 0, 1) := by decide +kernel
theorem dX10_marks_10 : decode mX10_marks.2.1 10 = .ok (.iload_n 3, 1) := by decide +kernel
theorem dX10_marks_11 : decode mX10_marks.2.1 11 = .ok (.invokevirtual 351, 3) := by decide +kernel
theorem dX10_marks_14 : decode mX10_marks.2.1 14 = .ok (.ifCond .ne 5, 3) := by decide +kernel
theorem dX10_marks_17 : decode mX10_marks.2.1 17 = .ok (.iconst (-1), 1) := by decide +kernel
theorem dX10_marks_18 : decode mX10_marks.2.1 18 = .ok (.ireturn, 1) := by decide +kernel
theorem dX10_marks_19 : decode mX10_marks.2.1 19 = .ok (.aload_n 0, 1) := by decide +kernel
theorem dX10_marks_20 : decode mX10_marks.2.1 20 = .ok (.getfield 7, 3) := by decide +kernel
theorem dX10_marks_23 : decode mX10_marks.2.1 23 = .ok (.aload_n 0, 1) := by decide +kernel
theorem dX10_marks_24 : decode mX10_marks.2.1 24 = .ok (.iconst 0, 1) := by decide +kernel
theorem dX10_marks_25 : decode mX10_marks.2.1 25 = .ok (.iload_n 1, 1) := by decide +kernel
theorem dX10_marks_26 : decode mX10_marks.2.1 26 = .ok (.iload_n 2, 1) := by decide +kernel
theorem dX10_marks_27 : decode mX10_marks.2.1 27 = .ok (.iadd, 1) := by decide +kernel
theorem dX10_marks_28 : decode mX10_marks.2.1 28 = .ok (.invokevirtual 81, 3) := by decide +kernel
theorem dX10_marks_31 : decode mX10_marks.2.1 31 = .ok (.iaload, 1) := by decide +kernel
theorem dX10_marks_32 : decode mX10_marks.2.1 32 = .ok (.istore 4, 2) := by decide +kernel
theorem dX10_marks_34 : decode mX10_marks.2.1 34 = .ok (.aload_n 0, 1) := by decide +kernel
theorem dX10_marks_35 : decode mX10_marks.2.1 35 = .ok (.getfield 7, 3) := by decide +kernel
theorem dX10_marks_38 : decode mX10_marks.2.1 38 = .ok (.aload_n 0, 1) := by decide +kernel
theorem dX10_marks_39 : decode mX10_marks.2.1 39 = .ok (.iconst 0, 1) := by decide +kernel
theorem dX10_marks_40 : decode mX10_marks.2.1 40 = .ok (.iload_n 1, 1) := by decide +kernel
theorem dX10_marks_41 : decode mX10_marks.2.1 41 = .ok (.iload_n 2, 1) := by decide +kernel
theorem dX10_marks_42 : decode mX10_marks.2.1 42 = .ok (.iadd, 1) := by decide +kernel
theorem dX10_marks_43 : decode mX10_marks.2.1 43 = .ok (.invokevirtual 81, 3) := by decide +kernel
theorem dX10_marks_46 : decode mX10_marks.2.1 46 = .ok (.iload_n 3, 1) := by decide +kernel
theorem dX10_marks_47 : decode mX10_marks.2.1 47 = .ok (.iastore, 1) := by decide +kernel
theorem dX10_marks_48 : decode mX10_marks.2.1 48 = .ok (.aload_n 0, 1) := by decide +kernel
theorem dX10_marks_49 : decode mX10_marks.2.1 49 = .ok (.invokevirtual 78, 3) := by decide +kernel
theorem dX10_marks_52 : decode mX10_marks.2.1 52 = .ok (.iload 4, 2) := by decide +kernel
theorem dX10_marks_54 : decode mX10_marks.2.1 54 = .ok (.ireturn, 1) := by decide +kernel
theorem dX10_drop_0 : decode mX10_drop.2.1 0 = .ok (.aload_n 0, 1) := by decide +kernel
theorem dX10_drop_1 : decode mX10_drop.2.1 1 = .ok (.iconst 0, 1) := by decide +kernel
theorem dX10_drop_2 : decode mX10_drop.2.1 2 = .ok (.iload_n 1, 1) := by decide +kernel
theorem dX10_drop_3 : decode mX10_drop.2.1 3 = .ok (.invokevirtual 291, 3) := by decide +kernel
theorem dX10_drop_6 : decode mX10_drop.2.1 6 = .ok (.ifCond .ne 5, 3) := by decide +kernel
theorem dX10_drop_9 : decode mX10_drop.2.1 9 = .ok (.iconst (-1), 1) := by decide +kernel
theorem dX10_drop_10 : decode mX10_drop.2.1 10 = .ok (.ireturn, 1) := by decide +kernel
theorem dX10_drop_11 : decode mX10_drop.2.1 11 = .ok (.aload_n 0, 1) := by decide +kernel
theorem dX10_drop_12 : decode mX10_drop.2.1 12 = .ok (.iconst 0, 1) := by decide +kernel
theorem dX10_drop_13 : decode mX10_drop.2.1 13 = .ok (.bipush 32, 2) := by decide +kernel
theorem dX10_drop_15 : decode mX10_drop.2.1 15 = .ok (.invokevirtual 264, 3) := by decide +kernel
theorem dX10_drop_18 : decode mX10_drop.2.1 18 = .ok (.aload_n 0, 1) := by decide +kernel
theorem dX10_drop_19 : decode mX10_drop.2.1 19 = .ok (.iconst 0, 1) := by decide +kernel
theorem dX10_drop_20 : decode mX10_drop.2.1 20 = .ok (.invokevirtual 95, 3) := by decide +kernel
theorem dX10_drop_23 : decode mX10_drop.2.1 23 = .ok (.iconst 1, 1) := by decide +kernel
theorem dX10_drop_24 : decode mX10_drop.2.1 24 = .ok (.isub, 1) := by decide +kernel
theorem dX10_drop_25 : decode mX10_drop.2.1 25 = .ok (.istore_n 2, 1) := by decide +kernel
theorem dX10_drop_26 : decode mX10_drop.2.1 26 = .ok (.aload_n 0, 1) := by decide +kernel
theorem dX10_drop_27 : decode mX10_drop.2.1 27 = .ok (.getfield 7, 3) := by decide +kernel
theorem dX10_drop_30 : decode mX10_drop.2.1 30 = .ok (.aload_n 0, 1) := by decide +kernel
theorem dX10_drop_31 : decode mX10_drop.2.1 31 = .ok (.iconst 0, 1) := by decide +kernel
theorem dX10_drop_32 : decode mX10_drop.2.1 32 = .ok (.iconst 0, 1) := by decide +kernel
theorem dX10_drop_33 : decode mX10_drop.2.1 33 = .ok (.invokevirtual 81, 3) := by decide +kernel
theorem dX10_drop_36 : decode mX10_drop.2.1 36 = .ok (.iload_n 2, 1) := by decide +kernel
theorem dX10_drop_37 : decode mX10_drop.2.1 37 = .ok (.iastore, 1) := by decide +kernel
theorem dX10_drop_38 : decode mX10_drop.2.1 38 = .ok (.iconst 0, 1) := by decide +kernel
theorem dX10_drop_39 : decode mX10_drop.2.1 39 = .ok (.istore_n 3, 1) := by decide +kernel
theorem dX10_drop_40 : decode mX10_drop.2.1 40 = .ok (.iload_n 3, 1) := by decide +kernel
theorem dX10_drop_41 : decode mX10_drop.2.1 41 = .ok (.iload_n 2, 1) := by decide +kernel
theorem dX10_drop_42 : decode mX10_drop.2.1 42 = .ok (.if_icmp .ge 128, 3) := by decide +kernel
theorem dX10_drop_45 : decode mX10_drop.2.1 45 = .ok (.iload_n 3, 1) := by decide +kernel
theorem dX10_drop_46 : decode mX10_drop.2.1 46 = .ok (.iload_n 1, 1) := by decide +kernel
theorem dX10_drop_47 : decode mX10_drop.2.1 47 = .ok (.if_icmp .ge 7, 3) := by decide +kernel
theorem dX10_drop_50 : decode mX10_drop.2.1 50 = .ok (.iload_n 3, 1) := by decide +kernel
theorem dX10_drop_51 : decode mX10_drop.2.1 51 = .ok (.goto 6, 3) := by decide +kernel
theorem dX10_drop_54 : decode mX10_drop.2.1 54 = .ok (.iload_n 3, 1) := by decide +kernel
theorem dX10_drop_55 : decode mX10_drop.2.1 55 = .ok (.iconst 1, 1) := by decide +kernel
theorem dX10_drop_56 : decode mX10_drop.2.1 56 = .ok (.iadd, 1) := by decide +kernel
theorem dX10_drop_57 : decode mX10_drop.2.1 57 = .ok (.istore 4, 2) := by decide +kernel
theorem dX10_drop_59 : decode mX10_drop.2.1 59 = .ok (.aload_n 0, 1) := by decide +kernel
theorem dX10_drop_60 : decode mX10_drop.2.1 60 = .ok (.getfield 7, 3) := by decide +kernel
theorem dX10_drop_63 : decode mX10_drop.2.1 63 = .ok (.aload_n 0, 1) := by decide +kernel
theorem dX10_drop_64 : decode mX10_drop.2.1 64 = .ok (.iconst 0, 1) := by decide +kernel
theorem dX10_drop_65 : decode mX10_drop.2.1 65 = .ok (.iconst 1, 1) := by decide +kernel
theorem dX10_drop_66 : decode mX10_drop.2.1 66 = .ok (.iload_n 3, 1) := by decide +kernel
theorem dX10_drop_67 : decode mX10_drop.2.1 67 = .ok (.iadd, 1) := by decide +kernel
theorem dX10_drop_68 : decode mX10_drop.2.1 68 = .ok (.invokevirtual 81, 3) := by decide +kernel
theorem dX10_drop_71 : decode mX10_drop.2.1 71 = .ok (.aload_n 0, 1) := by decide +kernel
theorem dX10_drop_72 : decode mX10_drop.2.1 72 = .ok (.iconst 1, 1) := by decide +kernel
theorem dX10_drop_73 : decode mX10_drop.2.1 73 = .ok (.iload 4, 2) := by decide +kernel
theorem dX10_drop_75 : decode mX10_drop.2.1 75 = .ok (.invokevirtual 358, 3) := by decide +kernel
theorem dX10_drop_78 : decode mX10_drop.2.1 78 = .ok (.iastore, 1) := by decide +kernel
theorem dX10_drop_79 : decode mX10_drop.2.1 79 = .ok (.aload_n 0, 1) := by decide +kernel
theorem dX10_drop_80 : decode mX10_drop.2.1 80 = .ok (.getfield 7, 3) := by decide +kernel
theorem dX10_drop_83 : decode mX10_drop.2.1 83 = .ok (.aload_n 0, 1) := by decide +kernel
theorem dX10_drop_84 : decode mX10_drop.2.1 84 = .ok (.iconst 0, 1) := by decide +kernel
theorem dX10_drop_85 : decode mX10_drop.2.1 85 = .ok (.iconst 5, 1) := by decide +kernel
theorem dX10_drop_86 : decode mX10_drop.2.1 86 = .ok (.iload_n 3, 1) := by decide +kernel
theorem dX10_drop_87 : decode mX10_drop.2.1 87 = .ok (.iadd, 1) := by decide +kernel
theorem dX10_drop_88 : decode mX10_drop.2.1 88 = .ok (.invokevirtual 81, 3) := by decide +kernel
theorem dX10_drop_91 : decode mX10_drop.2.1 91 = .ok (.aload_n 0, 1) := by decide +kernel
theorem dX10_drop_92 : decode mX10_drop.2.1 92 = .ok (.iconst 5, 1) := by decide +kernel
theorem dX10_drop_93 : decode mX10_drop.2.1 93 = .ok (.iload 4, 2) := by decide +kernel
theorem dX10_drop_95 : decode mX10_drop.2.1 95 = .ok (.invokevirtual 358, 3) := by decide +kernel
theorem dX10_drop_98 : decode mX10_drop.2.1 98 = .ok (.iastore, 1) := by decide +kernel
theorem dX10_drop_99 : decode mX10_drop.2.1 99 = .ok (.iconst 0, 1) := by decide +kernel
theorem dX10_drop_100 : decode mX10_drop.2.1 100 = .ok (.istore 5, 2) := by decide +kernel
theorem dX10_drop_102 : decode mX10_drop.2.1 102 = .ok (.iload 5, 2) := by decide +kernel
theorem dX10_drop_104 : decode mX10_drop.2.1 104 = .ok (.iconst 3, 1) := by decide +kernel
theorem dX10_drop_105 : decode mX10_drop.2.1 105 = .ok (.if_icmp .ge 59, 3) := by decide +kernel
theorem dX10_drop_108 : decode mX10_drop.2.1 108 = .ok (.iconst 0, 1) := by decide +kernel
theorem dX10_drop_109 : decode mX10_drop.2.1 109 = .ok (.istore 6, 2) := by decide +kernel
theorem dX10_drop_111 : decode mX10_drop.2.1 111 = .ok (.iload 6, 2) := by decide +kernel
theorem dX10_drop_113 : decode mX10_drop.2.1 113 = .ok (.iload_n 2, 1) := by decide +kernel
theorem dX10_drop_114 : decode mX10_drop.2.1 114 = .ok (.if_icmp .ge 44, 3) := by decide +kernel
theorem dX10_drop_117 : decode mX10_drop.2.1 117 = .ok (.aload_n 0, 1) := by decide +kernel
theorem dX10_drop_118 : decode mX10_drop.2.1 118 = .ok (.iconst 0, 1) := by decide +kernel
theorem dX10_drop_119 : decode mX10_drop.2.1 119 = .ok (.iload_n 3, 1) := by decide +kernel
theorem dX10_drop_120 : decode mX10_drop.2.1 120 = .ok (.iload 5, 2) := by decide +kernel
theorem dX10_drop_122 : decode mX10_drop.2.1 122 = .ok (.iload 6, 2) := by decide +kernel
theorem dX10_drop_124 : decode mX10_drop.2.1 124 = .ok (.aload_n 0, 1) := by decide +kernel
theorem dX10_drop_125 : decode mX10_drop.2.1 125 = .ok (.bipush 32, 2) := by decide +kernel
theorem dX10_drop_127 : decode mX10_drop.2.1 127 = .ok (.iload 4, 2) := by decide +kernel
theorem dX10_drop_129 : decode mX10_drop.2.1 129 = .ok (.iload 5, 2) := by decide +kernel
theorem dX10_drop_131 : decode mX10_drop.2.1 131 = .ok (.iload 6, 2) := by decide +kernel
theorem dX10_drop_133 : decode mX10_drop.2.1 133 = .ok (.iload_n 1, 1) := by decide +kernel
theorem dX10_drop_134 : decode mX10_drop.2.1 134 = .ok (.if_icmp .ge 8, 3) := by decide +kernel
theorem dX10_drop_137 : decode mX10_drop.2.1 137 = .ok (.iload 6, 2) := by decide +kernel
theorem dX10_drop_139 : decode mX10_drop.2.1 139 = .ok (.goto 7, 3) := by decide +kernel
theorem dX10_drop_142 : decode mX10_drop.2.1 142 = .ok (.iload 6, 2) := by decide +kernel
theorem dX10_drop_144 : decode mX10_drop.2.1 144 = .ok (.iconst 1, 1) := by decide +kernel
theorem dX10_drop_145 : decode mX10_drop.2.1 145 = .ok (.iadd, 1) := by decide +kernel
theorem dX10_drop_146 : decode mX10_drop.2.1 146 = .ok (.invokevirtual 98, 3) := by decide +kernel
theorem dX10_drop_149 : decode mX10_drop.2.1 149 = .ok (.invokevirtual 160, 3) := by decide +kernel
theorem dX10_drop_152 : decode mX10_drop.2.1 152 = .ok (.iinc 6 1, 3) := by decide +kernel
theorem dX10_drop_155 : decode mX10_drop.2.1 155 = .ok (.goto (-44), 3) := by decide +kernel
theorem dX10_drop_158 : decode mX10_drop.2.1 158 = .ok (.iinc 5 1, 3) := by decide +kernel
theorem dX10_drop_161 : decode mX10_drop.2.1 161 = .ok (.goto (-59), 3) := by decide +kernel
theorem dX10_drop_164 : decode mX10_drop.2.1 164 = .ok (.iinc 3 1, 3) := by decide +kernel
theorem dX10_drop_167 : decode mX10_drop.2.1 167 = .ok (.goto (-127), 3) := by decide +kernel
theorem dX10_drop_170 : decode mX10_drop.2.1 170 = .ok (.aload_n 0, 1) := by decide +kernel
theorem dX10_drop_171 : decode mX10_drop.2.1 171 = .ok (.invokevirtual 78, 3) := by decide +kernel
theorem dX10_drop_174 : decode mX10_drop.2.1 174 = .ok (.iload_n 2, 1) := by decide +kernel
theorem dX10_drop_175 : decode mX10_drop.2.1 175 = .ok (.ireturn, 1) := by decide +kernel
theorem dX10_scale_0 : decode mX10_scale.2.1 0 = .ok (.aload_n 0, 1) := by decide +kernel
theorem dX10_scale_1 : decode mX10_scale.2.1 1 = .ok (.iload_n 1, 1) := by decide +kernel
theorem dX10_scale_2 : decode mX10_scale.2.1 2 = .ok (.invokevirtual 351, 3) := by decide +kernel
theorem dX10_scale_5 : decode mX10_scale.2.1 5 = .ok (.ifCond .ne 5, 3) := by decide +kernel
theorem dX10_scale_8 : decode mX10_scale.2.1 8 = .ok (.iconst (-1), 1) := by decide +kernel
theorem dX10_scale_9 : decode mX10_scale.2.1 9 = .ok (.ireturn, 1) := by decide +kernel
theorem dX10_scale_10 : decode mX10_scale.2.1 10 = .ok (.iconst 0, 1) := by decide +kernel
theorem dX10_scale_11 : decode mX10_scale.2.1 11 = .ok (.istore_n 2, 1) := by decide +kernel
theorem dX10_scale_12 : decode mX10_scale.2.1 12 = .ok (.iload_n 2, 1) := by decide +kernel
theorem dX10_scale_13 : decode mX10_scale.2.1 13 = .ok (.aload_n 0, 1) := by decide +kernel
theorem dX10_scale_14 : decode mX10_scale.2.1 14 = .ok (.iconst 0, 1) := by decide +kernel
theorem dX10_scale_15 : decode mX10_scale.2.1 15 = .ok (.invokevirtual 95, 3) := by decide +kernel
theorem dX10_scale_18 : decode mX10_scale.2.1 18 = .ok (.if_icmp .ge 42, 3) := by decide +kernel
theorem dX10_scale_21 : decode mX10_scale.2.1 21 = .ok (.aload_n 0, 1) := by decide +kernel
theorem dX10_scale_22 : decode mX10_scale.2.1 22 = .ok (.getfield 7, 3) := by decide +kernel
theorem dX10_scale_25 : decode mX10_scale.2.1 25 = .ok (.aload_n 0, 1) := by decide +kernel
theorem dX10_scale_26 : decode mX10_scale.2.1 26 = .ok (.iconst 0, 1) := by decide +kernel
theorem dX10_scale_27 : decode mX10_scale.2.1 27 = .ok (.iconst 1, 1) := by decide +kernel
theorem dX10_scale_28 : decode mX10_scale.2.1 28 = .ok (.iload_n 2, 1) := by decide +kernel
theorem dX10_scale_29 : decode mX10_scale.2.1 29 = .ok (.iadd, 1) := by decide +kernel
theorem dX10_scale_30 : decode mX10_scale.2.1 30 = .ok (.invokevirtual 81, 3) := by decide +kernel
theorem dX10_scale_33 : decode mX10_scale.2.1 33 = .ok (.aload_n 0, 1) := by decide +kernel
theorem dX10_scale_34 : decode mX10_scale.2.1 34 = .ok (.getfield 7, 3) := by decide +kernel
theorem dX10_scale_37 : decode mX10_scale.2.1 37 = .ok (.aload_n 0, 1) := by decide +kernel
theorem dX10_scale_38 : decode mX10_scale.2.1 38 = .ok (.iconst 0, 1) := by decide +kernel
theorem dX10_scale_39 : decode mX10_scale.2.1 39 = .ok (.iconst 1, 1) := by decide +kernel
theorem dX10_scale_40 : decode mX10_scale.2.1 40 = .ok (.iload_n 2, 1) := by decide +kernel
theorem dX10_scale_41 : decode mX10_scale.2.1 41 = .ok (.iadd, 1) := by decide +kernel
theorem dX10_scale_42 : decode mX10_scale.2.1 42 = .ok (.invokevirtual 81, 3) := by decide +kernel
theorem dX10_scale_45 : decode mX10_scale.2.1 45 = .ok (.iaload, 1) := by decide +kernel
theorem dX10_scale_46 : decode mX10_scale.2.1 46 = .ok (.iload_n 1, 1) := by decide +kernel
theorem dX10_scale_47 : decode mX10_scale.2.1 47 = .ok (.imul, 1) := by decide +kernel
theorem dX10_scale_48 : decode mX10_scale.2.1 48 = .ok (.aload_n 0, 1) := by decide +kernel
theorem dX10_scale_49 : decode mX10_scale.2.1 49 = .ok (.getfield 13, 3) := by decide +kernel
theorem dX10_scale_52 : decode mX10_scale.2.1 52 = .ok (.irem, 1) := by decide +kernel
theorem dX10_scale_53 : decode mX10_scale.2.1 53 = .ok (.iastore, 1) := by decide +kernel
theorem dX10_scale_54 : decode mX10_scale.2.1 54 = .ok (.iinc 2 1, 3) := by decide +kernel
theorem dX10_scale_57 : decode mX10_scale.2.1 57 = .ok (.goto (-45), 3) := by decide +kernel
theorem dX10_scale_60 : decode mX10_scale.2.1 60 = .ok (.aload_n 0, 1) := by decide +kernel
theorem dX10_scale_61 : decode mX10_scale.2.1 61 = .ok (.invokevirtual 78, 3) := by decide +kernel
theorem dX10_scale_64 : decode mX10_scale.2.1 64 = .ok (.aload_n 0, 1) := by decide +kernel
theorem dX10_scale_65 : decode mX10_scale.2.1 65 = .ok (.iconst 0, 1) := by decide +kernel
theorem dX10_scale_66 : decode mX10_scale.2.1 66 = .ok (.invokevirtual 95, 3) := by decide +kernel
theorem dX10_scale_69 : decode mX10_scale.2.1 69 = .ok (.ireturn, 1) := by decide +kernel
theorem dX10_shrink_0 : decode mX10_shrink.2.1 0 = .ok (.aload_n 0, 1) := by decide +kernel
theorem dX10_shrink_1 : decode mX10_shrink.2.1 1 = .ok (.invokevirtual 285, 3) := by decide +kernel
theorem dX10_shrink_4 : decode mX10_shrink.2.1 4 = .ok (.aload_n 0, 1) := by decide +kernel
theorem dX10_shrink_5 : decode mX10_shrink.2.1 5 = .ok (.iconst 2, 1) := by decide +kernel
theorem dX10_shrink_6 : decode mX10_shrink.2.1 6 = .ok (.iconst 0, 1) := by decide +kernel
theorem dX10_shrink_7 : decode mX10_shrink.2.1 7 = .ok (.invokevirtual 264, 3) := by decide +kernel
theorem dX10_shrink_10 : decode mX10_shrink.2.1 10 = .ok (.aload_n 0, 1) := by decide +kernel
theorem dX10_shrink_11 : decode mX10_shrink.2.1 11 = .ok (.invokevirtual 78, 3) := by decide +kernel
theorem dX10_shrink_14 : decode mX10_shrink.2.1 14 = .ok (.aload_n 0, 1) := by decide +kernel
theorem dX10_shrink_15 : decode mX10_shrink.2.1 15 = .ok (.iconst 0, 1) := by decide +kernel
theorem dX10_shrink_16 : decode mX10_shrink.2.1 16 = .ok (.invokevirtual 95, 3) := by decide +kernel
theorem dX10_shrink_19 : decode mX10_shrink.2.1 19 = .ok (.ireturn, 1) := by decide +kernel
theorem dX10_draw_0 : decode mX10_draw.2.1 0 = .ok (.iload_n 2, 1) := by decide +kernel
theorem dX10_draw_1 : decode mX10_draw.2.1 1 = .ok (.i2l, 1) := by decide +kernel
theorem dX10_draw_2 : decode mX10_draw.2.1 2 = .ok (.lconst 0, 1) := by decide +kernel
theorem dX10_draw_3 : decode mX10_draw.2.1 3 = .ok (.ldc2_w 365, 3) := by decide +kernel
theorem dX10_draw_6 : decode mX10_draw.2.1 6 = .ok (.invokestatic 181, 3) := by decide +kernel
theorem dX10_draw_9 : decode mX10_draw.2.1 9 = .ok (.ifCond .ne 5, 3) := by decide +kernel
theorem dX10_draw_12 : decode mX10_draw.2.1 12 = .ok (.iconst (-1), 1) := by decide +kernel
theorem dX10_draw_13 : decode mX10_draw.2.1 13 = .ok (.ireturn, 1) := by decide +kernel
theorem dX10_draw_14 : decode mX10_draw.2.1 14 = .ok (.aload_n 0, 1) := by decide +kernel
theorem dX10_draw_15 : decode mX10_draw.2.1 15 = .ok (.iload_n 1, 1) := by decide +kernel
theorem dX10_draw_16 : decode mX10_draw.2.1 16 = .ok (.putfield 361, 3) := by decide +kernel
theorem dX10_draw_19 : decode mX10_draw.2.1 19 = .ok (.aload_n 0, 1) := by decide +kernel
theorem dX10_draw_20 : decode mX10_draw.2.1 20 = .ok (.iconst 0, 1) := by decide +kernel
theorem dX10_draw_21 : decode mX10_draw.2.1 21 = .ok (.invokevirtual 156, 3) := by decide +kernel
theorem dX10_draw_24 : decode mX10_draw.2.1 24 = .ok (.aload_n 0, 1) := by decide +kernel
theorem dX10_draw_25 : decode mX10_draw.2.1 25 = .ok (.getfield 7, 3) := by decide +kernel
theorem dX10_draw_28 : decode mX10_draw.2.1 28 = .ok (.aload_n 0, 1) := by decide +kernel
theorem dX10_draw_29 : decode mX10_draw.2.1 29 = .ok (.iconst 0, 1) := by decide +kernel
theorem dX10_draw_30 : decode mX10_draw.2.1 30 = .ok (.iconst 0, 1) := by decide +kernel
theorem dX10_draw_31 : decode mX10_draw.2.1 31 = .ok (.invokevirtual 81, 3) := by decide +kernel
theorem dX10_draw_34 : decode mX10_draw.2.1 34 = .ok (.iload_n 2, 1) := by decide +kernel
theorem dX10_draw_35 : decode mX10_draw.2.1 35 = .ok (.iastore, 1) := by decide +kernel
theorem dX10_draw_36 : decode mX10_draw.2.1 36 = .ok (.iconst 0, 1) := by decide +kernel
theorem dX10_draw_37 : decode mX10_draw.2.1 37 = .ok (.istore_n 3, 1) := by decide +kernel
theorem dX10_draw_38 : decode mX10_draw.2.1 38 = .ok (.iload_n 3, 1) := by decide +kernel
theorem dX10_draw_39 : decode mX10_draw.2.1 39 = .ok (.iload_n 2, 1) := by decide +kernel
theorem dX10_draw_40 : decode mX10_draw.2.1 40 = .ok (.if_icmp .ge 90, 3) := by decide +kernel
theorem dX10_draw_43 : decode mX10_draw.2.1 43 = .ok (.aload_n 0, 1) := by decide +kernel
theorem dX10_draw_44 : decode mX10_draw.2.1 44 = .ok (.getfield 7, 3) := by decide +kernel
theorem dX10_draw_47 : decode mX10_draw.2.1 47 = .ok (.aload_n 0, 1) := by decide +kernel
theorem dX10_draw_48 : decode mX10_draw.2.1 48 = .ok (.iconst 0, 1) := by decide +kernel
theorem dX10_draw_49 : decode mX10_draw.2.1 49 = .ok (.iconst 1, 1) := by decide +kernel
theorem dX10_draw_50 : decode mX10_draw.2.1 50 = .ok (.iload_n 3, 1) := by decide +kernel
theorem dX10_draw_51 : decode mX10_draw.2.1 51 = .ok (.iadd, 1) := by decide +kernel
theorem dX10_draw_52 : decode mX10_draw.2.1 52 = .ok (.invokevirtual 81, 3) := by decide +kernel
theorem dX10_draw_55 : decode mX10_draw.2.1 55 = .ok (.aload_n 0, 1) := by decide +kernel
theorem dX10_draw_56 : decode mX10_draw.2.1 56 = .ok (.invokevirtual 367, 3) := by decide +kernel
theorem dX10_draw_59 : decode mX10_draw.2.1 59 = .ok (.iastore, 1) := by decide +kernel
theorem dX10_draw_60 : decode mX10_draw.2.1 60 = .ok (.aload_n 0, 1) := by decide +kernel
theorem dX10_draw_61 : decode mX10_draw.2.1 61 = .ok (.getfield 7, 3) := by decide +kernel
theorem dX10_draw_64 : decode mX10_draw.2.1 64 = .ok (.aload_n 0, 1) := by decide +kernel
theorem dX10_draw_65 : decode mX10_draw.2.1 65 = .ok (.iconst 0, 1) := by decide +kernel
theorem dX10_draw_66 : decode mX10_draw.2.1 66 = .ok (.iconst 5, 1) := by decide +kernel
theorem dX10_draw_67 : decode mX10_draw.2.1 67 = .ok (.iload_n 3, 1) := by decide +kernel
theorem dX10_draw_68 : decode mX10_draw.2.1 68 = .ok (.iadd, 1) := by decide +kernel
theorem dX10_draw_69 : decode mX10_draw.2.1 69 = .ok (.invokevirtual 81, 3) := by decide +kernel
theorem dX10_draw_72 : decode mX10_draw.2.1 72 = .ok (.aload_n 0, 1) := by decide +kernel
theorem dX10_draw_73 : decode mX10_draw.2.1 73 = .ok (.invokevirtual 367, 3) := by decide +kernel
theorem dX10_draw_76 : decode mX10_draw.2.1 76 = .ok (.iastore, 1) := by decide +kernel
theorem dX10_draw_77 : decode mX10_draw.2.1 77 = .ok (.iconst 0, 1) := by decide +kernel
theorem dX10_draw_78 : decode mX10_draw.2.1 78 = .ok (.istore 4, 2) := by decide +kernel
theorem dX10_draw_80 : decode mX10_draw.2.1 80 = .ok (.iload 4, 2) := by decide +kernel
theorem dX10_draw_82 : decode mX10_draw.2.1 82 = .ok (.aload_n 0, 1) := by decide +kernel
theorem dX10_draw_83 : decode mX10_draw.2.1 83 = .ok (.getfield 17, 3) := by decide +kernel
theorem dX10_draw_86 : decode mX10_draw.2.1 86 = .ok (.if_icmp .ge 38, 3) := by decide +kernel
theorem dX10_draw_89 : decode mX10_draw.2.1 89 = .ok (.iconst 0, 1) := by decide +kernel
theorem dX10_draw_90 : decode mX10_draw.2.1 90 = .ok (.istore 5, 2) := by decide +kernel
theorem dX10_draw_92 : decode mX10_draw.2.1 92 = .ok (.iload 5, 2) := by decide +kernel
theorem dX10_draw_94 : decode mX10_draw.2.1 94 = .ok (.iload_n 2, 1) := by decide +kernel
theorem dX10_draw_95 : decode mX10_draw.2.1 95 = .ok (.if_icmp .ge 23, 3) := by decide +kernel
theorem dX10_draw_98 : decode mX10_draw.2.1 98 = .ok (.aload_n 0, 1) := by decide +kernel
theorem dX10_draw_99 : decode mX10_draw.2.1 99 = .ok (.iconst 0, 1) := by decide +kernel
theorem dX10_draw_100 : decode mX10_draw.2.1 100 = .ok (.iload_n 3, 1) := by decide +kernel
theorem dX10_draw_101 : decode mX10_draw.2.1 101 = .ok (.iload 4, 2) := by decide +kernel
theorem dX10_draw_103 : decode mX10_draw.2.1 103 = .ok (.iload 5, 2) := by decide +kernel
theorem dX10_draw_105 : decode mX10_draw.2.1 105 = .ok (.aload_n 0, 1) := by decide +kernel
theorem dX10_draw_106 : decode mX10_draw.2.1 106 = .ok (.invokevirtual 367, 3) := by decide +kernel
theorem dX10_draw_109 : decode mX10_draw.2.1 109 = .ok (.invokevirtual 160, 3) := by decide +kernel
theorem dX10_draw_112 : decode mX10_draw.2.1 112 = .ok (.iinc 5 1, 3) := by decide +kernel
theorem dX10_draw_115 : decode mX10_draw.2.1 115 = .ok (.goto (-23), 3) := by decide +kernel
theorem dX10_draw_118 : decode mX10_draw.2.1 118 = .ok (.iinc 4 1, 3) := by decide +kernel
theorem dX10_draw_121 : decode mX10_draw.2.1 121 = .ok (.goto (-41), 3) := by decide +kernel
theorem dX10_draw_124 : decode mX10_draw.2.1 124 = .ok (.iinc 3 1, 3) := by decide +kernel
theorem dX10_draw_127 : decode mX10_draw.2.1 127 = .ok (.goto (-89), 3) := by decide +kernel
theorem dX10_draw_130 : decode mX10_draw.2.1 130 = .ok (.aload_n 0, 1) := by decide +kernel
theorem dX10_draw_131 : decode mX10_draw.2.1 131 = .ok (.invokevirtual 78, 3) := by decide +kernel
theorem dX10_draw_134 : decode mX10_draw.2.1 134 = .ok (.iconst 1, 1) := by decide +kernel
theorem dX10_draw_135 : decode mX10_draw.2.1 135 = .ok (.ireturn, 1) := by decide +kernel
theorem dX10_isShelf_0 : decode mX10_isShelf.2.1 0 = .ok (.iload_n 0, 1) := by decide +kernel
theorem dX10_isShelf_1 : decode mX10_isShelf.2.1 1 = .ok (.i2l, 1) := by decide +kernel
theorem dX10_isShelf_2 : decode mX10_isShelf.2.1 2 = .ok (.lconst 0, 1) := by decide +kernel
theorem dX10_isShelf_3 : decode mX10_isShelf.2.1 3 = .ok (.ldc2_w 227, 3) := by decide +kernel
theorem dX10_isShelf_6 : decode mX10_isShelf.2.1 6 = .ok (.invokestatic 181, 3) := by decide +kernel
theorem dX10_isShelf_9 : decode mX10_isShelf.2.1 9 = .ok (.ireturn, 1) := by decide +kernel
theorem dX10_cellFault_0 : decode mX10_cellFault.2.1 0 = .ok (.aload_n 0, 1) := by decide +kernel
theorem dX10_cellFault_1 : decode mX10_cellFault.2.1 1 = .ok (.getfield 69, 3) := by decide +kernel
theorem dX10_cellFault_4 : decode mX10_cellFault.2.1 4 = .ok (.iload_n 1, 1) := by decide +kernel
theorem dX10_cellFault_5 : decode mX10_cellFault.2.1 5 = .ok (.iaload, 1) := by decide +kernel
theorem dX10_cellFault_6 : decode mX10_cellFault.2.1 6 = .ok (.bipush (-4), 2) := by decide +kernel
theorem dX10_cellFault_8 : decode mX10_cellFault.2.1 8 = .ok (.if_icmp .ne 5, 3) := by decide +kernel
theorem dX10_cellFault_11 : decode mX10_cellFault.2.1 11 = .ok (.iconst 1, 1) := by decide +kernel
theorem dX10_cellFault_12 : decode mX10_cellFault.2.1 12 = .ok (.ireturn, 1) := by decide +kernel
theorem dX10_cellFault_13 : decode mX10_cellFault.2.1 13 = .ok (.iload_n 2, 1) := by decide +kernel
theorem dX10_cellFault_14 : decode mX10_cellFault.2.1 14 = .ok (.iconst 2, 1) := by decide +kernel
theorem dX10_cellFault_15 : decode mX10_cellFault.2.1 15 = .ok (.if_icmp .eq 15, 3) := by decide +kernel
theorem dX10_cellFault_18 : decode mX10_cellFault.2.1 18 = .ok (.iload_n 2, 1) := by decide +kernel
theorem dX10_cellFault_19 : decode mX10_cellFault.2.1 19 = .ok (.aload_n 0, 1) := by decide +kernel
theorem dX10_cellFault_20 : decode mX10_cellFault.2.1 20 = .ok (.getfield 69, 3) := by decide +kernel
theorem dX10_cellFault_23 : decode mX10_cellFault.2.1 23 = .ok (.iload_n 1, 1) := by decide +kernel
theorem dX10_cellFault_24 : decode mX10_cellFault.2.1 24 = .ok (.iaload, 1) := by decide +kernel
theorem dX10_cellFault_25 : decode mX10_cellFault.2.1 25 = .ok (.if_icmp .eq 5, 3) := by decide +kernel
theorem dX10_cellFault_28 : decode mX10_cellFault.2.1 28 = .ok (.iconst 2, 1) := by decide +kernel
theorem dX10_cellFault_29 : decode mX10_cellFault.2.1 29 = .ok (.ireturn, 1) := by decide +kernel
theorem dX10_cellFault_30 : decode mX10_cellFault.2.1 30 = .ok (.iload_n 3, 1) := by decide +kernel
theorem dX10_cellFault_31 : decode mX10_cellFault.2.1 31 = .ok (.i2l, 1) := by decide +kernel
theorem dX10_cellFault_32 : decode mX10_cellFault.2.1 32 = .ok (.lconst 0, 1) := by decide +kernel
theorem dX10_cellFault_33 : decode mX10_cellFault.2.1 33 = .ok (.aload_n 0, 1) := by decide +kernel
theorem dX10_cellFault_34 : decode mX10_cellFault.2.1 34 = .ok (.getfield 72, 3) := by decide +kernel
theorem dX10_cellFault_37 : decode mX10_cellFault.2.1 37 = .ok (.iload_n 1, 1) := by decide +kernel
theorem dX10_cellFault_38 : decode mX10_cellFault.2.1 38 = .ok (.iaload, 1) := by decide +kernel
theorem dX10_cellFault_39 : decode mX10_cellFault.2.1 39 = .ok (.iconst 1, 1) := by decide +kernel
theorem dX10_cellFault_40 : decode mX10_cellFault.2.1 40 = .ok (.isub, 1) := by decide +kernel
theorem dX10_cellFault_41 : decode mX10_cellFault.2.1 41 = .ok (.i2l, 1) := by decide +kernel
theorem dX10_cellFault_42 : decode mX10_cellFault.2.1 42 = .ok (.invokestatic 181, 3) := by decide +kernel
theorem dX10_cellFault_45 : decode mX10_cellFault.2.1 45 = .ok (.ifCond .eq 7, 3) := by decide +kernel
theorem dX10_cellFault_48 : decode mX10_cellFault.2.1 48 = .ok (.iconst 0, 1) := by decide +kernel
theorem dX10_cellFault_49 : decode mX10_cellFault.2.1 49 = .ok (.goto 4, 3) := by decide +kernel
theorem dX10_cellFault_52 : decode mX10_cellFault.2.1 52 = .ok (.iconst 3, 1) := by decide +kernel
theorem dX10_cellFault_53 : decode mX10_cellFault.2.1 53 = .ok (.ireturn, 1) := by decide +kernel
theorem dX10_foundIn_0 : decode mX10_foundIn.2.1 0 = .ok (.aload_n 0, 1) := by decide +kernel
theorem dX10_foundIn_1 : decode mX10_foundIn.2.1 1 = .ok (.iload_n 1, 1) := by decide +kernel
theorem dX10_foundIn_2 : decode mX10_foundIn.2.1 2 = .ok (.iload_n 2, 1) := by decide +kernel
theorem dX10_foundIn_3 : decode mX10_foundIn.2.1 3 = .ok (.iload_n 3, 1) := by decide +kernel
theorem dX10_foundIn_4 : decode mX10_foundIn.2.1 4 = .ok (.invokevirtual 373, 3) := by decide +kernel
theorem dX10_foundIn_7 : decode mX10_foundIn.2.1 7 = .ok (.istore 4, 2) := by decide +kernel
theorem dX10_foundIn_9 : decode mX10_foundIn.2.1 9 = .ok (.iload 4, 2) := by decide +kernel
theorem dX10_foundIn_11 : decode mX10_foundIn.2.1 11 = .ok (.ifCond .ne 23, 3) := by decide +kernel
theorem dX10_foundIn_14 : decode mX10_foundIn.2.1 14 = .ok (.aload_n 0, 1) := by decide +kernel
theorem dX10_foundIn_15 : decode mX10_foundIn.2.1 15 = .ok (.getfield 75, 3) := by decide +kernel
theorem dX10_foundIn_18 : decode mX10_foundIn.2.1 18 = .ok (.bipush 8, 2) := by decide +kernel
theorem dX10_foundIn_20 : decode mX10_foundIn.2.1 20 = .ok (.iload_n 1, 1) := by decide +kernel
theorem dX10_foundIn_21 : decode mX10_foundIn.2.1 21 = .ok (.imul, 1) := by decide +kernel
theorem dX10_foundIn_22 : decode mX10_foundIn.2.1 22 = .ok (.iload_n 3, 1) := by decide +kernel
theorem dX10_foundIn_23 : decode mX10_foundIn.2.1 23 = .ok (.iadd, 1) := by decide +kernel
theorem dX10_foundIn_24 : decode mX10_foundIn.2.1 24 = .ok (.iaload, 1) := by decide +kernel
theorem dX10_foundIn_25 : decode mX10_foundIn.2.1 25 = .ok (.bipush (-4), 2) := by decide +kernel
theorem dX10_foundIn_27 : decode mX10_foundIn.2.1 27 = .ok (.if_icmp .ne 7, 3) := by decide +kernel
theorem dX10_foundIn_30 : decode mX10_foundIn.2.1 30 = .ok (.iconst 5, 1) := by decide +kernel
theorem dX10_foundIn_31 : decode mX10_foundIn.2.1 31 = .ok (.goto 5, 3) := by decide +kernel
theorem dX10_foundIn_34 : decode mX10_foundIn.2.1 34 = .ok (.iload 4, 2) := by decide +kernel
theorem dX10_foundIn_36 : decode mX10_foundIn.2.1 36 = .ok (.ireturn, 1) := by decide +kernel
