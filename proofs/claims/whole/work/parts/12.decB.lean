theorem dX10_init_0 : decode mX10_init.2.1 0 = .ok (.aload_n 0, 1) := by decide +kernel
theorem dX10_init_1 : decode mX10_init.2.1 1 = .ok (.invokespecial 1, 3) := by decide +kernel
theorem dX10_init_4 : decode mX10_init.2.1 4 = .ok (.aload_n 0, 1) := by decide +kernel
theorem dX10_init_5 : decode mX10_init.2.1 5 = .ok (.sipush 1881, 3) := by decide +kernel
theorem dX10_init_8 : decode mX10_init.2.1 8 = .ok (.newarray .int, 2) := by decide +kernel
theorem dX10_init_10 : decode mX10_init.2.1 10 = .ok (.putfield 7, 3) := by decide +kernel
theorem dX10_init_13 : decode mX10_init.2.1 13 = .ok (.aload_n 0, 1) := by decide +kernel
theorem dX10_init_14 : decode mX10_init.2.1 14 = .ok (.bipush 7, 2) := by decide +kernel
theorem dX10_init_16 : decode mX10_init.2.1 16 = .ok (.putfield 13, 3) := by decide +kernel
theorem dX10_init_19 : decode mX10_init.2.1 19 = .ok (.aload_n 0, 1) := by decide +kernel
theorem dX10_init_20 : decode mX10_init.2.1 20 = .ok (.iconst 2, 1) := by decide +kernel
theorem dX10_init_21 : decode mX10_init.2.1 21 = .ok (.putfield 17, 3) := by decide +kernel
theorem dX10_init_24 : decode mX10_init.2.1 24 = .ok (.aload_n 0, 1) := by decide +kernel
theorem dX10_init_25 : decode mX10_init.2.1 25 = .ok (.iconst 4, 1) := by decide +kernel
theorem dX10_init_26 : decode mX10_init.2.1 26 = .ok (.newarray .int, 2) := by decide +kernel
theorem dX10_init_28 : decode mX10_init.2.1 28 = .ok (.putfield 20, 3) := by decide +kernel
theorem dX10_init_31 : decode mX10_init.2.1 31 = .ok (.aload_n 0, 1) := by decide +kernel
theorem dX10_init_32 : decode mX10_init.2.1 32 = .ok (.iconst 4, 1) := by decide +kernel
theorem dX10_init_33 : decode mX10_init.2.1 33 = .ok (.newarray .int, 2) := by decide +kernel
theorem dX10_init_35 : decode mX10_init.2.1 35 = .ok (.putfield 23, 3) := by decide +kernel
theorem dX10_init_38 : decode mX10_init.2.1 38 = .ok (.aload_n 0, 1) := by decide +kernel
theorem dX10_init_39 : decode mX10_init.2.1 39 = .ok (.sipush 300, 3) := by decide +kernel
theorem dX10_init_42 : decode mX10_init.2.1 42 = .ok (.newarray .int, 2) := by decide +kernel
theorem dX10_init_44 : decode mX10_init.2.1 44 = .ok (.putfield 26, 3) := by decide +kernel
theorem dX10_init_47 : decode mX10_init.2.1 47 = .ok (.aload_n 0, 1) := by decide +kernel
theorem dX10_init_48 : decode mX10_init.2.1 48 = .ok (.iconst 4, 1) := by decide +kernel
theorem dX10_init_49 : decode mX10_init.2.1 49 = .ok (.newarray .int, 2) := by decide +kernel
theorem dX10_init_51 : decode mX10_init.2.1 51 = .ok (.putfield 29, 3) := by decide +kernel
theorem dX10_init_54 : decode mX10_init.2.1 54 = .ok (.aload_n 0, 1) := by decide +kernel
theorem dX10_init_55 : decode mX10_init.2.1 55 = .ok (.iconst 5, 1) := by decide +kernel
theorem dX10_init_56 : decode mX10_init.2.1 56 = .ok (.newarray .int, 2) := by decide +kernel
theorem dX10_init_58 : decode mX10_init.2.1 58 = .ok (.putfield 32, 3) := by decide +kernel
theorem dX10_init_61 : decode mX10_init.2.1 61 = .ok (.aload_n 0, 1) := by decide +kernel
theorem dX10_init_62 : decode mX10_init.2.1 62 = .ok (.bipush 60, 2) := by decide +kernel
theorem dX10_init_64 : decode mX10_init.2.1 64 = .ok (.newarray .int, 2) := by decide +kernel
theorem dX10_init_66 : decode mX10_init.2.1 66 = .ok (.putfield 35, 3) := by decide +kernel
theorem dX10_init_69 : decode mX10_init.2.1 69 = .ok (.aload_n 0, 1) := by decide +kernel
theorem dX10_init_70 : decode mX10_init.2.1 70 = .ok (.iconst 5, 1) := by decide +kernel
theorem dX10_init_71 : decode mX10_init.2.1 71 = .ok (.newarray .int, 2) := by decide +kernel
theorem dX10_init_73 : decode mX10_init.2.1 73 = .ok (.putfield 38, 3) := by decide +kernel
theorem dX10_init_76 : decode mX10_init.2.1 76 = .ok (.aload_n 0, 1) := by decide +kernel
theorem dX10_init_77 : decode mX10_init.2.1 77 = .ok (.sipush 200, 3) := by decide +kernel
theorem dX10_init_80 : decode mX10_init.2.1 80 = .ok (.newarray .int, 2) := by decide +kernel
theorem dX10_init_82 : decode mX10_init.2.1 82 = .ok (.putfield 41, 3) := by decide +kernel
theorem dX10_init_85 : decode mX10_init.2.1 85 = .ok (.aload_n 0, 1) := by decide +kernel
theorem dX10_init_86 : decode mX10_init.2.1 86 = .ok (.bipush 7, 2) := by decide +kernel
theorem dX10_init_88 : decode mX10_init.2.1 88 = .ok (.newarray .int, 2) := by decide +kernel
theorem dX10_init_90 : decode mX10_init.2.1 90 = .ok (.dup, 1) := by decide +kernel
theorem dX10_init_91 : decode mX10_init.2.1 91 = .ok (.iconst 0, 1) := by decide +kernel
theorem dX10_init_92 : decode mX10_init.2.1 92 = .ok (.iconst 0, 1) := by decide +kernel
theorem dX10_init_93 : decode mX10_init.2.1 93 = .ok (.iastore, 1) := by decide +kernel
theorem dX10_init_94 : decode mX10_init.2.1 94 = .ok (.dup, 1) := by decide +kernel
theorem dX10_init_95 : decode mX10_init.2.1 95 = .ok (.iconst 1, 1) := by decide +kernel
theorem dX10_init_96 : decode mX10_init.2.1 96 = .ok (.iconst 5, 1) := by decide +kernel
theorem dX10_init_97 : decode mX10_init.2.1 97 = .ok (.iastore, 1) := by decide +kernel
theorem dX10_init_98 : decode mX10_init.2.1 98 = .ok (.dup, 1) := by decide +kernel
theorem dX10_init_99 : decode mX10_init.2.1 99 = .ok (.iconst 2, 1) := by decide +kernel
theorem dX10_init_100 : decode mX10_init.2.1 100 = .ok (.bipush 12, 2) := by decide +kernel
theorem dX10_init_102 : decode mX10_init.2.1 102 = .ok (.iastore, 1) := by decide +kernel
theorem dX10_init_103 : decode mX10_init.2.1 103 = .ok (.dup, 1) := by decide +kernel
theorem dX10_init_104 : decode mX10_init.2.1 104 = .ok (.iconst 3, 1) := by decide +kernel
theorem dX10_init_105 : decode mX10_init.2.1 105 = .ok (.bipush 18, 2) := by decide +kernel
theorem dX10_init_107 : decode mX10_init.2.1 107 = .ok (.iastore, 1) := by decide +kernel
theorem dX10_init_108 : decode mX10_init.2.1 108 = .ok (.dup, 1) := by decide +kernel
theorem dX10_init_109 : decode mX10_init.2.1 109 = .ok (.iconst 4, 1) := by decide +kernel
theorem dX10_init_110 : decode mX10_init.2.1 110 = .ok (.bipush 23, 2) := by decide +kernel
theorem dX10_init_112 : decode mX10_init.2.1 112 = .ok (.iastore, 1) := by decide +kernel
theorem dX10_init_113 : decode mX10_init.2.1 113 = .ok (.dup, 1) := by decide +kernel
theorem dX10_init_114 : decode mX10_init.2.1 114 = .ok (.iconst 5, 1) := by decide +kernel
theorem dX10_init_115 : decode mX10_init.2.1 115 = .ok (.bipush 26, 2) := by decide +kernel
theorem dX10_init_117 : decode mX10_init.2.1 117 = .ok (.iastore, 1) := by decide +kernel
theorem dX10_init_118 : decode mX10_init.2.1 118 = .ok (.dup, 1) := by decide +kernel
theorem dX10_init_119 : decode mX10_init.2.1 119 = .ok (.bipush 6, 2) := by decide +kernel
theorem dX10_init_121 : decode mX10_init.2.1 121 = .ok (.bipush 30, 2) := by decide +kernel
theorem dX10_init_123 : decode mX10_init.2.1 123 = .ok (.iastore, 1) := by decide +kernel
theorem dX10_init_124 : decode mX10_init.2.1 124 = .ok (.putfield 44, 3) := by decide +kernel
theorem dX10_init_127 : decode mX10_init.2.1 127 = .ok (.aload_n 0, 1) := by decide +kernel
theorem dX10_init_128 : decode mX10_init.2.1 128 = .ok (.bipush 30, 2) := by decide +kernel
theorem dX10_init_130 : decode mX10_init.2.1 130 = .ok (.newarray .int, 2) := by decide +kernel
theorem dX10_init_132 : decode mX10_init.2.1 132 = .ok (.dup, 1) := by decide +kernel
theorem dX10_init_133 : decode mX10_init.2.1 133 = .ok (.iconst 0, 1) := by decide +kernel
theorem dX10_init_134 : decode mX10_init.2.1 134 = .ok (.bipush 112, 2) := by decide +kernel
theorem dX10_init_136 : decode mX10_init.2.1 136 = .ok (.iastore, 1) := by decide +kernel
theorem dX10_init_137 : decode mX10_init.2.1 137 = .ok (.dup, 1) := by decide +kernel
theorem dX10_init_138 : decode mX10_init.2.1 138 = .ok (.iconst 1, 1) := by decide +kernel
theorem dX10_init_139 : decode mX10_init.2.1 139 = .ok (.bipush 114, 2) := by decide +kernel
theorem dX10_init_141 : decode mX10_init.2.1 141 = .ok (.iastore, 1) := by decide +kernel
theorem dX10_init_142 : decode mX10_init.2.1 142 = .ok (.dup, 1) := by decide +kernel
theorem dX10_init_143 : decode mX10_init.2.1 143 = .ok (.iconst 2, 1) := by decide +kernel
theorem dX10_init_144 : decode mX10_init.2.1 144 = .ok (.bipush 105, 2) := by decide +kernel
theorem dX10_init_146 : decode mX10_init.2.1 146 = .ok (.iastore, 1) := by decide +kernel
theorem dX10_init_147 : decode mX10_init.2.1 147 = .ok (.dup, 1) := by decide +kernel
theorem dX10_init_148 : decode mX10_init.2.1 148 = .ok (.iconst 3, 1) := by decide +kernel
theorem dX10_init_149 : decode mX10_init.2.1 149 = .ok (.bipush 109, 2) := by decide +kernel
theorem dX10_init_151 : decode mX10_init.2.1 151 = .ok (.iastore, 1) := by decide +kernel
theorem dX10_init_152 : decode mX10_init.2.1 152 = .ok (.dup, 1) := by decide +kernel
theorem dX10_init_153 : decode mX10_init.2.1 153 = .ok (.iconst 4, 1) := by decide +kernel
theorem dX10_init_154 : decode mX10_init.2.1 154 = .ok (.bipush 101, 2) := by decide +kernel
theorem dX10_init_156 : decode mX10_init.2.1 156 = .ok (.iastore, 1) := by decide +kernel
theorem dX10_init_157 : decode mX10_init.2.1 157 = .ok (.dup, 1) := by decide +kernel
theorem dX10_init_158 : decode mX10_init.2.1 158 = .ok (.iconst 5, 1) := by decide +kernel
theorem dX10_init_159 : decode mX10_init.2.1 159 = .ok (.bipush 108, 2) := by decide +kernel
theorem dX10_init_161 : decode mX10_init.2.1 161 = .ok (.iastore, 1) := by decide +kernel
theorem dX10_init_162 : decode mX10_init.2.1 162 = .ok (.dup, 1) := by decide +kernel
theorem dX10_init_163 : decode mX10_init.2.1 163 = .ok (.bipush 6, 2) := by decide +kernel
theorem dX10_init_165 : decode mX10_init.2.1 165 = .ok (.bipush 101, 2) := by decide +kernel
theorem dX10_init_167 : decode mX10_init.2.1 167 = .ok (.iastore, 1) := by decide +kernel
theorem dX10_init_168 : decode mX10_init.2.1 168 = .ok (.dup, 1) := by decide +kernel
theorem dX10_init_169 : decode mX10_init.2.1 169 = .ok (.bipush 7, 2) := by decide +kernel
theorem dX10_init_171 : decode mX10_init.2.1 171 = .ok (.bipush 116, 2) := by decide +kernel
theorem dX10_init_173 : decode mX10_init.2.1 173 = .ok (.iastore, 1) := by decide +kernel
theorem dX10_init_174 : decode mX10_init.2.1 174 = .ok (.dup, 1) := by decide +kernel
theorem dX10_init_175 : decode mX10_init.2.1 175 = .ok (.bipush 8, 2) := by decide +kernel
theorem dX10_init_177 : decode mX10_init.2.1 177 = .ok (.bipush 116, 2) := by decide +kernel
theorem dX10_init_179 : decode mX10_init.2.1 179 = .ok (.iastore, 1) := by decide +kernel
theorem dX10_init_180 : decode mX10_init.2.1 180 = .ok (.dup, 1) := by decide +kernel
theorem dX10_init_181 : decode mX10_init.2.1 181 = .ok (.bipush 9, 2) := by decide +kernel
theorem dX10_init_183 : decode mX10_init.2.1 183 = .ok (.bipush 101, 2) := by decide +kernel
theorem dX10_init_185 : decode mX10_init.2.1 185 = .ok (.iastore, 1) := by decide +kernel
theorem dX10_init_186 : decode mX10_init.2.1 186 = .ok (.dup, 1) := by decide +kernel
theorem dX10_init_187 : decode mX10_init.2.1 187 = .ok (.bipush 10, 2) := by decide +kernel
theorem dX10_init_189 : decode mX10_init.2.1 189 = .ok (.bipush 114, 2) := by decide +kernel
theorem dX10_init_191 : decode mX10_init.2.1 191 = .ok (.iastore, 1) := by decide +kernel
theorem dX10_init_192 : decode mX10_init.2.1 192 = .ok (.dup, 1) := by decide +kernel
theorem dX10_init_193 : decode mX10_init.2.1 193 = .ok (.bipush 11, 2) := by decide +kernel
theorem dX10_init_195 : decode mX10_init.2.1 195 = .ok (.bipush 115, 2) := by decide +kernel
theorem dX10_init_197 : decode mX10_init.2.1 197 = .ok (.iastore, 1) := by decide +kernel
theorem dX10_init_198 : decode mX10_init.2.1 198 = .ok (.dup, 1) := by decide +kernel
theorem dX10_init_199 : decode mX10_init.2.1 199 = .ok (.bipush 12, 2) := by decide +kernel
theorem dX10_init_201 : decode mX10_init.2.1 201 = .ok (.bipush 115, 2) := by decide +kernel
theorem dX10_init_203 : decode mX10_init.2.1 203 = .ok (.iastore, 1) := by decide +kernel
theorem dX10_init_204 : decode mX10_init.2.1 204 = .ok (.dup, 1) := by decide +kernel
theorem dX10_init_205 : decode mX10_init.2.1 205 = .ok (.bipush 13, 2) := by decide +kernel
theorem dX10_init_207 : decode mX10_init.2.1 207 = .ok (.bipush 116, 2) := by decide +kernel
theorem dX10_init_209 : decode mX10_init.2.1 209 = .ok (.iastore, 1) := by decide +kernel
theorem dX10_init_210 : decode mX10_init.2.1 210 = .ok (.dup, 1) := by decide +kernel
theorem dX10_init_211 : decode mX10_init.2.1 211 = .ok (.bipush 14, 2) := by decide +kernel
theorem dX10_init_213 : decode mX10_init.2.1 213 = .ok (.bipush 97, 2) := by decide +kernel
theorem dX10_init_215 : decode mX10_init.2.1 215 = .ok (.iastore, 1) := by decide +kernel
theorem dX10_init_216 : decode mX10_init.2.1 216 = .ok (.dup, 1) := by decide +kernel
theorem dX10_init_217 : decode mX10_init.2.1 217 = .ok (.bipush 15, 2) := by decide +kernel
theorem dX10_init_219 : decode mX10_init.2.1 219 = .ok (.bipush 116, 2) := by decide +kernel
theorem dX10_init_221 : decode mX10_init.2.1 221 = .ok (.iastore, 1) := by decide +kernel
theorem dX10_init_222 : decode mX10_init.2.1 222 = .ok (.dup, 1) := by decide +kernel
theorem dX10_init_223 : decode mX10_init.2.1 223 = .ok (.bipush 16, 2) := by decide +kernel
theorem dX10_init_225 : decode mX10_init.2.1 225 = .ok (.bipush 101, 2) := by decide +kernel
theorem dX10_init_227 : decode mX10_init.2.1 227 = .ok (.iastore, 1) := by decide +kernel
theorem dX10_init_228 : decode mX10_init.2.1 228 = .ok (.dup, 1) := by decide +kernel
theorem dX10_init_229 : decode mX10_init.2.1 229 = .ok (.bipush 17, 2) := by decide +kernel
theorem dX10_init_231 : decode mX10_init.2.1 231 = .ok (.bipush 115, 2) := by decide +kernel
theorem dX10_init_233 : decode mX10_init.2.1 233 = .ok (.iastore, 1) := by decide +kernel
theorem dX10_init_234 : decode mX10_init.2.1 234 = .ok (.dup, 1) := by decide +kernel
theorem dX10_init_235 : decode mX10_init.2.1 235 = .ok (.bipush 18, 2) := by decide +kernel
theorem dX10_init_237 : decode mX10_init.2.1 237 = .ok (.bipush 115, 2) := by decide +kernel
theorem dX10_init_239 : decode mX10_init.2.1 239 = .ok (.iastore, 1) := by decide +kernel
theorem dX10_init_240 : decode mX10_init.2.1 240 = .ok (.dup, 1) := by decide +kernel
theorem dX10_init_241 : decode mX10_init.2.1 241 = .ok (.bipush 19, 2) := by decide +kernel
theorem dX10_init_243 : decode mX10_init.2.1 243 = .ok (.bipush 116, 2) := by decide +kernel
theorem dX10_init_245 : decode mX10_init.2.1 245 = .ok (.iastore, 1) := by decide +kernel
theorem dX10_init_246 : decode mX10_init.2.1 246 = .ok (.dup, 1) := by decide +kernel
theorem dX10_init_247 : decode mX10_init.2.1 247 = .ok (.bipush 20, 2) := by decide +kernel
theorem dX10_init_249 : decode mX10_init.2.1 249 = .ok (.bipush 97, 2) := by decide +kernel
theorem dX10_init_251 : decode mX10_init.2.1 251 = .ok (.iastore, 1) := by decide +kernel
theorem dX10_init_252 : decode mX10_init.2.1 252 = .ok (.dup, 1) := by decide +kernel
theorem dX10_init_253 : decode mX10_init.2.1 253 = .ok (.bipush 21, 2) := by decide +kernel
theorem dX10_init_255 : decode mX10_init.2.1 255 = .ok (.bipush 114, 2) := by decide +kernel
theorem dX10_init_257 : decode mX10_init.2.1 257 = .ok (.iastore, 1) := by decide +kernel
theorem dX10_init_258 : decode mX10_init.2.1 258 = .ok (.dup, 1) := by decide +kernel
theorem dX10_init_259 : decode mX10_init.2.1 259 = .ok (.bipush 22, 2) := by decide +kernel
theorem dX10_init_261 : decode mX10_init.2.1 261 = .ok (.bipush 116, 2) := by decide +kernel
theorem dX10_init_263 : decode mX10_init.2.1 263 = .ok (.iastore, 1) := by decide +kernel
theorem dX10_init_264 : decode mX10_init.2.1 264 = .ok (.dup, 1) := by decide +kernel
theorem dX10_init_265 : decode mX10_init.2.1 265 = .ok (.bipush 23, 2) := by decide +kernel
theorem dX10_init_267 : decode mX10_init.2.1 267 = .ok (.bipush 101, 2) := by decide +kernel
theorem dX10_init_269 : decode mX10_init.2.1 269 = .ok (.iastore, 1) := by decide +kernel
theorem dX10_init_270 : decode mX10_init.2.1 270 = .ok (.dup, 1) := by decide +kernel
theorem dX10_init_271 : decode mX10_init.2.1 271 = .ok (.bipush 24, 2) := by decide +kernel
theorem dX10_init_273 : decode mX10_init.2.1 273 = .ok (.bipush 110, 2) := by decide +kernel
theorem dX10_init_275 : decode mX10_init.2.1 275 = .ok (.iastore, 1) := by decide +kernel
theorem dX10_init_276 : decode mX10_init.2.1 276 = .ok (.dup, 1) := by decide +kernel
theorem dX10_init_277 : decode mX10_init.2.1 277 = .ok (.bipush 25, 2) := by decide +kernel
theorem dX10_init_279 : decode mX10_init.2.1 279 = .ok (.bipush 100, 2) := by decide +kernel
theorem dX10_init_281 : decode mX10_init.2.1 281 = .ok (.iastore, 1) := by decide +kernel
theorem dX10_init_282 : decode mX10_init.2.1 282 = .ok (.dup, 1) := by decide +kernel
theorem dX10_init_283 : decode mX10_init.2.1 283 = .ok (.bipush 26, 2) := by decide +kernel
theorem dX10_init_285 : decode mX10_init.2.1 285 = .ok (.bipush 101, 2) := by decide +kernel
theorem dX10_init_287 : decode mX10_init.2.1 287 = .ok (.iastore, 1) := by decide +kernel
theorem dX10_init_288 : decode mX10_init.2.1 288 = .ok (.dup, 1) := by decide +kernel
theorem dX10_init_289 : decode mX10_init.2.1 289 = .ok (.bipush 27, 2) := by decide +kernel
theorem dX10_init_291 : decode mX10_init.2.1 291 = .ok (.bipush 100, 2) := by decide +kernel
theorem dX10_init_293 : decode mX10_init.2.1 293 = .ok (.iastore, 1) := by decide +kernel
theorem dX10_init_294 : decode mX10_init.2.1 294 = .ok (.dup, 1) := by decide +kernel
theorem dX10_init_295 : decode mX10_init.2.1 295 = .ok (.bipush 28, 2) := by decide +kernel
theorem dX10_init_297 : decode mX10_init.2.1 297 = .ok (.bipush 103, 2) := by decide +kernel
theorem dX10_init_299 : decode mX10_init.2.1 299 = .ok (.iastore, 1) := by decide +kernel
theorem dX10_init_300 : decode mX10_init.2.1 300 = .ok (.dup, 1) := by decide +kernel
theorem dX10_init_301 : decode mX10_init.2.1 301 = .ok (.bipush 29, 2) := by decide +kernel
theorem dX10_init_303 : decode mX10_init.2.1 303 = .ok (.bipush 101, 2) := by decide +kernel
theorem dX10_init_305 : decode mX10_init.2.1 305 = .ok (.iastore, 1) := by decide +kernel
theorem dX10_init_306 : decode mX10_init.2.1 306 = .ok (.putfield 47, 3) := by decide +kernel
theorem dX10_init_309 : decode mX10_init.2.1 309 = .ok (.aload_n 0, 1) := by decide +kernel
theorem dX10_init_310 : decode mX10_init.2.1 310 = .ok (.iconst 3, 1) := by decide +kernel
theorem dX10_init_311 : decode mX10_init.2.1 311 = .ok (.newarray .boolean, 2) := by decide +kernel
theorem dX10_init_313 : decode mX10_init.2.1 313 = .ok (.putfield 50, 3) := by decide +kernel
theorem dX10_init_316 : decode mX10_init.2.1 316 = .ok (.aload_n 0, 1) := by decide +kernel
theorem dX10_init_317 : decode mX10_init.2.1 317 = .ok (.sipush 1000, 3) := by decide +kernel
theorem dX10_init_320 : decode mX10_init.2.1 320 = .ok (.newarray .int, 2) := by decide +kernel
theorem dX10_init_322 : decode mX10_init.2.1 322 = .ok (.putfield 54, 3) := by decide +kernel
theorem dX10_init_325 : decode mX10_init.2.1 325 = .ok (.aload_n 0, 1) := by decide +kernel
theorem dX10_init_326 : decode mX10_init.2.1 326 = .ok (.bipush 12, 2) := by decide +kernel
theorem dX10_init_328 : decode mX10_init.2.1 328 = .ok (.newarray .int, 2) := by decide +kernel
theorem dX10_init_330 : decode mX10_init.2.1 330 = .ok (.putfield 57, 3) := by decide +kernel
theorem dX10_init_333 : decode mX10_init.2.1 333 = .ok (.aload_n 0, 1) := by decide +kernel
theorem dX10_init_334 : decode mX10_init.2.1 334 = .ok (.bipush 16, 2) := by decide +kernel
theorem dX10_init_336 : decode mX10_init.2.1 336 = .ok (.newarray .int, 2) := by decide +kernel
theorem dX10_init_338 : decode mX10_init.2.1 338 = .ok (.putfield 60, 3) := by decide +kernel
theorem dX10_init_341 : decode mX10_init.2.1 341 = .ok (.aload_n 0, 1) := by decide +kernel
theorem dX10_init_342 : decode mX10_init.2.1 342 = .ok (.iconst 2, 1) := by decide +kernel
theorem dX10_init_343 : decode mX10_init.2.1 343 = .ok (.newarray .boolean, 2) := by decide +kernel
theorem dX10_init_345 : decode mX10_init.2.1 345 = .ok (.putfield 63, 3) := by decide +kernel
theorem dX10_init_348 : decode mX10_init.2.1 348 = .ok (.aload_n 0, 1) := by decide +kernel
theorem dX10_init_349 : decode mX10_init.2.1 349 = .ok (.sipush 140, 3) := by decide +kernel
theorem dX10_init_352 : decode mX10_init.2.1 352 = .ok (.newarray .int, 2) := by decide +kernel
theorem dX10_init_354 : decode mX10_init.2.1 354 = .ok (.putfield 66, 3) := by decide +kernel
theorem dX10_init_357 : decode mX10_init.2.1 357 = .ok (.aload_n 0, 1) := by decide +kernel
theorem dX10_init_358 : decode mX10_init.2.1 358 = .ok (.iconst 3, 1) := by decide +kernel
theorem dX10_init_359 : decode mX10_init.2.1 359 = .ok (.newarray .int, 2) := by decide +kernel
theorem dX10_init_361 : decode mX10_init.2.1 361 = .ok (.putfield 69, 3) := by decide +kernel
theorem dX10_init_364 : decode mX10_init.2.1 364 = .ok (.aload_n 0, 1) := by decide +kernel
theorem dX10_init_365 : decode mX10_init.2.1 365 = .ok (.iconst 3, 1) := by decide +kernel
theorem dX10_init_366 : decode mX10_init.2.1 366 = .ok (.newarray .int, 2) := by decide +kernel
theorem dX10_init_368 : decode mX10_init.2.1 368 = .ok (.putfield 72, 3) := by decide +kernel
theorem dX10_init_371 : decode mX10_init.2.1 371 = .ok (.aload_n 0, 1) := by decide +kernel
theorem dX10_init_372 : decode mX10_init.2.1 372 = .ok (.bipush 24, 2) := by decide +kernel
theorem dX10_init_374 : decode mX10_init.2.1 374 = .ok (.newarray .int, 2) := by decide +kernel
theorem dX10_init_376 : decode mX10_init.2.1 376 = .ok (.putfield 75, 3) := by decide +kernel
theorem dX10_init_379 : decode mX10_init.2.1 379 = .ok (.iconst 0, 1) := by decide +kernel
theorem dX10_init_380 : decode mX10_init.2.1 380 = .ok (.istore_n 1, 1) := by decide +kernel
theorem dX10_init_381 : decode mX10_init.2.1 381 = .ok (.iload_n 1, 1) := by decide +kernel
theorem dX10_init_382 : decode mX10_init.2.1 382 = .ok (.iconst 3, 1) := by decide +kernel
theorem dX10_init_383 : decode mX10_init.2.1 383 = .ok (.if_icmp .ge 17, 3) := by decide +kernel
theorem dX10_init_386 : decode mX10_init.2.1 386 = .ok (.aload_n 0, 1) := by decide +kernel
theorem dX10_init_387 : decode mX10_init.2.1 387 = .ok (.getfield 69, 3) := by decide +kernel
theorem dX10_init_390 : decode mX10_init.2.1 390 = .ok (.iload_n 1, 1) := by decide +kernel
theorem dX10_init_391 : decode mX10_init.2.1 391 = .ok (.bipush (-4), 2) := by decide +kernel
theorem dX10_init_393 : decode mX10_init.2.1 393 = .ok (.iastore, 1) := by decide +kernel
theorem dX10_init_394 : decode mX10_init.2.1 394 = .ok (.iinc 1 1, 3) := by decide +kernel
theorem dX10_init_397 : decode mX10_init.2.1 397 = .ok (.goto (-16), 3) := by decide +kernel
theorem dX10_init_400 : decode mX10_init.2.1 400 = .ok (.aload_n 0, 1) := by decide +kernel
theorem dX10_init_401 : decode mX10_init.2.1 401 = .ok (.invokevirtual 78, 3) := by decide +kernel
theorem dX10_init_404 : decode mX10_init.2.1 404 = .ok (.return_, 1) := by decide +kernel
theorem dX10_feed_0 : decode mX10_feed.2.1 0 = .ok (.iload_n 1, 1) := by decide +kernel
theorem dX10_feed_1 : decode mX10_feed.2.1 1 = .ok (.i2l, 1) := by decide +kernel
theorem dX10_feed_2 : decode mX10_feed.2.1 2 = .ok (.lconst 0, 1) := by decide +kernel
theorem dX10_feed_3 : decode mX10_feed.2.1 3 = .ok (.ldc2_w 179, 3) := by decide +kernel
theorem dX10_feed_6 : decode mX10_feed.2.1 6 = .ok (.invokestatic 181, 3) := by decide +kernel
theorem dX10_feed_9 : decode mX10_feed.2.1 9 = .ok (.ifCond .ne 5, 3) := by decide +kernel
theorem dX10_feed_12 : decode mX10_feed.2.1 12 = .ok (.iconst (-1), 1) := by decide +kernel
theorem dX10_feed_13 : decode mX10_feed.2.1 13 = .ok (.ireturn, 1) := by decide +kernel
theorem dX10_feed_14 : decode mX10_feed.2.1 14 = .ok (.aload_n 0, 1) := by decide +kernel
theorem dX10_feed_15 : decode mX10_feed.2.1 15 = .ok (.getfield 185, 3) := by decide +kernel
theorem dX10_feed_18 : decode mX10_feed.2.1 18 = .ok (.sipush 200, 3) := by decide +kernel
theorem dX10_feed_21 : decode mX10_feed.2.1 21 = .ok (.if_icmp .ne 6, 3) := by decide +kernel
theorem dX10_feed_24 : decode mX10_feed.2.1 24 = .ok (.bipush (-3), 2) := by decide +kernel
theorem dX10_feed_26 : decode mX10_feed.2.1 26 = .ok (.ireturn, 1) := by decide +kernel
theorem dX10_feed_27 : decode mX10_feed.2.1 27 = .ok (.aload_n 0, 1) := by decide +kernel
theorem dX10_feed_28 : decode mX10_feed.2.1 28 = .ok (.getfield 41, 3) := by decide +kernel
theorem dX10_feed_31 : decode mX10_feed.2.1 31 = .ok (.aload_n 0, 1) := by decide +kernel
theorem dX10_feed_32 : decode mX10_feed.2.1 32 = .ok (.getfield 185, 3) := by decide +kernel
theorem dX10_feed_35 : decode mX10_feed.2.1 35 = .ok (.iload_n 1, 1) := by decide +kernel
theorem dX10_feed_36 : decode mX10_feed.2.1 36 = .ok (.iastore, 1) := by decide +kernel
theorem dX10_feed_37 : decode mX10_feed.2.1 37 = .ok (.aload_n 0, 1) := by decide +kernel
theorem dX10_feed_38 : decode mX10_feed.2.1 38 = .ok (.dup, 1) := by decide +kernel
theorem dX10_feed_39 : decode mX10_feed.2.1 39 = .ok (.getfield 185, 3) := by decide +kernel
theorem dX10_feed_42 : decode mX10_feed.2.1 42 = .ok (.iconst 1, 1) := by decide +kernel
theorem dX10_feed_43 : decode mX10_feed.2.1 43 = .ok (.iadd, 1) := by decide +kernel
theorem dX10_feed_44 : decode mX10_feed.2.1 44 = .ok (.putfield 185, 3) := by decide +kernel
theorem dX10_feed_47 : decode mX10_feed.2.1 47 = .ok (.aload_n 0, 1) := by decide +kernel
theorem dX10_feed_48 : decode mX10_feed.2.1 48 = .ok (.getfield 185, 3) := by decide +kernel
theorem dX10_feed_51 : decode mX10_feed.2.1 51 = .ok (.ireturn, 1) := by decide +kernel
theorem dX10_end_0 : decode mX10_end.2.1 0 = .ok (.iload_n 1, 1) := by decide +kernel
theorem dX10_end_1 : decode mX10_end.2.1 1 = .ok (.i2l, 1) := by decide +kernel
theorem dX10_end_2 : decode mX10_end.2.1 2 = .ok (.lconst 0, 1) := by decide +kernel
theorem dX10_end_3 : decode mX10_end.2.1 3 = .ok (.aload_n 0, 1) := by decide +kernel
theorem dX10_end_4 : decode mX10_end.2.1 4 = .ok (.getfield 185, 3) := by decide +kernel
theorem dX10_end_7 : decode mX10_end.2.1 7 = .ok (.i2l, 1) := by decide +kernel
theorem dX10_end_8 : decode mX10_end.2.1 8 = .ok (.invokestatic 181, 3) := by decide +kernel
theorem dX10_end_11 : decode mX10_end.2.1 11 = .ok (.ifCond .ne 5, 3) := by decide +kernel
theorem dX10_end_14 : decode mX10_end.2.1 14 = .ok (.iconst (-1), 1) := by decide +kernel
theorem dX10_end_15 : decode mX10_end.2.1 15 = .ok (.ireturn, 1) := by decide +kernel
theorem dX10_end_16 : decode mX10_end.2.1 16 = .ok (.aload_n 0, 1) := by decide +kernel
theorem dX10_end_17 : decode mX10_end.2.1 17 = .ok (.getfield 185, 3) := by decide +kernel
theorem dX10_end_20 : decode mX10_end.2.1 20 = .ok (.istore_n 2, 1) := by decide +kernel
theorem dX10_end_21 : decode mX10_end.2.1 21 = .ok (.aload_n 0, 1) := by decide +kernel
theorem dX10_end_22 : decode mX10_end.2.1 22 = .ok (.iload_n 1, 1) := by decide +kernel
theorem dX10_end_23 : decode mX10_end.2.1 23 = .ok (.putfield 185, 3) := by decide +kernel
theorem dX10_end_26 : decode mX10_end.2.1 26 = .ok (.iload_n 2, 1) := by decide +kernel
theorem dX10_end_27 : decode mX10_end.2.1 27 = .ok (.ireturn, 1) := by decide +kernel
theorem dX10_empties_0 : decode mX10_empties.2.1 0 = .ok (.iconst 0, 1) := by decide +kernel
theorem dX10_empties_1 : decode mX10_empties.2.1 1 = .ok (.istore_n 2, 1) := by decide +kernel
theorem dX10_empties_2 : decode mX10_empties.2.1 2 = .ok (.iload_n 2, 1) := by decide +kernel
theorem dX10_empties_3 : decode mX10_empties.2.1 3 = .ok (.bipush 57, 2) := by decide +kernel
theorem dX10_empties_5 : decode mX10_empties.2.1 5 = .ok (.if_icmp .ge 21, 3) := by decide +kernel
theorem dX10_empties_8 : decode mX10_empties.2.1 8 = .ok (.aload_n 0, 1) := by decide +kernel
theorem dX10_empties_9 : decode mX10_empties.2.1 9 = .ok (.getfield 7, 3) := by decide +kernel
theorem dX10_empties_12 : decode mX10_empties.2.1 12 = .ok (.aload_n 0, 1) := by decide +kernel
theorem dX10_empties_13 : decode mX10_empties.2.1 13 = .ok (.iload_n 1, 1) := by decide +kernel
theorem dX10_empties_14 : decode mX10_empties.2.1 14 = .ok (.iload_n 2, 1) := by decide +kernel
theorem dX10_empties_15 : decode mX10_empties.2.1 15 = .ok (.invokevirtual 81, 3) := by decide +kernel
theorem dX10_empties_18 : decode mX10_empties.2.1 18 = .ok (.iconst 0, 1) := by decide +kernel
theorem dX10_empties_19 : decode mX10_empties.2.1 19 = .ok (.iastore, 1) := by decide +kernel
theorem dX10_empties_20 : decode mX10_empties.2.1 20 = .ok (.iinc 2 1, 3) := by decide +kernel
theorem dX10_empties_23 : decode mX10_empties.2.1 23 = .ok (.goto (-21), 3) := by decide +kernel
theorem dX10_empties_26 : decode mX10_empties.2.1 26 = .ok (.return_, 1) := by decide +kernel
theorem dX10_must_0 : decode mX10_must.2.1 0 = .ok (.iload_n 1, 1) := by decide +kernel
theorem dX10_must_1 : decode mX10_must.2.1 1 = .ok (.ifCond .ne 23, 3) := by decide +kernel
theorem dX10_must_4 : decode mX10_must.2.1 4 = .ok (.aload_n 0, 1) := by decide +kernel
theorem dX10_must_5 : decode mX10_must.2.1 5 = .ok (.getfield 188, 3) := by decide +kernel
theorem dX10_must_8 : decode mX10_must.2.1 8 = .ok (.ifCond .ne 16, 3) := by decide +kernel
theorem dX10_must_11 : decode mX10_must.2.1 11 = .ok (.aload_n 0, 1) := by decide +kernel
theorem dX10_must_12 : decode mX10_must.2.1 12 = .ok (.iload_n 2, 1) := by decide +kernel
theorem dX10_must_13 : decode mX10_must.2.1 13 = .ok (.putfield 188, 3) := by decide +kernel
theorem dX10_must_16 : decode mX10_must.2.1 16 = .ok (.aload_n 0, 1) := by decide +kernel
theorem dX10_must_17 : decode mX10_must.2.1 17 = .ok (.aload_n 0, 1) := by decide +kernel
theorem dX10_must_18 : decode mX10_must.2.1 18 = .ok (.getfield 191, 3) := by decide +kernel
theorem dX10_must_21 : decode mX10_must.2.1 21 = .ok (.putfield 194, 3) := by decide +kernel
theorem dX10_must_24 : decode mX10_must.2.1 24 = .ok (.aload_n 0, 1) := by decide +kernel
theorem dX10_must_25 : decode mX10_must.2.1 25 = .ok (.getfield 188, 3) := by decide +kernel
theorem dX10_must_28 : decode mX10_must.2.1 28 = .ok (.ifCond .ne 7, 3) := by decide +kernel
theorem dX10_must_31 : decode mX10_must.2.1 31 = .ok (.iconst 1, 1) := by decide +kernel
theorem dX10_must_32 : decode mX10_must.2.1 32 = .ok (.goto 4, 3) := by decide +kernel
theorem dX10_must_35 : decode mX10_must.2.1 35 = .ok (.iconst 0, 1) := by decide +kernel
theorem dX10_must_36 : decode mX10_must.2.1 36 = .ok (.ireturn, 1) := by decide +kernel
theorem dX10_isName_0 : decode mX10_isName.2.1 0 = .ok (.aload_n 0, 1) := by decide +kernel
theorem dX10_isName_1 : decode mX10_isName.2.1 1 = .ok (.getfield 206, 3) := by decide +kernel
theorem dX10_isName_4 : decode mX10_isName.2.1 4 = .ok (.iconst 1, 1) := by decide +kernel
theorem dX10_isName_5 : decode mX10_isName.2.1 5 = .ok (.if_icmp .ne 34, 3) := by decide +kernel
theorem dX10_isName_8 : decode mX10_isName.2.1 8 = .ok (.aload_n 0, 1) := by decide +kernel
theorem dX10_isName_9 : decode mX10_isName.2.1 9 = .ok (.getfield 197, 3) := by decide +kernel
theorem dX10_isName_12 : decode mX10_isName.2.1 12 = .ok (.aload_n 0, 1) := by decide +kernel
theorem dX10_isName_13 : decode mX10_isName.2.1 13 = .ok (.getfield 191, 3) := by decide +kernel
theorem dX10_isName_16 : decode mX10_isName.2.1 16 = .ok (.isub, 1) := by decide +kernel
theorem dX10_isName_17 : decode mX10_isName.2.1 17 = .ok (.aload_n 0, 1) := by decide +kernel
theorem dX10_isName_18 : decode mX10_isName.2.1 18 = .ok (.getfield 44, 3) := by decide +kernel
theorem dX10_isName_21 : decode mX10_isName.2.1 21 = .ok (.iload_n 1, 1) := by decide +kernel
theorem dX10_isName_22 : decode mX10_isName.2.1 22 = .ok (.iconst 1, 1) := by decide +kernel
theorem dX10_isName_23 : decode mX10_isName.2.1 23 = .ok (.iadd, 1) := by decide +kernel
theorem dX10_isName_24 : decode mX10_isName.2.1 24 = .ok (.iaload, 1) := by decide +kernel
theorem dX10_isName_25 : decode mX10_isName.2.1 25 = .ok (.aload_n 0, 1) := by decide +kernel
theorem dX10_isName_26 : decode mX10_isName.2.1 26 = .ok (.getfield 44, 3) := by decide +kernel
theorem dX10_isName_29 : decode mX10_isName.2.1 29 = .ok (.iload_n 1, 1) := by decide +kernel
theorem dX10_isName_30 : decode mX10_isName.2.1 30 = .ok (.iaload, 1) := by decide +kernel
theorem dX10_isName_31 : decode mX10_isName.2.1 31 = .ok (.isub, 1) := by decide +kernel
theorem dX10_isName_32 : decode mX10_isName.2.1 32 = .ok (.if_icmp .ne 7, 3) := by decide +kernel
theorem dX10_isName_35 : decode mX10_isName.2.1 35 = .ok (.iconst 1, 1) := by decide +kernel
theorem dX10_isName_36 : decode mX10_isName.2.1 36 = .ok (.goto 4, 3) := by decide +kernel
theorem dX10_isName_39 : decode mX10_isName.2.1 39 = .ok (.iconst 0, 1) := by decide +kernel
theorem dX10_isName_40 : decode mX10_isName.2.1 40 = .ok (.istore_n 2, 1) := by decide +kernel
theorem dX10_isName_41 : decode mX10_isName.2.1 41 = .ok (.aload_n 0, 1) := by decide +kernel
theorem dX10_isName_42 : decode mX10_isName.2.1 42 = .ok (.getfield 44, 3) := by decide +kernel
theorem dX10_isName_45 : decode mX10_isName.2.1 45 = .ok (.iload_n 1, 1) := by decide +kernel
theorem dX10_isName_46 : decode mX10_isName.2.1 46 = .ok (.iaload, 1) := by decide +kernel
theorem dX10_isName_47 : decode mX10_isName.2.1 47 = .ok (.istore_n 3, 1) := by decide +kernel
theorem dX10_isName_48 : decode mX10_isName.2.1 48 = .ok (.iload_n 3, 1) := by decide +kernel
theorem dX10_isName_49 : decode mX10_isName.2.1 49 = .ok (.aload_n 0, 1) := by decide +kernel
theorem dX10_isName_50 : decode mX10_isName.2.1 50 = .ok (.getfield 44, 3) := by decide +kernel
theorem dX10_isName_53 : decode mX10_isName.2.1 53 = .ok (.iload_n 1, 1) := by decide +kernel
theorem dX10_isName_54 : decode mX10_isName.2.1 54 = .ok (.iconst 1, 1) := by decide +kernel
theorem dX10_isName_55 : decode mX10_isName.2.1 55 = .ok (.iadd, 1) := by decide +kernel
theorem dX10_isName_56 : decode mX10_isName.2.1 56 = .ok (.iaload, 1) := by decide +kernel
theorem dX10_isName_57 : decode mX10_isName.2.1 57 = .ok (.if_icmp .ge 45, 3) := by decide +kernel
theorem dX10_isName_60 : decode mX10_isName.2.1 60 = .ok (.iload_n 2, 1) := by decide +kernel
theorem dX10_isName_61 : decode mX10_isName.2.1 61 = .ok (.ifCond .eq 41, 3) := by decide +kernel
theorem dX10_isName_64 : decode mX10_isName.2.1 64 = .ok (.aload_n 0, 1) := by decide +kernel
theorem dX10_isName_65 : decode mX10_isName.2.1 65 = .ok (.aload_n 0, 1) := by decide +kernel
theorem dX10_isName_66 : decode mX10_isName.2.1 66 = .ok (.getfield 191, 3) := by decide +kernel
theorem dX10_isName_69 : decode mX10_isName.2.1 69 = .ok (.iload_n 3, 1) := by decide +kernel
theorem dX10_isName_70 : decode mX10_isName.2.1 70 = .ok (.iadd, 1) := by decide +kernel
theorem dX10_isName_71 : decode mX10_isName.2.1 71 = .ok (.aload_n 0, 1) := by decide +kernel
theorem dX10_isName_72 : decode mX10_isName.2.1 72 = .ok (.getfield 44, 3) := by decide +kernel
theorem dX10_isName_75 : decode mX10_isName.2.1 75 = .ok (.iload_n 1, 1) := by decide +kernel
theorem dX10_isName_76 : decode mX10_isName.2.1 76 = .ok (.iaload, 1) := by decide +kernel
theorem dX10_isName_77 : decode mX10_isName.2.1 77 = .ok (.isub, 1) := by decide +kernel
theorem dX10_isName_78 : decode mX10_isName.2.1 78 = .ok (.invokevirtual 200, 3) := by decide +kernel
theorem dX10_isName_81 : decode mX10_isName.2.1 81 = .ok (.aload_n 0, 1) := by decide +kernel
theorem dX10_isName_82 : decode mX10_isName.2.1 82 = .ok (.getfield 47, 3) := by decide +kernel
theorem dX10_isName_85 : decode mX10_isName.2.1 85 = .ok (.iload_n 3, 1) := by decide +kernel
theorem dX10_isName_86 : decode mX10_isName.2.1 86 = .ok (.iaload, 1) := by decide +kernel
theorem dX10_isName_87 : decode mX10_isName.2.1 87 = .ok (.if_icmp .ne 7, 3) := by decide +kernel
theorem dX10_isName_90 : decode mX10_isName.2.1 90 = .ok (.iconst 1, 1) := by decide +kernel
theorem dX10_isName_91 : decode mX10_isName.2.1 91 = .ok (.goto 4, 3) := by decide +kernel
theorem dX10_isName_94 : decode mX10_isName.2.1 94 = .ok (.iconst 0, 1) := by decide +kernel
theorem dX10_isName_95 : decode mX10_isName.2.1 95 = .ok (.istore_n 2, 1) := by decide +kernel
theorem dX10_isName_96 : decode mX10_isName.2.1 96 = .ok (.iinc 3 1, 3) := by decide +kernel
theorem dX10_isName_99 : decode mX10_isName.2.1 99 = .ok (.goto (-51), 3) := by decide +kernel
theorem dX10_isName_102 : decode mX10_isName.2.1 102 = .ok (.iload_n 2, 1) := by decide +kernel
theorem dX10_isName_103 : decode mX10_isName.2.1 103 = .ok (.ireturn, 1) := by decide +kernel
theorem dX10_isPrime_0 : decode mX10_isPrime.2.1 0 = .ok (.iload_n 0, 1) := by decide +kernel
theorem dX10_isPrime_1 : decode mX10_isPrime.2.1 1 = .ok (.iconst 1, 1) := by decide +kernel
theorem dX10_isPrime_2 : decode mX10_isPrime.2.1 2 = .ok (.if_icmp .le 7, 3) := by decide +kernel
theorem dX10_isPrime_5 : decode mX10_isPrime.2.1 5 = .ok (.iconst 1, 1) := by decide +kernel
theorem dX10_isPrime_6 : decode mX10_isPrime.2.1 6 = .ok (.goto 4, 3) := by decide +kernel
theorem dX10_isPrime_9 : decode mX10_isPrime.2.1 9 = .ok (.iconst 0, 1) := by decide +kernel
theorem dX10_isPrime_10 : decode mX10_isPrime.2.1 10 = .ok (.istore_n 1, 1) := by decide +kernel
theorem dX10_isPrime_11 : decode mX10_isPrime.2.1 11 = .ok (.iconst 2, 1) := by decide +kernel
theorem dX10_isPrime_12 : decode mX10_isPrime.2.1 12 = .ok (.istore_n 2, 1) := by decide +kernel
theorem dX10_isPrime_13 : decode mX10_isPrime.2.1 13 = .ok (.iload_n 2, 1) := by decide +kernel
theorem dX10_isPrime_14 : decode mX10_isPrime.2.1 14 = .ok (.iload_n 0, 1) := by decide +kernel
theorem dX10_isPrime_15 : decode mX10_isPrime.2.1 15 = .ok (.if_icmp .ge 25, 3) := by decide +kernel
theorem dX10_isPrime_18 : decode mX10_isPrime.2.1 18 = .ok (.iload_n 1, 1) := by decide +kernel
theorem dX10_isPrime_19 : decode mX10_isPrime.2.1 19 = .ok (.ifCond .eq 13, 3) := by decide +kernel
theorem dX10_isPrime_22 : decode mX10_isPrime.2.1 22 = .ok (.iload_n 0, 1) := by decide +kernel
theorem dX10_isPrime_23 : decode mX10_isPrime.2.1 23 = .ok (.iload_n 2, 1) := by decide +kernel
theorem dX10_isPrime_24 : decode mX10_isPrime.2.1 24 = .ok (.irem, 1) := by decide +kernel
theorem dX10_isPrime_25 : decode mX10_isPrime.2.1 25 = .ok (.ifCond .eq 7, 3) := by decide +kernel
theorem dX10_isPrime_28 : decode mX10_isPrime.2.1 28 = .ok (.iconst 1, 1) := by decide +kernel
theorem dX10_isPrime_29 : decode mX10_isPrime.2.1 29 = .ok (.goto 4, 3) := by decide +kernel
theorem dX10_isPrime_32 : decode mX10_isPrime.2.1 32 = .ok (.iconst 0, 1) := by decide +kernel
theorem dX10_isPrime_33 : decode mX10_isPrime.2.1 33 = .ok (.istore_n 1, 1) := by decide +kernel
theorem dX10_isPrime_34 : decode mX10_isPrime.2.1 34 = .ok (.iinc 2 1, 3) := by decide +kernel
theorem dX10_isPrime_37 : decode mX10_isPrime.2.1 37 = .ok (.goto (-24), 3) := by decide +kernel
theorem dX10_isPrime_40 : decode mX10_isPrime.2.1 40 = .ok (.iload_n 1, 1) := by decide +kernel
theorem dX10_isPrime_41 : decode mX10_isPrime.2.1 41 = .ok (.ireturn, 1) := by decide +kernel
theorem dX10_number_0 : decode mX10_number.2.1 0 = .ok (.aload_n 0, 1) := by decide +kernel
theorem dX10_number_1 : decode mX10_number.2.1 1 = .ok (.aload_n 0, 1) := by decide +kernel
theorem dX10_number_2 : decode mX10_number.2.1 2 = .ok (.getfield 206, 3) := by decide +kernel
theorem dX10_number_5 : decode mX10_number.2.1 5 = .ok (.iconst 2, 1) := by decide +kernel
theorem dX10_number_6 : decode mX10_number.2.1 6 = .ok (.if_icmp .ne 7, 3) := by decide +kernel
theorem dX10_number_9 : decode mX10_number.2.1 9 = .ok (.iconst 1, 1) := by decide +kernel
theorem dX10_number_10 : decode mX10_number.2.1 10 = .ok (.goto 4, 3) := by decide +kernel
theorem dX10_number_13 : decode mX10_number.2.1 13 = .ok (.iconst 0, 1) := by decide +kernel
theorem dX10_number_14 : decode mX10_number.2.1 14 = .ok (.iconst 2, 1) := by decide +kernel
theorem dX10_number_15 : decode mX10_number.2.1 15 = .ok (.invokevirtual 217, 3) := by decide +kernel
theorem dX10_number_18 : decode mX10_number.2.1 18 = .ok (.pop, 1) := by decide +kernel
theorem dX10_number_19 : decode mX10_number.2.1 19 = .ok (.aload_n 0, 1) := by decide +kernel
theorem dX10_number_20 : decode mX10_number.2.1 20 = .ok (.aload_n 0, 1) := by decide +kernel
theorem dX10_number_21 : decode mX10_number.2.1 21 = .ok (.getfield 188, 3) := by decide +kernel
theorem dX10_number_24 : decode mX10_number.2.1 24 = .ok (.ifCond .gt 18, 3) := by decide +kernel
theorem dX10_number_27 : decode mX10_number.2.1 27 = .ok (.aload_n 0, 1) := by decide +kernel
theorem dX10_number_28 : decode mX10_number.2.1 28 = .ok (.getfield 203, 3) := by decide +kernel
theorem dX10_number_31 : decode mX10_number.2.1 31 = .ok (.i2l, 1) := by decide +kernel
theorem dX10_number_32 : decode mX10_number.2.1 32 = .ok (.iload_n 1, 1) := by decide +kernel
theorem dX10_number_33 : decode mX10_number.2.1 33 = .ok (.i2l, 1) := by decide +kernel
theorem dX10_number_34 : decode mX10_number.2.1 34 = .ok (.iload_n 2, 1) := by decide +kernel
theorem dX10_number_35 : decode mX10_number.2.1 35 = .ok (.i2l, 1) := by decide +kernel
theorem dX10_number_36 : decode mX10_number.2.1 36 = .ok (.invokestatic 181, 3) := by decide +kernel
theorem dX10_number_39 : decode mX10_number.2.1 39 = .ok (.ifCond .eq 7, 3) := by decide +kernel
theorem dX10_number_42 : decode mX10_number.2.1 42 = .ok (.iconst 1, 1) := by decide +kernel
theorem dX10_number_43 : decode mX10_number.2.1 43 = .ok (.goto 4, 3) := by decide +kernel
theorem dX10_number_46 : decode mX10_number.2.1 46 = .ok (.iconst 0, 1) := by decide +kernel
theorem dX10_number_47 : decode mX10_number.2.1 47 = .ok (.iconst 3, 1) := by decide +kernel
theorem dX10_number_48 : decode mX10_number.2.1 48 = .ok (.invokevirtual 217, 3) := by decide +kernel
theorem dX10_number_51 : decode mX10_number.2.1 51 = .ok (.pop, 1) := by decide +kernel
theorem dX10_number_52 : decode mX10_number.2.1 52 = .ok (.aload_n 0, 1) := by decide +kernel
theorem dX10_number_53 : decode mX10_number.2.1 53 = .ok (.getfield 188, 3) := by decide +kernel
theorem dX10_number_56 : decode mX10_number.2.1 56 = .ok (.ifCond .le 7, 3) := by decide +kernel
theorem dX10_number_59 : decode mX10_number.2.1 59 = .ok (.iconst 0, 1) := by decide +kernel
theorem dX10_number_60 : decode mX10_number.2.1 60 = .ok (.goto 7, 3) := by decide +kernel
theorem dX10_number_63 : decode mX10_number.2.1 63 = .ok (.aload_n 0, 1) := by decide +kernel
theorem dX10_number_64 : decode mX10_number.2.1 64 = .ok (.getfield 203, 3) := by decide +kernel
theorem dX10_number_67 : decode mX10_number.2.1 67 = .ok (.istore_n 3, 1) := by decide +kernel
theorem dX10_number_68 : decode mX10_number.2.1 68 = .ok (.aload_n 0, 1) := by decide +kernel
theorem dX10_number_69 : decode mX10_number.2.1 69 = .ok (.invokevirtual 224, 3) := by decide +kernel
theorem dX10_number_72 : decode mX10_number.2.1 72 = .ok (.iload_n 3, 1) := by decide +kernel
theorem dX10_number_73 : decode mX10_number.2.1 73 = .ok (.ireturn, 1) := by decide +kernel
theorem dX10_weighs_0 : decode mX10_weighs.2.1 0 = .ok (.aload_n 0, 1) := by decide +kernel
theorem dX10_weighs_1 : decode mX10_weighs.2.1 1 = .ok (.getfield 7, 3) := by decide +kernel
theorem dX10_weighs_4 : decode mX10_weighs.2.1 4 = .ok (.aload_n 0, 1) := by decide +kernel
theorem dX10_weighs_5 : decode mX10_weighs.2.1 5 = .ok (.iload_n 1, 1) := by decide +kernel
theorem dX10_weighs_6 : decode mX10_weighs.2.1 6 = .ok (.bipush 9, 2) := by decide +kernel
theorem dX10_weighs_8 : decode mX10_weighs.2.1 8 = .ok (.bipush 12, 2) := by decide +kernel
theorem dX10_weighs_10 : decode mX10_weighs.2.1 10 = .ok (.iload_n 2, 1) := by decide +kernel
theorem dX10_weighs_11 : decode mX10_weighs.2.1 11 = .ok (.imul, 1) := by decide +kernel
theorem dX10_weighs_12 : decode mX10_weighs.2.1 12 = .ok (.iadd, 1) := by decide +kernel
theorem dX10_weighs_13 : decode mX10_weighs.2.1 13 = .ok (.iconst 4, 1) := by decide +kernel
theorem dX10_weighs_14 : decode mX10_weighs.2.1 14 = .ok (.iload_n 3, 1) := by decide +kernel
theorem dX10_weighs_15 : decode mX10_weighs.2.1 15 = .ok (.imul, 1) := by decide +kernel
theorem dX10_weighs_16 : decode mX10_weighs.2.1 16 = .ok (.iadd, 1) := by decide +kernel
theorem dX10_weighs_17 : decode mX10_weighs.2.1 17 = .ok (.iload 4, 2) := by decide +kernel
theorem dX10_weighs_19 : decode mX10_weighs.2.1 19 = .ok (.iadd, 1) := by decide +kernel
theorem dX10_weighs_20 : decode mX10_weighs.2.1 20 = .ok (.invokevirtual 81, 3) := by decide +kernel
theorem dX10_weighs_23 : decode mX10_weighs.2.1 23 = .ok (.iload 5, 2) := by decide +kernel
theorem dX10_weighs_25 : decode mX10_weighs.2.1 25 = .ok (.iastore, 1) := by decide +kernel
theorem dX10_weighs_26 : decode mX10_weighs.2.1 26 = .ok (.return_, 1) := by decide +kernel
theorem dX10_readsMark_0 : decode mX10_readsMark.2.1 0 = .ok (.aload_n 0, 1) := by decide +kernel
theorem dX10_readsMark_1 : decode mX10_readsMark.2.1 1 = .ok (.invokevirtual 241, 3) := by decide +kernel
theorem dX10_readsMark_4 : decode mX10_readsMark.2.1 4 = .ok (.istore_n 2, 1) := by decide +kernel
theorem dX10_readsMark_5 : decode mX10_readsMark.2.1 5 = .ok (.aload_n 0, 1) := by decide +kernel
theorem dX10_readsMark_6 : decode mX10_readsMark.2.1 6 = .ok (.iconst 0, 1) := by decide +kernel
theorem dX10_readsMark_7 : decode mX10_readsMark.2.1 7 = .ok (.bipush 99, 2) := by decide +kernel
theorem dX10_readsMark_9 : decode mX10_readsMark.2.1 9 = .ok (.invokevirtual 235, 3) := by decide +kernel
theorem dX10_readsMark_12 : decode mX10_readsMark.2.1 12 = .ok (.istore_n 3, 1) := by decide +kernel
theorem dX10_readsMark_13 : decode mX10_readsMark.2.1 13 = .ok (.aload_n 0, 1) := by decide +kernel
theorem dX10_readsMark_14 : decode mX10_readsMark.2.1 14 = .ok (.getfield 188, 3) := by decide +kernel
theorem dX10_readsMark_17 : decode mX10_readsMark.2.1 17 = .ok (.ifCond .ne 18, 3) := by decide +kernel
theorem dX10_readsMark_20 : decode mX10_readsMark.2.1 20 = .ok (.aload_n 0, 1) := by decide +kernel
theorem dX10_readsMark_21 : decode mX10_readsMark.2.1 21 = .ok (.getfield 7, 3) := by decide +kernel
theorem dX10_readsMark_24 : decode mX10_readsMark.2.1 24 = .ok (.aload_n 0, 1) := by decide +kernel
theorem dX10_readsMark_25 : decode mX10_readsMark.2.1 25 = .ok (.bipush 31, 2) := by decide +kernel
theorem dX10_readsMark_27 : decode mX10_readsMark.2.1 27 = .ok (.iload_n 1, 1) := by decide +kernel
theorem dX10_readsMark_28 : decode mX10_readsMark.2.1 28 = .ok (.iload_n 2, 1) := by decide +kernel
theorem dX10_readsMark_29 : decode mX10_readsMark.2.1 29 = .ok (.iadd, 1) := by decide +kernel
theorem dX10_readsMark_30 : decode mX10_readsMark.2.1 30 = .ok (.invokevirtual 81, 3) := by decide +kernel
theorem dX10_readsMark_33 : decode mX10_readsMark.2.1 33 = .ok (.iload_n 3, 1) := by decide +kernel
theorem dX10_readsMark_34 : decode mX10_readsMark.2.1 34 = .ok (.iastore, 1) := by decide +kernel
theorem dX10_readsMark_35 : decode mX10_readsMark.2.1 35 = .ok (.return_, 1) := by decide +kernel
theorem dX10_many_0 : decode mX10_many.2.1 0 = .ok (.aload_n 0, 1) := by decide +kernel
theorem dX10_many_1 : decode mX10_many.2.1 1 = .ok (.getfield 7, 3) := by decide +kernel
theorem dX10_many_4 : decode mX10_many.2.1 4 = .ok (.bipush 57, 2) := by decide +kernel
theorem dX10_many_6 : decode mX10_many.2.1 6 = .ok (.iload_n 1, 1) := by decide +kernel
theorem dX10_many_7 : decode mX10_many.2.1 7 = .ok (.imul, 1) := by decide +kernel
theorem dX10_many_8 : decode mX10_many.2.1 8 = .ok (.iaload, 1) := by decide +kernel
theorem dX10_many_9 : decode mX10_many.2.1 9 = .ok (.ireturn, 1) := by decide +kernel
theorem dX10_takesDraft_0 : decode mX10_takesDraft.2.1 0 = .ok (.aload_n 0, 1) := by decide +kernel
theorem dX10_takesDraft_1 : decode mX10_takesDraft.2.1 1 = .ok (.aload_n 0, 1) := by decide +kernel
theorem dX10_takesDraft_2 : decode mX10_takesDraft.2.1 2 = .ok (.getfield 232, 3) := by decide +kernel
theorem dX10_takesDraft_5 : decode mX10_takesDraft.2.1 5 = .ok (.putfield 13, 3) := by decide +kernel
theorem dX10_takesDraft_8 : decode mX10_takesDraft.2.1 8 = .ok (.aload_n 0, 1) := by decide +kernel
theorem dX10_takesDraft_9 : decode mX10_takesDraft.2.1 9 = .ok (.aload_n 0, 1) := by decide +kernel
theorem dX10_takesDraft_10 : decode mX10_takesDraft.2.1 10 = .ok (.getfield 255, 3) := by decide +kernel
theorem dX10_takesDraft_13 : decode mX10_takesDraft.2.1 13 = .ok (.putfield 17, 3) := by decide +kernel
theorem dX10_takesDraft_16 : decode mX10_takesDraft.2.1 16 = .ok (.aload_n 0, 1) := by decide +kernel
theorem dX10_takesDraft_17 : decode mX10_takesDraft.2.1 17 = .ok (.bipush 31, 2) := by decide +kernel
theorem dX10_takesDraft_19 : decode mX10_takesDraft.2.1 19 = .ok (.iconst 0, 1) := by decide +kernel
theorem dX10_takesDraft_20 : decode mX10_takesDraft.2.1 20 = .ok (.invokevirtual 264, 3) := by decide +kernel
theorem dX10_takesDraft_23 : decode mX10_takesDraft.2.1 23 = .ok (.iconst 1, 1) := by decide +kernel
theorem dX10_takesDraft_24 : decode mX10_takesDraft.2.1 24 = .ok (.istore_n 1, 1) := by decide +kernel
theorem dX10_takesDraft_25 : decode mX10_takesDraft.2.1 25 = .ok (.iload_n 1, 1) := by decide +kernel
theorem dX10_takesDraft_26 : decode mX10_takesDraft.2.1 26 = .ok (.bipush 57, 2) := by decide +kernel
theorem dX10_takesDraft_28 : decode mX10_takesDraft.2.1 28 = .ok (.if_icmp .ge 27, 3) := by decide +kernel
theorem dX10_takesDraft_31 : decode mX10_takesDraft.2.1 31 = .ok (.aload_n 0, 1) := by decide +kernel
theorem dX10_takesDraft_32 : decode mX10_takesDraft.2.1 32 = .ok (.getfield 7, 3) := by decide +kernel
theorem dX10_takesDraft_35 : decode mX10_takesDraft.2.1 35 = .ok (.aload_n 0, 1) := by decide +kernel
theorem dX10_takesDraft_36 : decode mX10_takesDraft.2.1 36 = .ok (.iconst 0, 1) := by decide +kernel
theorem dX10_takesDraft_37 : decode mX10_takesDraft.2.1 37 = .ok (.iload_n 1, 1) := by decide +kernel
theorem dX10_takesDraft_38 : decode mX10_takesDraft.2.1 38 = .ok (.invokevirtual 81, 3) := by decide +kernel
theorem dX10_takesDraft_41 : decode mX10_takesDraft.2.1 41 = .ok (.dup2, 1) := by decide +kernel
theorem dX10_takesDraft_42 : decode mX10_takesDraft.2.1 42 = .ok (.iaload, 1) := by decide +kernel
theorem dX10_takesDraft_43 : decode mX10_takesDraft.2.1 43 = .ok (.aload_n 0, 1) := by decide +kernel
theorem dX10_takesDraft_44 : decode mX10_takesDraft.2.1 44 = .ok (.getfield 13, 3) := by decide +kernel
theorem dX10_takesDraft_47 : decode mX10_takesDraft.2.1 47 = .ok (.irem, 1) := by decide +kernel
theorem dX10_takesDraft_48 : decode mX10_takesDraft.2.1 48 = .ok (.iastore, 1) := by decide +kernel
theorem dX10_takesDraft_49 : decode mX10_takesDraft.2.1 49 = .ok (.iinc 1 1, 3) := by decide +kernel
theorem dX10_takesDraft_52 : decode mX10_takesDraft.2.1 52 = .ok (.goto (-27), 3) := by decide +kernel
theorem dX10_takesDraft_55 : decode mX10_takesDraft.2.1 55 = .ok (.aload_n 0, 1) := by decide +kernel
theorem dX10_takesDraft_56 : decode mX10_takesDraft.2.1 56 = .ok (.invokevirtual 78, 3) := by decide +kernel
theorem dX10_takesDraft_59 : decode mX10_takesDraft.2.1 59 = .ok (.aload_n 0, 1) := by decide +kernel
theorem dX10_takesDraft_60 : decode mX10_takesDraft.2.1 60 = .ok (.iconst 0, 1) := by decide +kernel
theorem dX10_takesDraft_61 : decode mX10_takesDraft.2.1 61 = .ok (.putfield 267, 3) := by decide +kernel
theorem dX10_takesDraft_64 : decode mX10_takesDraft.2.1 64 = .ok (.iconst 0, 1) := by decide +kernel
theorem dX10_takesDraft_65 : decode mX10_takesDraft.2.1 65 = .ok (.istore_n 1, 1) := by decide +kernel
theorem dX10_takesDraft_66 : decode mX10_takesDraft.2.1 66 = .ok (.iload_n 1, 1) := by decide +kernel
theorem dX10_takesDraft_67 : decode mX10_takesDraft.2.1 67 = .ok (.iconst 2, 1) := by decide +kernel
theorem dX10_takesDraft_68 : decode mX10_takesDraft.2.1 68 = .ok (.if_icmp .ge 16, 3) := by decide +kernel
theorem dX10_takesDraft_71 : decode mX10_takesDraft.2.1 71 = .ok (.aload_n 0, 1) := by decide +kernel
theorem dX10_takesDraft_72 : decode mX10_takesDraft.2.1 72 = .ok (.getfield 63, 3) := by decide +kernel
theorem dX10_takesDraft_75 : decode mX10_takesDraft.2.1 75 = .ok (.iload_n 1, 1) := by decide +kernel
theorem dX10_takesDraft_76 : decode mX10_takesDraft.2.1 76 = .ok (.iconst 0, 1) := by decide +kernel
theorem dX10_takesDraft_77 : decode mX10_takesDraft.2.1 77 = .ok (.bastore, 1) := by decide +kernel
theorem dX10_takesDraft_78 : decode mX10_takesDraft.2.1 78 = .ok (.iinc 1 1, 3) := by decide +kernel
theorem dX10_takesDraft_81 : decode mX10_takesDraft.2.1 81 = .ok (.goto (-15), 3) := by decide +kernel
theorem dX10_takesDraft_84 : decode mX10_takesDraft.2.1 84 = .ok (.iconst 0, 1) := by decide +kernel
theorem dX10_takesDraft_85 : decode mX10_takesDraft.2.1 85 = .ok (.istore_n 1, 1) := by decide +kernel
theorem dX10_takesDraft_86 : decode mX10_takesDraft.2.1 86 = .ok (.iload_n 1, 1) := by decide +kernel
theorem dX10_takesDraft_87 : decode mX10_takesDraft.2.1 87 = .ok (.iconst 3, 1) := by decide +kernel
theorem dX10_takesDraft_88 : decode mX10_takesDraft.2.1 88 = .ok (.if_icmp .ge 17, 3) := by decide +kernel
theorem dX10_takesDraft_91 : decode mX10_takesDraft.2.1 91 = .ok (.aload_n 0, 1) := by decide +kernel
theorem dX10_takesDraft_92 : decode mX10_takesDraft.2.1 92 = .ok (.getfield 69, 3) := by decide +kernel
theorem dX10_takesDraft_95 : decode mX10_takesDraft.2.1 95 = .ok (.iload_n 1, 1) := by decide +kernel
theorem dX10_takesDraft_96 : decode mX10_takesDraft.2.1 96 = .ok (.bipush (-4), 2) := by decide +kernel
theorem dX10_takesDraft_98 : decode mX10_takesDraft.2.1 98 = .ok (.iastore, 1) := by decide +kernel
theorem dX10_takesDraft_99 : decode mX10_takesDraft.2.1 99 = .ok (.iinc 1 1, 3) := by decide +kernel
theorem dX10_takesDraft_102 : decode mX10_takesDraft.2.1 102 = .ok (.goto (-16), 3) := by decide +kernel
theorem dX10_takesDraft_105 : decode mX10_takesDraft.2.1 105 = .ok (.return_, 1) := by decide +kernel
theorem dX10_power_0 : decode mX10_power.2.1 0 = .ok (.iconst 1, 1) := by decide +kernel
theorem dX10_power_1 : decode mX10_power.2.1 1 = .ok (.istore_n 2, 1) := by decide +kernel
theorem dX10_power_2 : decode mX10_power.2.1 2 = .ok (.iconst 0, 1) := by decide +kernel
theorem dX10_power_3 : decode mX10_power.2.1 3 = .ok (.istore_n 3, 1) := by decide +kernel
theorem dX10_power_4 : decode mX10_power.2.1 4 = .ok (.iload_n 3, 1) := by decide +kernel
theorem dX10_power_5 : decode mX10_power.2.1 5 = .ok (.iload_n 1, 1) := by decide +kernel
theorem dX10_power_6 : decode mX10_power.2.1 6 = .ok (.if_icmp .ge 16, 3) := by decide +kernel
theorem dX10_power_9 : decode mX10_power.2.1 9 = .ok (.iload_n 2, 1) := by decide +kernel
theorem dX10_power_10 : decode mX10_power.2.1 10 = .ok (.aload_n 0, 1) := by decide +kernel
theorem dX10_power_11 : decode mX10_power.2.1 11 = .ok (.getfield 17, 3) := by decide +kernel
theorem dX10_power_14 : decode mX10_power.2.1 14 = .ok (.imul, 1) := by decide +kernel
theorem dX10_power_15 : decode mX10_power.2.1 15 = .ok (.istore_n 2, 1) := by decide +kernel
theorem dX10_power_16 : decode mX10_power.2.1 16 = .ok (.iinc 3 1, 3) := by decide +kernel
theorem dX10_power_19 : decode mX10_power.2.1 19 = .ok (.goto (-15), 3) := by decide +kernel
theorem dX10_power_22 : decode mX10_power.2.1 22 = .ok (.iload_n 2, 1) := by decide +kernel
theorem dX10_power_23 : decode mX10_power.2.1 23 = .ok (.ireturn, 1) := by decide +kernel
theorem dX10_lengthOf_0 : decode mX10_lengthOf.2.1 0 = .ok (.iconst 0, 1) := by decide +kernel
theorem dX10_lengthOf_1 : decode mX10_lengthOf.2.1 1 = .ok (.istore_n 2, 1) := by decide +kernel
theorem dX10_lengthOf_2 : decode mX10_lengthOf.2.1 2 = .ok (.aload_n 0, 1) := by decide +kernel
theorem dX10_lengthOf_3 : decode mX10_lengthOf.2.1 3 = .ok (.iload_n 2, 1) := by decide +kernel
theorem dX10_lengthOf_4 : decode mX10_lengthOf.2.1 4 = .ok (.iconst 1, 1) := by decide +kernel
theorem dX10_lengthOf_5 : decode mX10_lengthOf.2.1 5 = .ok (.iadd, 1) := by decide +kernel
theorem dX10_lengthOf_6 : decode mX10_lengthOf.2.1 6 = .ok (.invokevirtual 89, 3) := by decide +kernel
theorem dX10_lengthOf_9 : decode mX10_lengthOf.2.1 9 = .ok (.iload_n 1, 1) := by decide +kernel
theorem dX10_lengthOf_10 : decode mX10_lengthOf.2.1 10 = .ok (.if_icmp .gt 9, 3) := by decide +kernel
theorem dX10_lengthOf_13 : decode mX10_lengthOf.2.1 13 = .ok (.iinc 2 1, 3) := by decide +kernel
theorem dX10_lengthOf_16 : decode mX10_lengthOf.2.1 16 = .ok (.goto (-14), 3) := by decide +kernel
theorem dX10_lengthOf_19 : decode mX10_lengthOf.2.1 19 = .ok (.iload_n 2, 1) := by decide +kernel
theorem dX10_lengthOf_20 : decode mX10_lengthOf.2.1 20 = .ok (.ireturn, 1) := by decide +kernel
theorem dX10_weight_0 : decode mX10_weight.2.1 0 = .ok (.aload_n 0, 1) := by decide +kernel
theorem dX10_weight_1 : decode mX10_weight.2.1 1 = .ok (.getfield 7, 3) := by decide +kernel
theorem dX10_weight_4 : decode mX10_weight.2.1 4 = .ok (.aload_n 0, 1) := by decide +kernel
theorem dX10_weight_5 : decode mX10_weight.2.1 5 = .ok (.iload_n 1, 1) := by decide +kernel
theorem dX10_weight_6 : decode mX10_weight.2.1 6 = .ok (.bipush 9, 2) := by decide +kernel
theorem dX10_weight_8 : decode mX10_weight.2.1 8 = .ok (.bipush 12, 2) := by decide +kernel
theorem dX10_weight_10 : decode mX10_weight.2.1 10 = .ok (.iload_n 2, 1) := by decide +kernel
theorem dX10_weight_11 : decode mX10_weight.2.1 11 = .ok (.imul, 1) := by decide +kernel
theorem dX10_weight_12 : decode mX10_weight.2.1 12 = .ok (.iadd, 1) := by decide +kernel
theorem dX10_weight_13 : decode mX10_weight.2.1 13 = .ok (.iconst 4, 1) := by decide +kernel
theorem dX10_weight_14 : decode mX10_weight.2.1 14 = .ok (.iload_n 3, 1) := by decide +kernel
theorem dX10_weight_15 : decode mX10_weight.2.1 15 = .ok (.imul, 1) := by decide +kernel
theorem dX10_weight_16 : decode mX10_weight.2.1 16 = .ok (.iadd, 1) := by decide +kernel
theorem dX10_weight_17 : decode mX10_weight.2.1 17 = .ok (.iload 4, 2) := by decide +kernel
theorem dX10_weight_19 : decode mX10_weight.2.1 19 = .ok (.iadd, 1) := by decide +kernel
theorem dX10_weight_20 : decode mX10_weight.2.1 20 = .ok (.invokevirtual 81, 3) := by decide +kernel
theorem dX10_weight_23 : decode mX10_weight.2.1 23 = .ok (.iaload, 1) := by decide +kernel
theorem dX10_weight_24 : decode mX10_weight.2.1 24 = .ok (.ireturn, 1) := by decide +kernel
theorem dX10_goes_0 : decode mX10_goes.2.1 0 = .ok (.iconst 0, 1) := by decide +kernel
theorem dX10_goes_1 : decode mX10_goes.2.1 1 = .ok (.istore_n 3, 1) := by decide +kernel
theorem dX10_goes_2 : decode mX10_goes.2.1 2 = .ok (.iload_n 3, 1) := by decide +kernel
theorem dX10_goes_3 : decode mX10_goes.2.1 3 = .ok (.aload_n 0, 1) := by decide +kernel
theorem dX10_goes_4 : decode mX10_goes.2.1 4 = .ok (.iload_n 1, 1) := by decide +kernel
theorem dX10_goes_5 : decode mX10_goes.2.1 5 = .ok (.invokevirtual 95, 3) := by decide +kernel
theorem dX10_goes_8 : decode mX10_goes.2.1 8 = .ok (.if_icmp .ge 28, 3) := by decide +kernel
theorem dX10_goes_11 : decode mX10_goes.2.1 11 = .ok (.aload_n 0, 1) := by decide +kernel
theorem dX10_goes_12 : decode mX10_goes.2.1 12 = .ok (.getfield 20, 3) := by decide +kernel
theorem dX10_goes_15 : decode mX10_goes.2.1 15 = .ok (.iload_n 3, 1) := by decide +kernel
theorem dX10_goes_16 : decode mX10_goes.2.1 16 = .ok (.aload_n 0, 1) := by decide +kernel
theorem dX10_goes_17 : decode mX10_goes.2.1 17 = .ok (.getfield 7, 3) := by decide +kernel
theorem dX10_goes_20 : decode mX10_goes.2.1 20 = .ok (.aload_n 0, 1) := by decide +kernel
theorem dX10_goes_21 : decode mX10_goes.2.1 21 = .ok (.iload_n 1, 1) := by decide +kernel
theorem dX10_goes_22 : decode mX10_goes.2.1 22 = .ok (.iconst 1, 1) := by decide +kernel
theorem dX10_goes_23 : decode mX10_goes.2.1 23 = .ok (.iload_n 3, 1) := by decide +kernel
theorem dX10_goes_24 : decode mX10_goes.2.1 24 = .ok (.iadd, 1) := by decide +kernel
theorem dX10_goes_25 : decode mX10_goes.2.1 25 = .ok (.invokevirtual 81, 3) := by decide +kernel
theorem dX10_goes_28 : decode mX10_goes.2.1 28 = .ok (.iaload, 1) := by decide +kernel
theorem dX10_goes_29 : decode mX10_goes.2.1 29 = .ok (.iastore, 1) := by decide +kernel
theorem dX10_goes_30 : decode mX10_goes.2.1 30 = .ok (.iinc 3 1, 3) := by decide +kernel
theorem dX10_goes_33 : decode mX10_goes.2.1 33 = .ok (.goto (-31), 3) := by decide +kernel
theorem dX10_goes_36 : decode mX10_goes.2.1 36 = .ok (.aload_n 0, 1) := by decide +kernel
theorem dX10_goes_37 : decode mX10_goes.2.1 37 = .ok (.iload_n 2, 1) := by decide +kernel
theorem dX10_goes_38 : decode mX10_goes.2.1 38 = .ok (.invokevirtual 92, 3) := by decide +kernel
theorem dX10_goes_41 : decode mX10_goes.2.1 41 = .ok (.istore_n 3, 1) := by decide +kernel
theorem dX10_goes_42 : decode mX10_goes.2.1 42 = .ok (.iload_n 2, 1) := by decide +kernel
theorem dX10_goes_43 : decode mX10_goes.2.1 43 = .ok (.aload_n 0, 1) := by decide +kernel
theorem dX10_goes_44 : decode mX10_goes.2.1 44 = .ok (.iload_n 3, 1) := by decide +kernel
theorem dX10_goes_45 : decode mX10_goes.2.1 45 = .ok (.invokevirtual 89, 3) := by decide +kernel
theorem dX10_goes_48 : decode mX10_goes.2.1 48 = .ok (.isub, 1) := by decide +kernel
theorem dX10_goes_49 : decode mX10_goes.2.1 49 = .ok (.istore 4, 2) := by decide +kernel
theorem dX10_goes_51 : decode mX10_goes.2.1 51 = .ok (.iload_n 3, 1) := by decide +kernel
theorem dX10_goes_52 : decode mX10_goes.2.1 52 = .ok (.iconst 1, 1) := by decide +kernel
theorem dX10_goes_53 : decode mX10_goes.2.1 53 = .ok (.isub, 1) := by decide +kernel
theorem dX10_goes_54 : decode mX10_goes.2.1 54 = .ok (.istore 5, 2) := by decide +kernel
theorem dX10_goes_56 : decode mX10_goes.2.1 56 = .ok (.iload 5, 2) := by decide +kernel
theorem dX10_goes_58 : decode mX10_goes.2.1 58 = .ok (.ifCond .lt 34, 3) := by decide +kernel
theorem dX10_goes_61 : decode mX10_goes.2.1 61 = .ok (.aload_n 0, 1) := by decide +kernel
theorem dX10_goes_62 : decode mX10_goes.2.1 62 = .ok (.iload 5, 2) := by decide +kernel
theorem dX10_goes_64 : decode mX10_goes.2.1 64 = .ok (.invokevirtual 85, 3) := by decide +kernel
theorem dX10_goes_67 : decode mX10_goes.2.1 67 = .ok (.istore 6, 2) := by decide +kernel
theorem dX10_goes_69 : decode mX10_goes.2.1 69 = .ok (.aload_n 0, 1) := by decide +kernel
theorem dX10_goes_70 : decode mX10_goes.2.1 70 = .ok (.iload_n 1, 1) := by decide +kernel
theorem dX10_goes_71 : decode mX10_goes.2.1 71 = .ok (.iload 4, 2) := by decide +kernel
theorem dX10_goes_73 : decode mX10_goes.2.1 73 = .ok (.iload 6, 2) := by decide +kernel
theorem dX10_goes_75 : decode mX10_goes.2.1 75 = .ok (.idiv, 1) := by decide +kernel
theorem dX10_goes_76 : decode mX10_goes.2.1 76 = .ok (.invokevirtual 102, 3) := by decide +kernel
theorem dX10_goes_79 : decode mX10_goes.2.1 79 = .ok (.iload 4, 2) := by decide +kernel
theorem dX10_goes_81 : decode mX10_goes.2.1 81 = .ok (.iload 6, 2) := by decide +kernel
theorem dX10_goes_83 : decode mX10_goes.2.1 83 = .ok (.irem, 1) := by decide +kernel
theorem dX10_goes_84 : decode mX10_goes.2.1 84 = .ok (.istore 4, 2) := by decide +kernel
theorem dX10_goes_86 : decode mX10_goes.2.1 86 = .ok (.iinc 5 (-1), 3) := by decide +kernel
theorem dX10_goes_89 : decode mX10_goes.2.1 89 = .ok (.goto (-33), 3) := by decide +kernel
theorem dX10_goes_92 : decode mX10_goes.2.1 92 = .ok (.return_, 1) := by decide +kernel
theorem dX10_valueOf_0 : decode mX10_valueOf.2.1 0 = .ok (.aload_n 0, 1) := by decide +kernel
theorem dX10_valueOf_1 : decode mX10_valueOf.2.1 1 = .ok (.iload_n 1, 1) := by decide +kernel
theorem dX10_valueOf_2 : decode mX10_valueOf.2.1 2 = .ok (.iload_n 2, 1) := by decide +kernel
theorem dX10_valueOf_3 : decode mX10_valueOf.2.1 3 = .ok (.invokevirtual 106, 3) := by decide +kernel
theorem dX10_valueOf_6 : decode mX10_valueOf.2.1 6 = .ok (.aload_n 0, 1) := by decide +kernel
theorem dX10_valueOf_7 : decode mX10_valueOf.2.1 7 = .ok (.iload_n 1, 1) := by decide +kernel
theorem dX10_valueOf_8 : decode mX10_valueOf.2.1 8 = .ok (.invokevirtual 109, 3) := by decide +kernel
theorem dX10_valueOf_11 : decode mX10_valueOf.2.1 11 = .ok (.ireturn, 1) := by decide +kernel
theorem dX10_inverse_0 : decode mX10_inverse.2.1 0 = .ok (.iconst 1, 1) := by decide +kernel
theorem dX10_inverse_1 : decode mX10_inverse.2.1 1 = .ok (.istore_n 2, 1) := by decide +kernel
theorem dX10_inverse_2 : decode mX10_inverse.2.1 2 = .ok (.iload_n 2, 1) := by decide +kernel
theorem dX10_inverse_3 : decode mX10_inverse.2.1 3 = .ok (.iload_n 1, 1) := by decide +kernel
theorem dX10_inverse_4 : decode mX10_inverse.2.1 4 = .ok (.imul, 1) := by decide +kernel
theorem dX10_inverse_5 : decode mX10_inverse.2.1 5 = .ok (.aload_n 0, 1) := by decide +kernel
theorem dX10_inverse_6 : decode mX10_inverse.2.1 6 = .ok (.getfield 13, 3) := by decide +kernel
theorem dX10_inverse_9 : decode mX10_inverse.2.1 9 = .ok (.irem, 1) := by decide +kernel
theorem dX10_inverse_10 : decode mX10_inverse.2.1 10 = .ok (.iconst 1, 1) := by decide +kernel
theorem dX10_inverse_11 : decode mX10_inverse.2.1 11 = .ok (.if_icmp .eq 9, 3) := by decide +kernel
theorem dX10_inverse_14 : decode mX10_inverse.2.1 14 = .ok (.iinc 2 1, 3) := by decide +kernel
theorem dX10_inverse_17 : decode mX10_inverse.2.1 17 = .ok (.goto (-15), 3) := by decide +kernel
theorem dX10_inverse_20 : decode mX10_inverse.2.1 20 = .ok (.iload_n 2, 1) := by decide +kernel
theorem dX10_inverse_21 : decode mX10_inverse.2.1 21 = .ok (.ireturn, 1) := by decide +kernel
theorem dX10_isSolved_0 : decode mX10_isSolved.2.1 0 = .ok (.iconst 0, 1) := by decide +kernel
theorem dX10_isSolved_1 : decode mX10_isSolved.2.1 1 = .ok (.istore_n 3, 1) := by decide +kernel
theorem dX10_isSolved_2 : decode mX10_isSolved.2.1 2 = .ok (.iload_n 3, 1) := by decide +kernel
theorem dX10_isSolved_3 : decode mX10_isSolved.2.1 3 = .ok (.iload_n 1, 1) := by decide +kernel
theorem dX10_isSolved_4 : decode mX10_isSolved.2.1 4 = .ok (.if_icmp .ge 145, 3) := by decide +kernel
theorem dX10_isSolved_7 : decode mX10_isSolved.2.1 7 = .ok (.iload_n 3, 1) := by decide +kernel
theorem dX10_isSolved_8 : decode mX10_isSolved.2.1 8 = .ok (.istore 4, 2) := by decide +kernel
theorem dX10_isSolved_10 : decode mX10_isSolved.2.1 10 = .ok (.iload 4, 2) := by decide +kernel
theorem dX10_isSolved_12 : decode mX10_isSolved.2.1 12 = .ok (.iload_n 2, 1) := by decide +kernel
theorem dX10_isSolved_13 : decode mX10_isSolved.2.1 13 = .ok (.if_icmp .ge 23, 3) := by decide +kernel
theorem dX10_isSolved_16 : decode mX10_isSolved.2.1 16 = .ok (.aload_n 0, 1) := by decide +kernel
theorem dX10_isSolved_17 : decode mX10_isSolved.2.1 17 = .ok (.getfield 26, 3) := by decide +kernel
theorem dX10_isSolved_20 : decode mX10_isSolved.2.1 20 = .ok (.iconst 5, 1) := by decide +kernel
theorem dX10_isSolved_21 : decode mX10_isSolved.2.1 21 = .ok (.iload 4, 2) := by decide +kernel
theorem dX10_isSolved_23 : decode mX10_isSolved.2.1 23 = .ok (.imul, 1) := by decide +kernel
theorem dX10_isSolved_24 : decode mX10_isSolved.2.1 24 = .ok (.iload_n 3, 1) := by decide +kernel
theorem dX10_isSolved_25 : decode mX10_isSolved.2.1 25 = .ok (.iadd, 1) := by decide +kernel
theorem dX10_isSolved_26 : decode mX10_isSolved.2.1 26 = .ok (.iaload, 1) := by decide +kernel
theorem dX10_isSolved_27 : decode mX10_isSolved.2.1 27 = .ok (.ifCond .ne 9, 3) := by decide +kernel
theorem dX10_isSolved_30 : decode mX10_isSolved.2.1 30 = .ok (.iinc 4 1, 3) := by decide +kernel
theorem dX10_isSolved_33 : decode mX10_isSolved.2.1 33 = .ok (.goto (-23), 3) := by decide +kernel
theorem dX10_isSolved_36 : decode mX10_isSolved.2.1 36 = .ok (.iload 4, 2) := by decide +kernel
theorem dX10_isSolved_38 : decode mX10_isSolved.2.1 38 = .ok (.iload_n 2, 1) := by decide +kernel
theorem dX10_isSolved_39 : decode mX10_isSolved.2.1 39 = .ok (.if_icmp .ne 5, 3) := by decide +kernel
theorem dX10_isSolved_42 : decode mX10_isSolved.2.1 42 = .ok (.iconst 0, 1) := by decide +kernel
theorem dX10_isSolved_43 : decode mX10_isSolved.2.1 43 = .ok (.ireturn, 1) := by decide +kernel
theorem dX10_isSolved_44 : decode mX10_isSolved.2.1 44 = .ok (.aload_n 0, 1) := by decide +kernel
theorem dX10_isSolved_45 : decode mX10_isSolved.2.1 45 = .ok (.iload_n 3, 1) := by decide +kernel
theorem dX10_isSolved_46 : decode mX10_isSolved.2.1 46 = .ok (.iload 4, 2) := by decide +kernel
theorem dX10_isSolved_48 : decode mX10_isSolved.2.1 48 = .ok (.iload_n 1, 1) := by decide +kernel
theorem dX10_isSolved_49 : decode mX10_isSolved.2.1 49 = .ok (.invokevirtual 115, 3) := by decide +kernel
theorem dX10_isSolved_52 : decode mX10_isSolved.2.1 52 = .ok (.aload_n 0, 1) := by decide +kernel
theorem dX10_isSolved_53 : decode mX10_isSolved.2.1 53 = .ok (.aload_n 0, 1) := by decide +kernel
theorem dX10_isSolved_54 : decode mX10_isSolved.2.1 54 = .ok (.getfield 26, 3) := by decide +kernel
theorem dX10_isSolved_57 : decode mX10_isSolved.2.1 57 = .ok (.iconst 5, 1) := by decide +kernel
theorem dX10_isSolved_58 : decode mX10_isSolved.2.1 58 = .ok (.iload_n 3, 1) := by decide +kernel
theorem dX10_isSolved_59 : decode mX10_isSolved.2.1 59 = .ok (.imul, 1) := by decide +kernel
theorem dX10_isSolved_60 : decode mX10_isSolved.2.1 60 = .ok (.iload_n 3, 1) := by decide +kernel
theorem dX10_isSolved_61 : decode mX10_isSolved.2.1 61 = .ok (.iadd, 1) := by decide +kernel
theorem dX10_isSolved_62 : decode mX10_isSolved.2.1 62 = .ok (.iaload, 1) := by decide +kernel
theorem dX10_isSolved_63 : decode mX10_isSolved.2.1 63 = .ok (.invokevirtual 119, 3) := by decide +kernel
theorem dX10_isSolved_66 : decode mX10_isSolved.2.1 66 = .ok (.istore 5, 2) := by decide +kernel
theorem dX10_isSolved_68 : decode mX10_isSolved.2.1 68 = .ok (.iconst 0, 1) := by decide +kernel
theorem dX10_isSolved_69 : decode mX10_isSolved.2.1 69 = .ok (.istore 6, 2) := by decide +kernel
theorem dX10_isSolved_71 : decode mX10_isSolved.2.1 71 = .ok (.iload 6, 2) := by decide +kernel
theorem dX10_isSolved_73 : decode mX10_isSolved.2.1 73 = .ok (.iload_n 1, 1) := by decide +kernel
theorem dX10_isSolved_74 : decode mX10_isSolved.2.1 74 = .ok (.if_icmp .gt 39, 3) := by decide +kernel
theorem dX10_isSolved_77 : decode mX10_isSolved.2.1 77 = .ok (.aload_n 0, 1) := by decide +kernel
theorem dX10_isSolved_78 : decode mX10_isSolved.2.1 78 = .ok (.getfield 26, 3) := by decide +kernel
theorem dX10_isSolved_81 : decode mX10_isSolved.2.1 81 = .ok (.iconst 5, 1) := by decide +kernel
theorem dX10_isSolved_82 : decode mX10_isSolved.2.1 82 = .ok (.iload_n 3, 1) := by decide +kernel
theorem dX10_isSolved_83 : decode mX10_isSolved.2.1 83 = .ok (.imul, 1) := by decide +kernel
theorem dX10_isSolved_84 : decode mX10_isSolved.2.1 84 = .ok (.iload 6, 2) := by decide +kernel
theorem dX10_isSolved_86 : decode mX10_isSolved.2.1 86 = .ok (.iadd, 1) := by decide +kernel
theorem dX10_isSolved_87 : decode mX10_isSolved.2.1 87 = .ok (.aload_n 0, 1) := by decide +kernel
theorem dX10_isSolved_88 : decode mX10_isSolved.2.1 88 = .ok (.getfield 26, 3) := by decide +kernel
theorem dX10_isSolved_91 : decode mX10_isSolved.2.1 91 = .ok (.iconst 5, 1) := by decide +kernel
theorem dX10_isSolved_92 : decode mX10_isSolved.2.1 92 = .ok (.iload_n 3, 1) := by decide +kernel
theorem dX10_isSolved_93 : decode mX10_isSolved.2.1 93 = .ok (.imul, 1) := by decide +kernel
theorem dX10_isSolved_94 : decode mX10_isSolved.2.1 94 = .ok (.iload 6, 2) := by decide +kernel
theorem dX10_isSolved_96 : decode mX10_isSolved.2.1 96 = .ok (.iadd, 1) := by decide +kernel
theorem dX10_isSolved_97 : decode mX10_isSolved.2.1 97 = .ok (.iaload, 1) := by decide +kernel
theorem dX10_isSolved_98 : decode mX10_isSolved.2.1 98 = .ok (.iload 5, 2) := by decide +kernel
theorem dX10_isSolved_100 : decode mX10_isSolved.2.1 100 = .ok (.imul, 1) := by decide +kernel
theorem dX10_isSolved_101 : decode mX10_isSolved.2.1 101 = .ok (.aload_n 0, 1) := by decide +kernel
theorem dX10_isSolved_102 : decode mX10_isSolved.2.1 102 = .ok (.getfield 13, 3) := by decide +kernel
theorem dX10_isSolved_105 : decode mX10_isSolved.2.1 105 = .ok (.irem, 1) := by decide +kernel
theorem dX10_isSolved_106 : decode mX10_isSolved.2.1 106 = .ok (.iastore, 1) := by decide +kernel
theorem dX10_isSolved_107 : decode mX10_isSolved.2.1 107 = .ok (.iinc 6 1, 3) := by decide +kernel
theorem dX10_isSolved_110 : decode mX10_isSolved.2.1 110 = .ok (.goto (-39), 3) := by decide +kernel
theorem dX10_isSolved_113 : decode mX10_isSolved.2.1 113 = .ok (.iconst 0, 1) := by decide +kernel
theorem dX10_isSolved_114 : decode mX10_isSolved.2.1 114 = .ok (.istore 6, 2) := by decide +kernel
theorem dX10_isSolved_116 : decode mX10_isSolved.2.1 116 = .ok (.iload 6, 2) := by decide +kernel
theorem dX10_isSolved_118 : decode mX10_isSolved.2.1 118 = .ok (.iload_n 2, 1) := by decide +kernel
theorem dX10_isSolved_119 : decode mX10_isSolved.2.1 119 = .ok (.if_icmp .ge 24, 3) := by decide +kernel
theorem dX10_isSolved_122 : decode mX10_isSolved.2.1 122 = .ok (.iload 6, 2) := by decide +kernel
theorem dX10_isSolved_124 : decode mX10_isSolved.2.1 124 = .ok (.iload_n 3, 1) := by decide +kernel
theorem dX10_isSolved_125 : decode mX10_isSolved.2.1 125 = .ok (.if_icmp .eq 12, 3) := by decide +kernel
theorem dX10_isSolved_128 : decode mX10_isSolved.2.1 128 = .ok (.aload_n 0, 1) := by decide +kernel
theorem dX10_isSolved_129 : decode mX10_isSolved.2.1 129 = .ok (.iload 6, 2) := by decide +kernel
theorem dX10_isSolved_131 : decode mX10_isSolved.2.1 131 = .ok (.iload_n 3, 1) := by decide +kernel
theorem dX10_isSolved_132 : decode mX10_isSolved.2.1 132 = .ok (.iload_n 1, 1) := by decide +kernel
theorem dX10_isSolved_133 : decode mX10_isSolved.2.1 133 = .ok (.iload_n 3, 1) := by decide +kernel
theorem dX10_isSolved_134 : decode mX10_isSolved.2.1 134 = .ok (.invokevirtual 122, 3) := by decide +kernel
theorem dX10_isSolved_137 : decode mX10_isSolved.2.1 137 = .ok (.iinc 6 1, 3) := by decide +kernel
theorem dX10_isSolved_140 : decode mX10_isSolved.2.1 140 = .ok (.goto (-24), 3) := by decide +kernel
theorem dX10_isSolved_143 : decode mX10_isSolved.2.1 143 = .ok (.iinc 3 1, 3) := by decide +kernel
theorem dX10_isSolved_146 : decode mX10_isSolved.2.1 146 = .ok (.goto (-144), 3) := by decide +kernel
theorem dX10_isSolved_149 : decode mX10_isSolved.2.1 149 = .ok (.iconst 1, 1) := by decide +kernel
theorem dX10_isSolved_150 : decode mX10_isSolved.2.1 150 = .ok (.istore_n 3, 1) := by decide +kernel
theorem dX10_isSolved_151 : decode mX10_isSolved.2.1 151 = .ok (.iload_n 1, 1) := by decide +kernel
theorem dX10_isSolved_152 : decode mX10_isSolved.2.1 152 = .ok (.istore 4, 2) := by decide +kernel
theorem dX10_isSolved_154 : decode mX10_isSolved.2.1 154 = .ok (.iload 4, 2) := by decide +kernel
theorem dX10_isSolved_156 : decode mX10_isSolved.2.1 156 = .ok (.iload_n 2, 1) := by decide +kernel
theorem dX10_isSolved_157 : decode mX10_isSolved.2.1 157 = .ok (.if_icmp .ge 33, 3) := by decide +kernel
theorem dX10_isSolved_160 : decode mX10_isSolved.2.1 160 = .ok (.iload_n 3, 1) := by decide +kernel
theorem dX10_isSolved_161 : decode mX10_isSolved.2.1 161 = .ok (.ifCond .eq 21, 3) := by decide +kernel
theorem dX10_isSolved_164 : decode mX10_isSolved.2.1 164 = .ok (.aload_n 0, 1) := by decide +kernel
theorem dX10_isSolved_165 : decode mX10_isSolved.2.1 165 = .ok (.getfield 26, 3) := by decide +kernel
theorem dX10_isSolved_168 : decode mX10_isSolved.2.1 168 = .ok (.iconst 5, 1) := by decide +kernel
theorem dX10_isSolved_169 : decode mX10_isSolved.2.1 169 = .ok (.iload 4, 2) := by decide +kernel
theorem dX10_isSolved_171 : decode mX10_isSolved.2.1 171 = .ok (.imul, 1) := by decide +kernel
theorem dX10_isSolved_172 : decode mX10_isSolved.2.1 172 = .ok (.iload_n 1, 1) := by decide +kernel
theorem dX10_isSolved_173 : decode mX10_isSolved.2.1 173 = .ok (.iadd, 1) := by decide +kernel
theorem dX10_isSolved_174 : decode mX10_isSolved.2.1 174 = .ok (.iaload, 1) := by decide +kernel
theorem dX10_isSolved_175 : decode mX10_isSolved.2.1 175 = .ok (.ifCond .ne 7, 3) := by decide +kernel
theorem dX10_isSolved_178 : decode mX10_isSolved.2.1 178 = .ok (.iconst 1, 1) := by decide +kernel
theorem dX10_isSolved_179 : decode mX10_isSolved.2.1 179 = .ok (.goto 4, 3) := by decide +kernel
theorem dX10_isSolved_182 : decode mX10_isSolved.2.1 182 = .ok (.iconst 0, 1) := by decide +kernel
theorem dX10_isSolved_183 : decode mX10_isSolved.2.1 183 = .ok (.istore_n 3, 1) := by decide +kernel
theorem dX10_isSolved_184 : decode mX10_isSolved.2.1 184 = .ok (.iinc 4 1, 3) := by decide +kernel
theorem dX10_isSolved_187 : decode mX10_isSolved.2.1 187 = .ok (.goto (-33), 3) := by decide +kernel
theorem dX10_isSolved_190 : decode mX10_isSolved.2.1 190 = .ok (.iconst 0, 1) := by decide +kernel
theorem dX10_isSolved_191 : decode mX10_isSolved.2.1 191 = .ok (.istore 4, 2) := by decide +kernel
theorem dX10_isSolved_193 : decode mX10_isSolved.2.1 193 = .ok (.iload 4, 2) := by decide +kernel
theorem dX10_isSolved_195 : decode mX10_isSolved.2.1 195 = .ok (.iload_n 1, 1) := by decide +kernel
theorem dX10_isSolved_196 : decode mX10_isSolved.2.1 196 = .ok (.if_icmp .ge 27, 3) := by decide +kernel
theorem dX10_isSolved_199 : decode mX10_isSolved.2.1 199 = .ok (.aload_n 0, 1) := by decide +kernel
theorem dX10_isSolved_200 : decode mX10_isSolved.2.1 200 = .ok (.getfield 29, 3) := by decide +kernel
theorem dX10_isSolved_203 : decode mX10_isSolved.2.1 203 = .ok (.iload 4, 2) := by decide +kernel
theorem dX10_isSolved_205 : decode mX10_isSolved.2.1 205 = .ok (.aload_n 0, 1) := by decide +kernel
theorem dX10_isSolved_206 : decode mX10_isSolved.2.1 206 = .ok (.getfield 26, 3) := by decide +kernel
theorem dX10_isSolved_209 : decode mX10_isSolved.2.1 209 = .ok (.iconst 5, 1) := by decide +kernel
theorem dX10_isSolved_210 : decode mX10_isSolved.2.1 210 = .ok (.iload 4, 2) := by decide +kernel
theorem dX10_isSolved_212 : decode mX10_isSolved.2.1 212 = .ok (.imul, 1) := by decide +kernel
theorem dX10_isSolved_213 : decode mX10_isSolved.2.1 213 = .ok (.iload_n 1, 1) := by decide +kernel
theorem dX10_isSolved_214 : decode mX10_isSolved.2.1 214 = .ok (.iadd, 1) := by decide +kernel
theorem dX10_isSolved_215 : decode mX10_isSolved.2.1 215 = .ok (.iaload, 1) := by decide +kernel
theorem dX10_isSolved_216 : decode mX10_isSolved.2.1 216 = .ok (.iastore, 1) := by decide +kernel
theorem dX10_isSolved_217 : decode mX10_isSolved.2.1 217 = .ok (.iinc 4 1, 3) := by decide +kernel
theorem dX10_isSolved_220 : decode mX10_isSolved.2.1 220 = .ok (.goto (-27), 3) := by decide +kernel
theorem dX10_isSolved_223 : decode mX10_isSolved.2.1 223 = .ok (.iload_n 3, 1) := by decide +kernel
theorem dX10_isSolved_224 : decode mX10_isSolved.2.1 224 = .ok (.ireturn, 1) := by decide +kernel
theorem dX10_bases_0 : decode mX10_bases.2.1 0 = .ok (.aload_n 0, 1) := by decide +kernel
theorem dX10_bases_1 : decode mX10_bases.2.1 1 = .ok (.iconst 0, 1) := by decide +kernel
theorem dX10_bases_2 : decode mX10_bases.2.1 2 = .ok (.putfield 170, 3) := by decide +kernel
theorem dX10_bases_5 : decode mX10_bases.2.1 5 = .ok (.iconst 0, 1) := by decide +kernel
theorem dX10_bases_6 : decode mX10_bases.2.1 6 = .ok (.istore_n 2, 1) := by decide +kernel
theorem dX10_bases_7 : decode mX10_bases.2.1 7 = .ok (.iload_n 2, 1) := by decide +kernel
theorem dX10_bases_8 : decode mX10_bases.2.1 8 = .ok (.aload_n 0, 1) := by decide +kernel
theorem dX10_bases_9 : decode mX10_bases.2.1 9 = .ok (.iconst 4, 1) := by decide +kernel
theorem dX10_bases_10 : decode mX10_bases.2.1 10 = .ok (.invokevirtual 89, 3) := by decide +kernel
theorem dX10_bases_13 : decode mX10_bases.2.1 13 = .ok (.if_icmp .ge 38, 3) := by decide +kernel
theorem dX10_bases_16 : decode mX10_bases.2.1 16 = .ok (.aload_n 0, 1) := by decide +kernel
theorem dX10_bases_17 : decode mX10_bases.2.1 17 = .ok (.iload_n 1, 1) := by decide +kernel
theorem dX10_bases_18 : decode mX10_bases.2.1 18 = .ok (.iload_n 2, 1) := by decide +kernel
theorem dX10_bases_19 : decode mX10_bases.2.1 19 = .ok (.invokevirtual 173, 3) := by decide +kernel
theorem dX10_bases_22 : decode mX10_bases.2.1 22 = .ok (.ifCond .ne 23, 3) := by decide +kernel
theorem dX10_bases_25 : decode mX10_bases.2.1 25 = .ok (.aload_n 0, 1) := by decide +kernel
theorem dX10_bases_26 : decode mX10_bases.2.1 26 = .ok (.getfield 38, 3) := by decide +kernel
theorem dX10_bases_29 : decode mX10_bases.2.1 29 = .ok (.aload_n 0, 1) := by decide +kernel
theorem dX10_bases_30 : decode mX10_bases.2.1 30 = .ok (.getfield 170, 3) := by decide +kernel
theorem dX10_bases_33 : decode mX10_bases.2.1 33 = .ok (.iload_n 2, 1) := by decide +kernel
theorem dX10_bases_34 : decode mX10_bases.2.1 34 = .ok (.iastore, 1) := by decide +kernel
theorem dX10_bases_35 : decode mX10_bases.2.1 35 = .ok (.aload_n 0, 1) := by decide +kernel
theorem dX10_bases_36 : decode mX10_bases.2.1 36 = .ok (.dup, 1) := by decide +kernel
theorem dX10_bases_37 : decode mX10_bases.2.1 37 = .ok (.getfield 170, 3) := by decide +kernel
theorem dX10_bases_40 : decode mX10_bases.2.1 40 = .ok (.iconst 1, 1) := by decide +kernel
theorem dX10_bases_41 : decode mX10_bases.2.1 41 = .ok (.iadd, 1) := by decide +kernel
theorem dX10_bases_42 : decode mX10_bases.2.1 42 = .ok (.putfield 170, 3) := by decide +kernel
theorem dX10_bases_45 : decode mX10_bases.2.1 45 = .ok (.iinc 2 1, 3) := by decide +kernel
theorem dX10_bases_48 : decode mX10_bases.2.1 48 = .ok (.goto (-41), 3) := by decide +kernel
theorem dX10_bases_51 : decode mX10_bases.2.1 51 = .ok (.return_, 1) := by decide +kernel
theorem dX10_isTold_0 : decode mX10_isTold.2.1 0 = .ok (.iconst 0, 1) := by decide +kernel
theorem dX10_isTold_1 : decode mX10_isTold.2.1 1 = .ok (.istore_n 2, 1) := by decide +kernel
theorem dX10_isTold_2 : decode mX10_isTold.2.1 2 = .ok (.iload_n 2, 1) := by decide +kernel
theorem dX10_isTold_3 : decode mX10_isTold.2.1 3 = .ok (.aload_n 0, 1) := by decide +kernel
theorem dX10_isTold_4 : decode mX10_isTold.2.1 4 = .ok (.getfield 129, 3) := by decide +kernel
theorem dX10_isTold_7 : decode mX10_isTold.2.1 7 = .ok (.if_icmp .ge 85, 3) := by decide +kernel
theorem dX10_isTold_10 : decode mX10_isTold.2.1 10 = .ok (.iconst 0, 1) := by decide +kernel
theorem dX10_isTold_11 : decode mX10_isTold.2.1 11 = .ok (.istore_n 3, 1) := by decide +kernel
theorem dX10_isTold_12 : decode mX10_isTold.2.1 12 = .ok (.iload_n 3, 1) := by decide +kernel
theorem dX10_isTold_13 : decode mX10_isTold.2.1 13 = .ok (.aload_n 0, 1) := by decide +kernel
theorem dX10_isTold_14 : decode mX10_isTold.2.1 14 = .ok (.getfield 126, 3) := by decide +kernel
theorem dX10_isTold_17 : decode mX10_isTold.2.1 17 = .ok (.if_icmp .ge 40, 3) := by decide +kernel
theorem dX10_isTold_20 : decode mX10_isTold.2.1 20 = .ok (.aload_n 0, 1) := by decide +kernel
theorem dX10_isTold_21 : decode mX10_isTold.2.1 21 = .ok (.getfield 26, 3) := by decide +kernel
theorem dX10_isTold_24 : decode mX10_isTold.2.1 24 = .ok (.iconst 5, 1) := by decide +kernel
theorem dX10_isTold_25 : decode mX10_isTold.2.1 25 = .ok (.iload_n 2, 1) := by decide +kernel
theorem dX10_isTold_26 : decode mX10_isTold.2.1 26 = .ok (.imul, 1) := by decide +kernel
theorem dX10_isTold_27 : decode mX10_isTold.2.1 27 = .ok (.iload_n 3, 1) := by decide +kernel
theorem dX10_isTold_28 : decode mX10_isTold.2.1 28 = .ok (.iadd, 1) := by decide +kernel
theorem dX10_isTold_29 : decode mX10_isTold.2.1 29 = .ok (.aload_n 0, 1) := by decide +kernel
theorem dX10_isTold_30 : decode mX10_isTold.2.1 30 = .ok (.iconst 0, 1) := by decide +kernel
theorem dX10_isTold_31 : decode mX10_isTold.2.1 31 = .ok (.aload_n 0, 1) := by decide +kernel
theorem dX10_isTold_32 : decode mX10_isTold.2.1 32 = .ok (.aload_n 0, 1) := by decide +kernel
theorem dX10_isTold_33 : decode mX10_isTold.2.1 33 = .ok (.getfield 32, 3) := by decide +kernel
theorem dX10_isTold_36 : decode mX10_isTold.2.1 36 = .ok (.iload_n 3, 1) := by decide +kernel
theorem dX10_isTold_37 : decode mX10_isTold.2.1 37 = .ok (.iaload, 1) := by decide +kernel
theorem dX10_isTold_38 : decode mX10_isTold.2.1 38 = .ok (.aload_n 0, 1) := by decide +kernel
theorem dX10_isTold_39 : decode mX10_isTold.2.1 39 = .ok (.getfield 35, 3) := by decide +kernel
theorem dX10_isTold_42 : decode mX10_isTold.2.1 42 = .ok (.iload_n 2, 1) := by decide +kernel
theorem dX10_isTold_43 : decode mX10_isTold.2.1 43 = .ok (.iaload, 1) := by decide +kernel
theorem dX10_isTold_44 : decode mX10_isTold.2.1 44 = .ok (.invokevirtual 139, 3) := by decide +kernel
theorem dX10_isTold_47 : decode mX10_isTold.2.1 47 = .ok (.invokevirtual 112, 3) := by decide +kernel
theorem dX10_isTold_50 : decode mX10_isTold.2.1 50 = .ok (.iastore, 1) := by decide +kernel
theorem dX10_isTold_51 : decode mX10_isTold.2.1 51 = .ok (.iinc 3 1, 3) := by decide +kernel
theorem dX10_isTold_54 : decode mX10_isTold.2.1 54 = .ok (.goto (-42), 3) := by decide +kernel
theorem dX10_isTold_57 : decode mX10_isTold.2.1 57 = .ok (.aload_n 0, 1) := by decide +kernel
theorem dX10_isTold_58 : decode mX10_isTold.2.1 58 = .ok (.getfield 26, 3) := by decide +kernel
theorem dX10_isTold_61 : decode mX10_isTold.2.1 61 = .ok (.iconst 5, 1) := by decide +kernel
theorem dX10_isTold_62 : decode mX10_isTold.2.1 62 = .ok (.iload_n 2, 1) := by decide +kernel
theorem dX10_isTold_63 : decode mX10_isTold.2.1 63 = .ok (.imul, 1) := by decide +kernel
theorem dX10_isTold_64 : decode mX10_isTold.2.1 64 = .ok (.aload_n 0, 1) := by decide +kernel
theorem dX10_isTold_65 : decode mX10_isTold.2.1 65 = .ok (.getfield 126, 3) := by decide +kernel
theorem dX10_isTold_68 : decode mX10_isTold.2.1 68 = .ok (.iadd, 1) := by decide +kernel
theorem dX10_isTold_69 : decode mX10_isTold.2.1 69 = .ok (.aload_n 0, 1) := by decide +kernel
theorem dX10_isTold_70 : decode mX10_isTold.2.1 70 = .ok (.iconst 0, 1) := by decide +kernel
theorem dX10_isTold_71 : decode mX10_isTold.2.1 71 = .ok (.aload_n 0, 1) := by decide +kernel
theorem dX10_isTold_72 : decode mX10_isTold.2.1 72 = .ok (.iload_n 1, 1) := by decide +kernel
theorem dX10_isTold_73 : decode mX10_isTold.2.1 73 = .ok (.aload_n 0, 1) := by decide +kernel
theorem dX10_isTold_74 : decode mX10_isTold.2.1 74 = .ok (.getfield 35, 3) := by decide +kernel
theorem dX10_isTold_77 : decode mX10_isTold.2.1 77 = .ok (.iload_n 2, 1) := by decide +kernel
theorem dX10_isTold_78 : decode mX10_isTold.2.1 78 = .ok (.iaload, 1) := by decide +kernel
theorem dX10_isTold_79 : decode mX10_isTold.2.1 79 = .ok (.invokevirtual 139, 3) := by decide +kernel
theorem dX10_isTold_82 : decode mX10_isTold.2.1 82 = .ok (.invokevirtual 112, 3) := by decide +kernel
theorem dX10_isTold_85 : decode mX10_isTold.2.1 85 = .ok (.iastore, 1) := by decide +kernel
theorem dX10_isTold_86 : decode mX10_isTold.2.1 86 = .ok (.iinc 2 1, 3) := by decide +kernel
theorem dX10_isTold_89 : decode mX10_isTold.2.1 89 = .ok (.goto (-87), 3) := by decide +kernel
theorem dX10_isTold_92 : decode mX10_isTold.2.1 92 = .ok (.aload_n 0, 1) := by decide +kernel
theorem dX10_isTold_93 : decode mX10_isTold.2.1 93 = .ok (.aload_n 0, 1) := by decide +kernel
theorem dX10_isTold_94 : decode mX10_isTold.2.1 94 = .ok (.getfield 126, 3) := by decide +kernel
theorem dX10_isTold_97 : decode mX10_isTold.2.1 97 = .ok (.aload_n 0, 1) := by decide +kernel
theorem dX10_isTold_98 : decode mX10_isTold.2.1 98 = .ok (.getfield 129, 3) := by decide +kernel
theorem dX10_isTold_101 : decode mX10_isTold.2.1 101 = .ok (.invokevirtual 142, 3) := by decide +kernel
theorem dX10_isTold_104 : decode mX10_isTold.2.1 104 = .ok (.ireturn, 1) := by decide +kernel
theorem dX10_lacking_0 : decode mX10_lacking.2.1 0 = .ok (.aload_n 0, 1) := by decide +kernel
theorem dX10_lacking_1 : decode mX10_lacking.2.1 1 = .ok (.getfield 126, 3) := by decide +kernel
theorem dX10_lacking_4 : decode mX10_lacking.2.1 4 = .ok (.ifCond .ne 18, 3) := by decide +kernel
theorem dX10_lacking_7 : decode mX10_lacking.2.1 7 = .ok (.aload_n 0, 1) := by decide +kernel
theorem dX10_lacking_8 : decode mX10_lacking.2.1 8 = .ok (.iconst 0, 1) := by decide +kernel
theorem dX10_lacking_9 : decode mX10_lacking.2.1 9 = .ok (.invokevirtual 146, 3) := by decide +kernel
theorem dX10_lacking_12 : decode mX10_lacking.2.1 12 = .ok (.ifCond .eq 8, 3) := by decide +kernel
theorem dX10_lacking_15 : decode mX10_lacking.2.1 15 = .ok (.bipush (-4), 2) := by decide +kernel
theorem dX10_lacking_17 : decode mX10_lacking.2.1 17 = .ok (.goto 4, 3) := by decide +kernel
theorem dX10_lacking_20 : decode mX10_lacking.2.1 20 = .ok (.iconst 0, 1) := by decide +kernel
theorem dX10_lacking_21 : decode mX10_lacking.2.1 21 = .ok (.ireturn, 1) := by decide +kernel
theorem dX10_lacking_22 : decode mX10_lacking.2.1 22 = .ok (.iconst 0, 1) := by decide +kernel
theorem dX10_lacking_23 : decode mX10_lacking.2.1 23 = .ok (.istore_n 1, 1) := by decide +kernel
theorem dX10_lacking_24 : decode mX10_lacking.2.1 24 = .ok (.iload_n 1, 1) := by decide +kernel
theorem dX10_lacking_25 : decode mX10_lacking.2.1 25 = .ok (.aload_n 0, 1) := by decide +kernel
theorem dX10_lacking_26 : decode mX10_lacking.2.1 26 = .ok (.getfield 126, 3) := by decide +kernel
theorem dX10_lacking_29 : decode mX10_lacking.2.1 29 = .ok (.if_icmp .ge 50, 3) := by decide +kernel
theorem dX10_lacking_32 : decode mX10_lacking.2.1 32 = .ok (.iconst 0, 1) := by decide +kernel
theorem dX10_lacking_33 : decode mX10_lacking.2.1 33 = .ok (.istore_n 2, 1) := by decide +kernel
theorem dX10_lacking_34 : decode mX10_lacking.2.1 34 = .ok (.iload_n 2, 1) := by decide +kernel
theorem dX10_lacking_35 : decode mX10_lacking.2.1 35 = .ok (.aload_n 0, 1) := by decide +kernel
theorem dX10_lacking_36 : decode mX10_lacking.2.1 36 = .ok (.getfield 17, 3) := by decide +kernel
theorem dX10_lacking_39 : decode mX10_lacking.2.1 39 = .ok (.if_icmp .ge 34, 3) := by decide +kernel
theorem dX10_lacking_42 : decode mX10_lacking.2.1 42 = .ok (.aload_n 0, 1) := by decide +kernel
theorem dX10_lacking_43 : decode mX10_lacking.2.1 43 = .ok (.aload_n 0, 1) := by decide +kernel
theorem dX10_lacking_44 : decode mX10_lacking.2.1 44 = .ok (.getfield 32, 3) := by decide +kernel
theorem dX10_lacking_47 : decode mX10_lacking.2.1 47 = .ok (.iload_n 1, 1) := by decide +kernel
theorem dX10_lacking_48 : decode mX10_lacking.2.1 48 = .ok (.iaload, 1) := by decide +kernel
theorem dX10_lacking_49 : decode mX10_lacking.2.1 49 = .ok (.iload_n 2, 1) := by decide +kernel
theorem dX10_lacking_50 : decode mX10_lacking.2.1 50 = .ok (.invokestatic 149, 3) := by decide +kernel
theorem dX10_lacking_53 : decode mX10_lacking.2.1 53 = .ok (.invokevirtual 139, 3) := by decide +kernel
theorem dX10_lacking_56 : decode mX10_lacking.2.1 56 = .ok (.istore_n 3, 1) := by decide +kernel
theorem dX10_lacking_57 : decode mX10_lacking.2.1 57 = .ok (.aload_n 0, 1) := by decide +kernel
theorem dX10_lacking_58 : decode mX10_lacking.2.1 58 = .ok (.iload_n 3, 1) := by decide +kernel
theorem dX10_lacking_59 : decode mX10_lacking.2.1 59 = .ok (.invokevirtual 146, 3) := by decide +kernel
theorem dX10_lacking_62 : decode mX10_lacking.2.1 62 = .ok (.ifCond .ne 5, 3) := by decide +kernel
theorem dX10_lacking_65 : decode mX10_lacking.2.1 65 = .ok (.iload_n 3, 1) := by decide +kernel
theorem dX10_lacking_66 : decode mX10_lacking.2.1 66 = .ok (.ireturn, 1) := by decide +kernel
theorem dX10_lacking_67 : decode mX10_lacking.2.1 67 = .ok (.iinc 2 1, 3) := by decide +kernel
theorem dX10_lacking_70 : decode mX10_lacking.2.1 70 = .ok (.goto (-36), 3) := by decide +kernel
theorem dX10_lacking_73 : decode mX10_lacking.2.1 73 = .ok (.iinc 1 1, 3) := by decide +kernel
theorem dX10_lacking_76 : decode mX10_lacking.2.1 76 = .ok (.goto (-52), 3) := by decide +kernel
theorem dX10_lacking_79 : decode mX10_lacking.2.1 79 = .ok (.bipush (-4), 2) := by decide +kernel
theorem dX10_lacking_81 : decode mX10_lacking.2.1 81 = .ok (.ireturn, 1) := by decide +kernel
theorem dX10_shelvesThere_0 : decode mX10_shelvesThere.2.1 0 = .ok (.iconst 0, 1) := by decide +kernel
theorem dX10_shelvesThere_1 : decode mX10_shelvesThere.2.1 1 = .ok (.istore_n 1, 1) := by decide +kernel
theorem dX10_shelvesThere_2 : decode mX10_shelvesThere.2.1 2 = .ok (.iconst 0, 1) := by decide +kernel
theorem dX10_shelvesThere_3 : decode mX10_shelvesThere.2.1 3 = .ok (.istore_n 2, 1) := by decide +kernel
theorem dX10_shelvesThere_4 : decode mX10_shelvesThere.2.1 4 = .ok (.iload_n 2, 1) := by decide +kernel
theorem dX10_shelvesThere_5 : decode mX10_shelvesThere.2.1 5 = .ok (.iconst 3, 1) := by decide +kernel
theorem dX10_shelvesThere_6 : decode mX10_shelvesThere.2.1 6 = .ok (.if_icmp .ge 28, 3) := by decide +kernel
theorem dX10_shelvesThere_9 : decode mX10_shelvesThere.2.1 9 = .ok (.iload_n 1, 1) := by decide +kernel
theorem dX10_shelvesThere_10 : decode mX10_shelvesThere.2.1 10 = .ok (.aload_n 0, 1) := by decide +kernel
theorem dX10_shelvesThere_11 : decode mX10_shelvesThere.2.1 11 = .ok (.getfield 69, 3) := by decide +kernel
theorem dX10_shelvesThere_14 : decode mX10_shelvesThere.2.1 14 = .ok (.iload_n 2, 1) := by decide +kernel
theorem dX10_shelvesThere_15 : decode mX10_shelvesThere.2.1 15 = .ok (.iaload, 1) := by decide +kernel
theorem dX10_shelvesThere_16 : decode mX10_shelvesThere.2.1 16 = .ok (.bipush (-4), 2) := by decide +kernel
theorem dX10_shelvesThere_18 : decode mX10_shelvesThere.2.1 18 = .ok (.if_icmp .ne 7, 3) := by decide +kernel
theorem dX10_shelvesThere_21 : decode mX10_shelvesThere.2.1 21 = .ok (.iconst 0, 1) := by decide +kernel
theorem dX10_shelvesThere_22 : decode mX10_shelvesThere.2.1 22 = .ok (.goto 4, 3) := by decide +kernel
theorem dX10_shelvesThere_25 : decode mX10_shelvesThere.2.1 25 = .ok (.iconst 1, 1) := by decide +kernel
theorem dX10_shelvesThere_26 : decode mX10_shelvesThere.2.1 26 = .ok (.iadd, 1) := by decide +kernel
theorem dX10_shelvesThere_27 : decode mX10_shelvesThere.2.1 27 = .ok (.istore_n 1, 1) := by decide +kernel
theorem dX10_shelvesThere_28 : decode mX10_shelvesThere.2.1 28 = .ok (.iinc 2 1, 3) := by decide +kernel
theorem dX10_shelvesThere_31 : decode mX10_shelvesThere.2.1 31 = .ok (.goto (-27), 3) := by decide +kernel
theorem dX10_shelvesThere_34 : decode mX10_shelvesThere.2.1 34 = .ok (.iload_n 1, 1) := by decide +kernel
theorem dX10_shelvesThere_35 : decode mX10_shelvesThere.2.1 35 = .ok (.ireturn, 1) := by decide +kernel
theorem dX10_lessens_0 : decode mX10_lessens.2.1 0 = .ok (.aload_n 0, 1) := by decide +kernel
theorem dX10_lessens_1 : decode mX10_lessens.2.1 1 = .ok (.iconst 0, 1) := by decide +kernel
theorem dX10_lessens_2 : decode mX10_lessens.2.1 2 = .ok (.invokevirtual 176, 3) := by decide +kernel
theorem dX10_lessens_5 : decode mX10_lessens.2.1 5 = .ok (.aload_n 0, 1) := by decide +kernel
theorem dX10_lessens_6 : decode mX10_lessens.2.1 6 = .ok (.iconst 2, 1) := by decide +kernel
theorem dX10_lessens_7 : decode mX10_lessens.2.1 7 = .ok (.invokevirtual 156, 3) := by decide +kernel
theorem dX10_lessens_10 : decode mX10_lessens.2.1 10 = .ok (.aload_n 0, 1) := by decide +kernel
theorem dX10_lessens_11 : decode mX10_lessens.2.1 11 = .ok (.getfield 7, 3) := by decide +kernel
theorem dX10_lessens_14 : decode mX10_lessens.2.1 14 = .ok (.aload_n 0, 1) := by decide +kernel
theorem dX10_lessens_15 : decode mX10_lessens.2.1 15 = .ok (.iconst 2, 1) := by decide +kernel
theorem dX10_lessens_16 : decode mX10_lessens.2.1 16 = .ok (.iconst 0, 1) := by decide +kernel
theorem dX10_lessens_17 : decode mX10_lessens.2.1 17 = .ok (.invokevirtual 81, 3) := by decide +kernel
theorem dX10_lessens_20 : decode mX10_lessens.2.1 20 = .ok (.aload_n 0, 1) := by decide +kernel
theorem dX10_lessens_21 : decode mX10_lessens.2.1 21 = .ok (.getfield 170, 3) := by decide +kernel
theorem dX10_lessens_24 : decode mX10_lessens.2.1 24 = .ok (.iastore, 1) := by decide +kernel
theorem dX10_lessens_25 : decode mX10_lessens.2.1 25 = .ok (.iconst 0, 1) := by decide +kernel
theorem dX10_lessens_26 : decode mX10_lessens.2.1 26 = .ok (.istore_n 1, 1) := by decide +kernel
theorem dX10_lessens_27 : decode mX10_lessens.2.1 27 = .ok (.iload_n 1, 1) := by decide +kernel
theorem dX10_lessens_28 : decode mX10_lessens.2.1 28 = .ok (.aload_n 0, 1) := by decide +kernel
theorem dX10_lessens_29 : decode mX10_lessens.2.1 29 = .ok (.getfield 170, 3) := by decide +kernel
theorem dX10_lessens_32 : decode mX10_lessens.2.1 32 = .ok (.if_icmp .ge 121, 3) := by decide +kernel
theorem dX10_lessens_35 : decode mX10_lessens.2.1 35 = .ok (.aload_n 0, 1) := by decide +kernel
theorem dX10_lessens_36 : decode mX10_lessens.2.1 36 = .ok (.getfield 7, 3) := by decide +kernel
theorem dX10_lessens_39 : decode mX10_lessens.2.1 39 = .ok (.aload_n 0, 1) := by decide +kernel
theorem dX10_lessens_40 : decode mX10_lessens.2.1 40 = .ok (.iconst 2, 1) := by decide +kernel
theorem dX10_lessens_41 : decode mX10_lessens.2.1 41 = .ok (.iconst 1, 1) := by decide +kernel
theorem dX10_lessens_42 : decode mX10_lessens.2.1 42 = .ok (.iload_n 1, 1) := by decide +kernel
theorem dX10_lessens_43 : decode mX10_lessens.2.1 43 = .ok (.iadd, 1) := by decide +kernel
theorem dX10_lessens_44 : decode mX10_lessens.2.1 44 = .ok (.invokevirtual 81, 3) := by decide +kernel
theorem dX10_lessens_47 : decode mX10_lessens.2.1 47 = .ok (.iload_n 1, 1) := by decide +kernel
theorem dX10_lessens_48 : decode mX10_lessens.2.1 48 = .ok (.ifCond .ne 7, 3) := by decide +kernel
theorem dX10_lessens_51 : decode mX10_lessens.2.1 51 = .ok (.iconst 1, 1) := by decide +kernel
theorem dX10_lessens_52 : decode mX10_lessens.2.1 52 = .ok (.goto 4, 3) := by decide +kernel
theorem dX10_lessens_55 : decode mX10_lessens.2.1 55 = .ok (.iconst 0, 1) := by decide +kernel
theorem dX10_lessens_56 : decode mX10_lessens.2.1 56 = .ok (.iastore, 1) := by decide +kernel
theorem dX10_lessens_57 : decode mX10_lessens.2.1 57 = .ok (.aload_n 0, 1) := by decide +kernel
theorem dX10_lessens_58 : decode mX10_lessens.2.1 58 = .ok (.getfield 7, 3) := by decide +kernel
theorem dX10_lessens_61 : decode mX10_lessens.2.1 61 = .ok (.aload_n 0, 1) := by decide +kernel
theorem dX10_lessens_62 : decode mX10_lessens.2.1 62 = .ok (.iconst 2, 1) := by decide +kernel
theorem dX10_lessens_63 : decode mX10_lessens.2.1 63 = .ok (.iconst 5, 1) := by decide +kernel
theorem dX10_lessens_64 : decode mX10_lessens.2.1 64 = .ok (.iload_n 1, 1) := by decide +kernel
theorem dX10_lessens_65 : decode mX10_lessens.2.1 65 = .ok (.iadd, 1) := by decide +kernel
theorem dX10_lessens_66 : decode mX10_lessens.2.1 66 = .ok (.invokevirtual 81, 3) := by decide +kernel
theorem dX10_lessens_69 : decode mX10_lessens.2.1 69 = .ok (.aload_n 0, 1) := by decide +kernel
theorem dX10_lessens_70 : decode mX10_lessens.2.1 70 = .ok (.iconst 0, 1) := by decide +kernel
theorem dX10_lessens_71 : decode mX10_lessens.2.1 71 = .ok (.aload_n 0, 1) := by decide +kernel
theorem dX10_lessens_72 : decode mX10_lessens.2.1 72 = .ok (.getfield 38, 3) := by decide +kernel
theorem dX10_lessens_75 : decode mX10_lessens.2.1 75 = .ok (.iload_n 1, 1) := by decide +kernel
theorem dX10_lessens_76 : decode mX10_lessens.2.1 76 = .ok (.iaload, 1) := by decide +kernel
theorem dX10_lessens_77 : decode mX10_lessens.2.1 77 = .ok (.invokevirtual 112, 3) := by decide +kernel
theorem dX10_lessens_80 : decode mX10_lessens.2.1 80 = .ok (.iastore, 1) := by decide +kernel
theorem dX10_lessens_81 : decode mX10_lessens.2.1 81 = .ok (.iconst 0, 1) := by decide +kernel
theorem dX10_lessens_82 : decode mX10_lessens.2.1 82 = .ok (.istore_n 2, 1) := by decide +kernel
theorem dX10_lessens_83 : decode mX10_lessens.2.1 83 = .ok (.iload_n 2, 1) := by decide +kernel
theorem dX10_lessens_84 : decode mX10_lessens.2.1 84 = .ok (.aload_n 0, 1) := by decide +kernel
theorem dX10_lessens_85 : decode mX10_lessens.2.1 85 = .ok (.getfield 17, 3) := by decide +kernel
theorem dX10_lessens_88 : decode mX10_lessens.2.1 88 = .ok (.if_icmp .ge 59, 3) := by decide +kernel
theorem dX10_lessens_91 : decode mX10_lessens.2.1 91 = .ok (.aload_n 0, 1) := by decide +kernel
theorem dX10_lessens_92 : decode mX10_lessens.2.1 92 = .ok (.iconst 0, 1) := by decide +kernel
theorem dX10_lessens_93 : decode mX10_lessens.2.1 93 = .ok (.aload_n 0, 1) := by decide +kernel
theorem dX10_lessens_94 : decode mX10_lessens.2.1 94 = .ok (.aload_n 0, 1) := by decide +kernel
theorem dX10_lessens_95 : decode mX10_lessens.2.1 95 = .ok (.getfield 38, 3) := by decide +kernel
theorem dX10_lessens_98 : decode mX10_lessens.2.1 98 = .ok (.iload_n 1, 1) := by decide +kernel
theorem dX10_lessens_99 : decode mX10_lessens.2.1 99 = .ok (.iaload, 1) := by decide +kernel
theorem dX10_lessens_100 : decode mX10_lessens.2.1 100 = .ok (.iload_n 2, 1) := by decide +kernel
theorem dX10_lessens_101 : decode mX10_lessens.2.1 101 = .ok (.invokestatic 149, 3) := by decide +kernel
theorem dX10_lessens_104 : decode mX10_lessens.2.1 104 = .ok (.invokevirtual 139, 3) := by decide +kernel
theorem dX10_lessens_107 : decode mX10_lessens.2.1 107 = .ok (.invokevirtual 173, 3) := by decide +kernel
theorem dX10_lessens_110 : decode mX10_lessens.2.1 110 = .ok (.pop, 1) := by decide +kernel
theorem dX10_lessens_111 : decode mX10_lessens.2.1 111 = .ok (.iconst 0, 1) := by decide +kernel
theorem dX10_lessens_112 : decode mX10_lessens.2.1 112 = .ok (.istore_n 3, 1) := by decide +kernel
theorem dX10_lessens_113 : decode mX10_lessens.2.1 113 = .ok (.iload_n 3, 1) := by decide +kernel
theorem dX10_lessens_114 : decode mX10_lessens.2.1 114 = .ok (.aload_n 0, 1) := by decide +kernel
theorem dX10_lessens_115 : decode mX10_lessens.2.1 115 = .ok (.getfield 170, 3) := by decide +kernel
theorem dX10_lessens_118 : decode mX10_lessens.2.1 118 = .ok (.if_icmp .ge 23, 3) := by decide +kernel
theorem dX10_lessens_121 : decode mX10_lessens.2.1 121 = .ok (.aload_n 0, 1) := by decide +kernel
theorem dX10_lessens_122 : decode mX10_lessens.2.1 122 = .ok (.iconst 2, 1) := by decide +kernel
theorem dX10_lessens_123 : decode mX10_lessens.2.1 123 = .ok (.iload_n 1, 1) := by decide +kernel
theorem dX10_lessens_124 : decode mX10_lessens.2.1 124 = .ok (.iload_n 2, 1) := by decide +kernel
theorem dX10_lessens_125 : decode mX10_lessens.2.1 125 = .ok (.iload_n 3, 1) := by decide +kernel
theorem dX10_lessens_126 : decode mX10_lessens.2.1 126 = .ok (.aload_n 0, 1) := by decide +kernel
theorem dX10_lessens_127 : decode mX10_lessens.2.1 127 = .ok (.getfield 29, 3) := by decide +kernel
theorem dX10_lessens_130 : decode mX10_lessens.2.1 130 = .ok (.iload_n 3, 1) := by decide +kernel
theorem dX10_lessens_131 : decode mX10_lessens.2.1 131 = .ok (.iaload, 1) := by decide +kernel
theorem dX10_lessens_132 : decode mX10_lessens.2.1 132 = .ok (.invokevirtual 160, 3) := by decide +kernel
theorem dX10_lessens_135 : decode mX10_lessens.2.1 135 = .ok (.iinc 3 1, 3) := by decide +kernel
theorem dX10_lessens_138 : decode mX10_lessens.2.1 138 = .ok (.goto (-25), 3) := by decide +kernel
theorem dX10_lessens_141 : decode mX10_lessens.2.1 141 = .ok (.iinc 2 1, 3) := by decide +kernel
theorem dX10_lessens_144 : decode mX10_lessens.2.1 144 = .ok (.goto (-61), 3) := by decide +kernel
theorem dX10_lessens_147 : decode mX10_lessens.2.1 147 = .ok (.iinc 1 1, 3) := by decide +kernel
theorem dX10_lessens_150 : decode mX10_lessens.2.1 150 = .ok (.goto (-123), 3) := by decide +kernel
theorem dX10_lessens_153 : decode mX10_lessens.2.1 153 = .ok (.return_, 1) := by decide +kernel
theorem dX10_isState_0 : decode mX10_isState.2.1 0 = .ok (.iload_n 2, 1) := by decide +kernel
theorem dX10_isState_1 : decode mX10_isState.2.1 1 = .ok (.i2l, 1) := by decide +kernel
theorem dX10_isState_2 : decode mX10_isState.2.1 2 = .ok (.lconst 0, 1) := by decide +kernel
theorem dX10_isState_3 : decode mX10_isState.2.1 3 = .ok (.aload_n 0, 1) := by decide +kernel
theorem dX10_isState_4 : decode mX10_isState.2.1 4 = .ok (.iload_n 1, 1) := by decide +kernel
theorem dX10_isState_5 : decode mX10_isState.2.1 5 = .ok (.invokevirtual 95, 3) := by decide +kernel
theorem dX10_isState_8 : decode mX10_isState.2.1 8 = .ok (.iconst 1, 1) := by decide +kernel
theorem dX10_isState_9 : decode mX10_isState.2.1 9 = .ok (.isub, 1) := by decide +kernel
theorem dX10_isState_10 : decode mX10_isState.2.1 10 = .ok (.i2l, 1) := by decide +kernel
theorem dX10_isState_11 : decode mX10_isState.2.1 11 = .ok (.invokestatic 181, 3) := by decide +kernel
theorem dX10_isState_14 : decode mX10_isState.2.1 14 = .ok (.ireturn, 1) := by decide +kernel
theorem dX10_isLetter_0 : decode mX10_isLetter.2.1 0 = .ok (.iload_n 1, 1) := by decide +kernel
theorem dX10_isLetter_1 : decode mX10_isLetter.2.1 1 = .ok (.i2l, 1) := by decide +kernel
theorem dX10_isLetter_2 : decode mX10_isLetter.2.1 2 = .ok (.lconst 0, 1) := by decide +kernel
theorem dX10_isLetter_3 : decode mX10_isLetter.2.1 3 = .ok (.aload_n 0, 1) := by decide +kernel
theorem dX10_isLetter_4 : decode mX10_isLetter.2.1 4 = .ok (.getfield 17, 3) := by decide +kernel
theorem dX10_isLetter_7 : decode mX10_isLetter.2.1 7 = .ok (.iconst 1, 1) := by decide +kernel
theorem dX10_isLetter_8 : decode mX10_isLetter.2.1 8 = .ok (.isub, 1) := by decide +kernel
theorem dX10_isLetter_9 : decode mX10_isLetter.2.1 9 = .ok (.i2l, 1) := by decide +kernel
theorem dX10_isLetter_10 : decode mX10_isLetter.2.1 10 = .ok (.invokestatic 181, 3) := by decide +kernel
theorem dX10_isLetter_13 : decode mX10_isLetter.2.1 13 = .ok (.ireturn, 1) := by decide +kernel
theorem dX10_value_0 : decode mX10_value.2.1 0 = .ok (.aload_n 0, 1) := by decide +kernel
theorem dX10_value_1 : decode mX10_value.2.1 1 = .ok (.iload_n 1, 1) := by decide +kernel
theorem dX10_value_2 : decode mX10_value.2.1 2 = .ok (.invokevirtual 288, 3) := by decide +kernel
theorem dX10_value_5 : decode mX10_value.2.1 5 = .ok (.istore_n 2, 1) := by decide +kernel
theorem dX10_value_6 : decode mX10_value.2.1 6 = .ok (.iload_n 2, 1) := by decide +kernel
theorem dX10_value_7 : decode mX10_value.2.1 7 = .ok (.ifCond .eq 5, 3) := by decide +kernel
theorem dX10_value_10 : decode mX10_value.2.1 10 = .ok (.iload_n 2, 1) := by decide +kernel
theorem dX10_value_11 : decode mX10_value.2.1 11 = .ok (.ireturn, 1) := by decide +kernel
theorem dX10_value_12 : decode mX10_value.2.1 12 = .ok (.aload_n 0, 1) := by decide +kernel
theorem dX10_value_13 : decode mX10_value.2.1 13 = .ok (.iload_n 1, 1) := by decide +kernel
theorem dX10_value_14 : decode mX10_value.2.1 14 = .ok (.iconst 0, 1) := by decide +kernel
theorem dX10_value_15 : decode mX10_value.2.1 15 = .ok (.invokevirtual 106, 3) := by decide +kernel
theorem dX10_value_18 : decode mX10_value.2.1 18 = .ok (.iconst 0, 1) := by decide +kernel
theorem dX10_value_19 : decode mX10_value.2.1 19 = .ok (.istore_n 3, 1) := by decide +kernel
theorem dX10_value_20 : decode mX10_value.2.1 20 = .ok (.iload_n 3, 1) := by decide +kernel
theorem dX10_value_21 : decode mX10_value.2.1 21 = .ok (.aload_n 0, 1) := by decide +kernel
theorem dX10_value_22 : decode mX10_value.2.1 22 = .ok (.getfield 267, 3) := by decide +kernel
theorem dX10_value_25 : decode mX10_value.2.1 25 = .ok (.if_icmp .ge 20, 3) := by decide +kernel
theorem dX10_value_28 : decode mX10_value.2.1 28 = .ok (.aload_n 0, 1) := by decide +kernel
theorem dX10_value_29 : decode mX10_value.2.1 29 = .ok (.iload_n 1, 1) := by decide +kernel
theorem dX10_value_30 : decode mX10_value.2.1 30 = .ok (.aload_n 0, 1) := by decide +kernel
theorem dX10_value_31 : decode mX10_value.2.1 31 = .ok (.getfield 57, 3) := by decide +kernel
theorem dX10_value_34 : decode mX10_value.2.1 34 = .ok (.iload_n 3, 1) := by decide +kernel
theorem dX10_value_35 : decode mX10_value.2.1 35 = .ok (.iaload, 1) := by decide +kernel
theorem dX10_value_36 : decode mX10_value.2.1 36 = .ok (.invokevirtual 102, 3) := by decide +kernel
theorem dX10_value_39 : decode mX10_value.2.1 39 = .ok (.iinc 3 1, 3) := by decide +kernel
theorem dX10_value_42 : decode mX10_value.2.1 42 = .ok (.goto (-22), 3) := by decide +kernel
theorem dX10_value_45 : decode mX10_value.2.1 45 = .ok (.aload_n 0, 1) := by decide +kernel
theorem dX10_value_46 : decode mX10_value.2.1 46 = .ok (.iload_n 1, 1) := by decide +kernel
theorem dX10_value_47 : decode mX10_value.2.1 47 = .ok (.invokevirtual 109, 3) := by decide +kernel
theorem dX10_value_50 : decode mX10_value.2.1 50 = .ok (.ireturn, 1) := by decide +kernel
theorem dX10_comesBack_0 : decode mX10_comesBack.2.1 0 = .ok (.iconst 0, 1) := by decide +kernel
theorem dX10_comesBack_1 : decode mX10_comesBack.2.1 1 = .ok (.istore_n 3, 1) := by decide +kernel
theorem dX10_comesBack_2 : decode mX10_comesBack.2.1 2 = .ok (.iload_n 3, 1) := by decide +kernel
theorem dX10_comesBack_3 : decode mX10_comesBack.2.1 3 = .ok (.aload_n 0, 1) := by decide +kernel
theorem dX10_comesBack_4 : decode mX10_comesBack.2.1 4 = .ok (.iload_n 1, 1) := by decide +kernel
theorem dX10_comesBack_5 : decode mX10_comesBack.2.1 5 = .ok (.invokevirtual 95, 3) := by decide +kernel
theorem dX10_comesBack_8 : decode mX10_comesBack.2.1 8 = .ok (.if_icmp .ge 28, 3) := by decide +kernel
theorem dX10_comesBack_11 : decode mX10_comesBack.2.1 11 = .ok (.aload_n 0, 1) := by decide +kernel
theorem dX10_comesBack_12 : decode mX10_comesBack.2.1 12 = .ok (.getfield 20, 3) := by decide +kernel
theorem dX10_comesBack_15 : decode mX10_comesBack.2.1 15 = .ok (.iload_n 3, 1) := by decide +kernel
theorem dX10_comesBack_16 : decode mX10_comesBack.2.1 16 = .ok (.aload_n 0, 1) := by decide +kernel
theorem dX10_comesBack_17 : decode mX10_comesBack.2.1 17 = .ok (.getfield 7, 3) := by decide +kernel
theorem dX10_comesBack_20 : decode mX10_comesBack.2.1 20 = .ok (.aload_n 0, 1) := by decide +kernel
theorem dX10_comesBack_21 : decode mX10_comesBack.2.1 21 = .ok (.iload_n 1, 1) := by decide +kernel
theorem dX10_comesBack_22 : decode mX10_comesBack.2.1 22 = .ok (.iconst 5, 1) := by decide +kernel
theorem dX10_comesBack_23 : decode mX10_comesBack.2.1 23 = .ok (.iload_n 3, 1) := by decide +kernel
theorem dX10_comesBack_24 : decode mX10_comesBack.2.1 24 = .ok (.iadd, 1) := by decide +kernel
theorem dX10_comesBack_25 : decode mX10_comesBack.2.1 25 = .ok (.invokevirtual 81, 3) := by decide +kernel
theorem dX10_comesBack_28 : decode mX10_comesBack.2.1 28 = .ok (.iaload, 1) := by decide +kernel
theorem dX10_comesBack_29 : decode mX10_comesBack.2.1 29 = .ok (.iastore, 1) := by decide +kernel
theorem dX10_comesBack_30 : decode mX10_comesBack.2.1 30 = .ok (.iinc 3 1, 3) := by decide +kernel
theorem dX10_comesBack_33 : decode mX10_comesBack.2.1 33 = .ok (.goto (-31), 3) := by decide +kernel
theorem dX10_comesBack_36 : decode mX10_comesBack.2.1 36 = .ok (.aload_n 0, 1) := by decide +kernel
theorem dX10_comesBack_37 : decode mX10_comesBack.2.1 37 = .ok (.iload_n 2, 1) := by decide +kernel
theorem dX10_comesBack_38 : decode mX10_comesBack.2.1 38 = .ok (.invokevirtual 92, 3) := by decide +kernel
theorem dX10_comesBack_41 : decode mX10_comesBack.2.1 41 = .ok (.istore_n 3, 1) := by decide +kernel
theorem dX10_comesBack_42 : decode mX10_comesBack.2.1 42 = .ok (.iload_n 2, 1) := by decide +kernel
theorem dX10_comesBack_43 : decode mX10_comesBack.2.1 43 = .ok (.aload_n 0, 1) := by decide +kernel
theorem dX10_comesBack_44 : decode mX10_comesBack.2.1 44 = .ok (.iload_n 3, 1) := by decide +kernel
theorem dX10_comesBack_45 : decode mX10_comesBack.2.1 45 = .ok (.invokevirtual 89, 3) := by decide +kernel
theorem dX10_comesBack_48 : decode mX10_comesBack.2.1 48 = .ok (.isub, 1) := by decide +kernel
theorem dX10_comesBack_49 : decode mX10_comesBack.2.1 49 = .ok (.istore 4, 2) := by decide +kernel
theorem dX10_comesBack_51 : decode mX10_comesBack.2.1 51 = .ok (.iconst 0, 1) := by decide +kernel
theorem dX10_comesBack_52 : decode mX10_comesBack.2.1 52 = .ok (.istore 5, 2) := by decide +kernel
theorem dX10_comesBack_54 : decode mX10_comesBack.2.1 54 = .ok (.iload 5, 2) := by decide +kernel
theorem dX10_comesBack_56 : decode mX10_comesBack.2.1 56 = .ok (.iload_n 3, 1) := by decide +kernel
theorem dX10_comesBack_57 : decode mX10_comesBack.2.1 57 = .ok (.if_icmp .ge 30, 3) := by decide +kernel
theorem dX10_comesBack_60 : decode mX10_comesBack.2.1 60 = .ok (.aload_n 0, 1) := by decide +kernel
theorem dX10_comesBack_61 : decode mX10_comesBack.2.1 61 = .ok (.iload_n 1, 1) := by decide +kernel
theorem dX10_comesBack_62 : decode mX10_comesBack.2.1 62 = .ok (.iload 4, 2) := by decide +kernel
theorem dX10_comesBack_64 : decode mX10_comesBack.2.1 64 = .ok (.aload_n 0, 1) := by decide +kernel
theorem dX10_comesBack_65 : decode mX10_comesBack.2.1 65 = .ok (.getfield 17, 3) := by decide +kernel
theorem dX10_comesBack_68 : decode mX10_comesBack.2.1 68 = .ok (.irem, 1) := by decide +kernel
theorem dX10_comesBack_69 : decode mX10_comesBack.2.1 69 = .ok (.invokevirtual 303, 3) := by decide +kernel
theorem dX10_comesBack_72 : decode mX10_comesBack.2.1 72 = .ok (.iload 4, 2) := by decide +kernel
theorem dX10_comesBack_74 : decode mX10_comesBack.2.1 74 = .ok (.aload_n 0, 1) := by decide +kernel
theorem dX10_comesBack_75 : decode mX10_comesBack.2.1 75 = .ok (.getfield 17, 3) := by decide +kernel
theorem dX10_comesBack_78 : decode mX10_comesBack.2.1 78 = .ok (.idiv, 1) := by decide +kernel
theorem dX10_comesBack_79 : decode mX10_comesBack.2.1 79 = .ok (.istore 4, 2) := by decide +kernel
theorem dX10_comesBack_81 : decode mX10_comesBack.2.1 81 = .ok (.iinc 5 1, 3) := by decide +kernel
theorem dX10_comesBack_84 : decode mX10_comesBack.2.1 84 = .ok (.goto (-30), 3) := by decide +kernel
theorem dX10_comesBack_87 : decode mX10_comesBack.2.1 87 = .ok (.return_, 1) := by decide +kernel
theorem dX10_spans_0 : decode mX10_spans.2.1 0 = .ok (.iconst 0, 1) := by decide +kernel
theorem dX10_spans_1 : decode mX10_spans.2.1 1 = .ok (.istore_n 2, 1) := by decide +kernel
theorem dX10_spans_2 : decode mX10_spans.2.1 2 = .ok (.iload_n 2, 1) := by decide +kernel
theorem dX10_spans_3 : decode mX10_spans.2.1 3 = .ok (.aload_n 0, 1) := by decide +kernel
theorem dX10_spans_4 : decode mX10_spans.2.1 4 = .ok (.getfield 297, 3) := by decide +kernel
theorem dX10_spans_7 : decode mX10_spans.2.1 7 = .ok (.if_icmp .ge 78, 3) := by decide +kernel
theorem dX10_spans_10 : decode mX10_spans.2.1 10 = .ok (.aload_n 0, 1) := by decide +kernel
theorem dX10_spans_11 : decode mX10_spans.2.1 11 = .ok (.iload_n 2, 1) := by decide +kernel
theorem dX10_spans_12 : decode mX10_spans.2.1 12 = .ok (.iload_n 1, 1) := by decide +kernel
theorem dX10_spans_13 : decode mX10_spans.2.1 13 = .ok (.invokevirtual 300, 3) := by decide +kernel
theorem dX10_spans_16 : decode mX10_spans.2.1 16 = .ok (.istore_n 3, 1) := by decide +kernel
theorem dX10_spans_17 : decode mX10_spans.2.1 17 = .ok (.aload_n 0, 1) := by decide +kernel
theorem dX10_spans_18 : decode mX10_spans.2.1 18 = .ok (.getfield 20, 3) := by decide +kernel
theorem dX10_spans_21 : decode mX10_spans.2.1 21 = .ok (.iload_n 3, 1) := by decide +kernel
theorem dX10_spans_22 : decode mX10_spans.2.1 22 = .ok (.iaload, 1) := by decide +kernel
theorem dX10_spans_23 : decode mX10_spans.2.1 23 = .ok (.istore 4, 2) := by decide +kernel
theorem dX10_spans_25 : decode mX10_spans.2.1 25 = .ok (.iconst 0, 1) := by decide +kernel
theorem dX10_spans_26 : decode mX10_spans.2.1 26 = .ok (.istore 5, 2) := by decide +kernel
theorem dX10_spans_28 : decode mX10_spans.2.1 28 = .ok (.iload 5, 2) := by decide +kernel
theorem dX10_spans_30 : decode mX10_spans.2.1 30 = .ok (.iload_n 1, 1) := by decide +kernel
theorem dX10_spans_31 : decode mX10_spans.2.1 31 = .ok (.if_icmp .ge 48, 3) := by decide +kernel
theorem dX10_spans_34 : decode mX10_spans.2.1 34 = .ok (.aload_n 0, 1) := by decide +kernel
theorem dX10_spans_35 : decode mX10_spans.2.1 35 = .ok (.getfield 20, 3) := by decide +kernel
theorem dX10_spans_38 : decode mX10_spans.2.1 38 = .ok (.iload 5, 2) := by decide +kernel
theorem dX10_spans_40 : decode mX10_spans.2.1 40 = .ok (.aload_n 0, 1) := by decide +kernel
theorem dX10_spans_41 : decode mX10_spans.2.1 41 = .ok (.getfield 20, 3) := by decide +kernel
theorem dX10_spans_44 : decode mX10_spans.2.1 44 = .ok (.iload 5, 2) := by decide +kernel
theorem dX10_spans_46 : decode mX10_spans.2.1 46 = .ok (.iaload, 1) := by decide +kernel
theorem dX10_spans_47 : decode mX10_spans.2.1 47 = .ok (.aload_n 0, 1) := by decide +kernel
theorem dX10_spans_48 : decode mX10_spans.2.1 48 = .ok (.getfield 13, 3) := by decide +kernel
theorem dX10_spans_51 : decode mX10_spans.2.1 51 = .ok (.iload 4, 2) := by decide +kernel
theorem dX10_spans_53 : decode mX10_spans.2.1 53 = .ok (.isub, 1) := by decide +kernel
theorem dX10_spans_54 : decode mX10_spans.2.1 54 = .ok (.aload_n 0, 1) := by decide +kernel
theorem dX10_spans_55 : decode mX10_spans.2.1 55 = .ok (.getfield 60, 3) := by decide +kernel
theorem dX10_spans_58 : decode mX10_spans.2.1 58 = .ok (.iconst 4, 1) := by decide +kernel
theorem dX10_spans_59 : decode mX10_spans.2.1 59 = .ok (.iload_n 2, 1) := by decide +kernel
theorem dX10_spans_60 : decode mX10_spans.2.1 60 = .ok (.imul, 1) := by decide +kernel
theorem dX10_spans_61 : decode mX10_spans.2.1 61 = .ok (.iload 5, 2) := by decide +kernel
theorem dX10_spans_63 : decode mX10_spans.2.1 63 = .ok (.iadd, 1) := by decide +kernel
theorem dX10_spans_64 : decode mX10_spans.2.1 64 = .ok (.iaload, 1) := by decide +kernel
theorem dX10_spans_65 : decode mX10_spans.2.1 65 = .ok (.imul, 1) := by decide +kernel
theorem dX10_spans_66 : decode mX10_spans.2.1 66 = .ok (.iadd, 1) := by decide +kernel
theorem dX10_spans_67 : decode mX10_spans.2.1 67 = .ok (.aload_n 0, 1) := by decide +kernel
theorem dX10_spans_68 : decode mX10_spans.2.1 68 = .ok (.getfield 13, 3) := by decide +kernel
theorem dX10_spans_71 : decode mX10_spans.2.1 71 = .ok (.irem, 1) := by decide +kernel
theorem dX10_spans_72 : decode mX10_spans.2.1 72 = .ok (.iastore, 1) := by decide +kernel
theorem dX10_spans_73 : decode mX10_spans.2.1 73 = .ok (.iinc 5 1, 3) := by decide +kernel
theorem dX10_spans_76 : decode mX10_spans.2.1 76 = .ok (.goto (-48), 3) := by decide +kernel
theorem dX10_spans_79 : decode mX10_spans.2.1 79 = .ok (.iinc 2 1, 3) := by decide +kernel
theorem dX10_spans_82 : decode mX10_spans.2.1 82 = .ok (.goto (-80), 3) := by decide +kernel
theorem dX10_spans_85 : decode mX10_spans.2.1 85 = .ok (.iconst 0, 1) := by decide +kernel
theorem dX10_spans_86 : decode mX10_spans.2.1 86 = .ok (.istore_n 2, 1) := by decide +kernel
theorem dX10_spans_87 : decode mX10_spans.2.1 87 = .ok (.iload_n 2, 1) := by decide +kernel
theorem dX10_spans_88 : decode mX10_spans.2.1 88 = .ok (.iload_n 1, 1) := by decide +kernel
theorem dX10_spans_89 : decode mX10_spans.2.1 89 = .ok (.if_icmp .ge 18, 3) := by decide +kernel
theorem dX10_spans_92 : decode mX10_spans.2.1 92 = .ok (.aload_n 0, 1) := by decide +kernel
theorem dX10_spans_93 : decode mX10_spans.2.1 93 = .ok (.getfield 20, 3) := by decide +kernel
theorem dX10_spans_96 : decode mX10_spans.2.1 96 = .ok (.iload_n 2, 1) := by decide +kernel
theorem dX10_spans_97 : decode mX10_spans.2.1 97 = .ok (.iaload, 1) := by decide +kernel
theorem dX10_spans_98 : decode mX10_spans.2.1 98 = .ok (.ifCond .ne 9, 3) := by decide +kernel
theorem dX10_spans_101 : decode mX10_spans.2.1 101 = .ok (.iinc 2 1, 3) := by decide +kernel
theorem dX10_spans_104 : decode mX10_spans.2.1 104 = .ok (.goto (-17), 3) := by decide +kernel
theorem dX10_spans_107 : decode mX10_spans.2.1 107 = .ok (.iload_n 2, 1) := by decide +kernel
theorem dX10_spans_108 : decode mX10_spans.2.1 108 = .ok (.iload_n 1, 1) := by decide +kernel
theorem dX10_spans_109 : decode mX10_spans.2.1 109 = .ok (.if_icmp .ge 67, 3) := by decide +kernel
theorem dX10_spans_112 : decode mX10_spans.2.1 112 = .ok (.aload_n 0, 1) := by decide +kernel
theorem dX10_spans_113 : decode mX10_spans.2.1 113 = .ok (.aload_n 0, 1) := by decide +kernel
theorem dX10_spans_114 : decode mX10_spans.2.1 114 = .ok (.getfield 20, 3) := by decide +kernel
theorem dX10_spans_117 : decode mX10_spans.2.1 117 = .ok (.iload_n 2, 1) := by decide +kernel
theorem dX10_spans_118 : decode mX10_spans.2.1 118 = .ok (.iaload, 1) := by decide +kernel
theorem dX10_spans_119 : decode mX10_spans.2.1 119 = .ok (.invokevirtual 119, 3) := by decide +kernel
theorem dX10_spans_122 : decode mX10_spans.2.1 122 = .ok (.istore_n 3, 1) := by decide +kernel
theorem dX10_spans_123 : decode mX10_spans.2.1 123 = .ok (.iconst 0, 1) := by decide +kernel
theorem dX10_spans_124 : decode mX10_spans.2.1 124 = .ok (.istore 4, 2) := by decide +kernel
theorem dX10_spans_126 : decode mX10_spans.2.1 126 = .ok (.iload 4, 2) := by decide +kernel
theorem dX10_spans_128 : decode mX10_spans.2.1 128 = .ok (.iload_n 1, 1) := by decide +kernel
theorem dX10_spans_129 : decode mX10_spans.2.1 129 = .ok (.if_icmp .ge 37, 3) := by decide +kernel
theorem dX10_spans_132 : decode mX10_spans.2.1 132 = .ok (.aload_n 0, 1) := by decide +kernel
theorem dX10_spans_133 : decode mX10_spans.2.1 133 = .ok (.getfield 60, 3) := by decide +kernel
theorem dX10_spans_136 : decode mX10_spans.2.1 136 = .ok (.iconst 4, 1) := by decide +kernel
theorem dX10_spans_137 : decode mX10_spans.2.1 137 = .ok (.aload_n 0, 1) := by decide +kernel
theorem dX10_spans_138 : decode mX10_spans.2.1 138 = .ok (.getfield 297, 3) := by decide +kernel
theorem dX10_spans_141 : decode mX10_spans.2.1 141 = .ok (.imul, 1) := by decide +kernel
theorem dX10_spans_142 : decode mX10_spans.2.1 142 = .ok (.iload 4, 2) := by decide +kernel
theorem dX10_spans_144 : decode mX10_spans.2.1 144 = .ok (.iadd, 1) := by decide +kernel
theorem dX10_spans_145 : decode mX10_spans.2.1 145 = .ok (.aload_n 0, 1) := by decide +kernel
theorem dX10_spans_146 : decode mX10_spans.2.1 146 = .ok (.getfield 20, 3) := by decide +kernel
theorem dX10_spans_149 : decode mX10_spans.2.1 149 = .ok (.iload 4, 2) := by decide +kernel
theorem dX10_spans_151 : decode mX10_spans.2.1 151 = .ok (.iaload, 1) := by decide +kernel
theorem dX10_spans_152 : decode mX10_spans.2.1 152 = .ok (.iload_n 3, 1) := by decide +kernel
theorem dX10_spans_153 : decode mX10_spans.2.1 153 = .ok (.imul, 1) := by decide +kernel
theorem dX10_spans_154 : decode mX10_spans.2.1 154 = .ok (.aload_n 0, 1) := by decide +kernel
theorem dX10_spans_155 : decode mX10_spans.2.1 155 = .ok (.getfield 13, 3) := by decide +kernel
theorem dX10_spans_158 : decode mX10_spans.2.1 158 = .ok (.irem, 1) := by decide +kernel
theorem dX10_spans_159 : decode mX10_spans.2.1 159 = .ok (.iastore, 1) := by decide +kernel
theorem dX10_spans_160 : decode mX10_spans.2.1 160 = .ok (.iinc 4 1, 3) := by decide +kernel
theorem dX10_spans_163 : decode mX10_spans.2.1 163 = .ok (.goto (-37), 3) := by decide +kernel
theorem dX10_spans_166 : decode mX10_spans.2.1 166 = .ok (.aload_n 0, 1) := by decide +kernel
theorem dX10_spans_167 : decode mX10_spans.2.1 167 = .ok (.dup, 1) := by decide +kernel
theorem dX10_spans_168 : decode mX10_spans.2.1 168 = .ok (.getfield 297, 3) := by decide +kernel
theorem dX10_spans_171 : decode mX10_spans.2.1 171 = .ok (.iconst 1, 1) := by decide +kernel
theorem dX10_spans_172 : decode mX10_spans.2.1 172 = .ok (.iadd, 1) := by decide +kernel
theorem dX10_spans_173 : decode mX10_spans.2.1 173 = .ok (.putfield 297, 3) := by decide +kernel
theorem dX10_spans_176 : decode mX10_spans.2.1 176 = .ok (.return_, 1) := by decide +kernel
theorem dX10_space_0 : decode mX10_space.2.1 0 = .ok (.iload_n 2, 1) := by decide +kernel
theorem dX10_space_1 : decode mX10_space.2.1 1 = .ok (.i2l, 1) := by decide +kernel
theorem dX10_space_2 : decode mX10_space.2.1 2 = .ok (.lconst 0, 1) := by decide +kernel
theorem dX10_space_3 : decode mX10_space.2.1 3 = .ok (.ldc2_w 227, 3) := by decide +kernel
theorem dX10_space_6 : decode mX10_space.2.1 6 = .ok (.invokestatic 181, 3) := by decide +kernel
theorem dX10_space_9 : decode mX10_space.2.1 9 = .ok (.ifCond .eq 11, 3) := by decide +kernel
theorem dX10_space_12 : decode mX10_space.2.1 12 = .ok (.aload_n 0, 1) := by decide +kernel
theorem dX10_space_13 : decode mX10_space.2.1 13 = .ok (.iload_n 1, 1) := by decide +kernel
theorem dX10_space_14 : decode mX10_space.2.1 14 = .ok (.invokevirtual 288, 3) := by decide +kernel
theorem dX10_space_17 : decode mX10_space.2.1 17 = .ok (.goto 4, 3) := by decide +kernel
theorem dX10_space_20 : decode mX10_space.2.1 20 = .ok (.iconst (-1), 1) := by decide +kernel
theorem dX10_space_21 : decode mX10_space.2.1 21 = .ok (.istore_n 3, 1) := by decide +kernel
theorem dX10_space_22 : decode mX10_space.2.1 22 = .ok (.iload_n 3, 1) := by decide +kernel
theorem dX10_space_23 : decode mX10_space.2.1 23 = .ok (.ifCond .eq 5, 3) := by decide +kernel
theorem dX10_space_26 : decode mX10_space.2.1 26 = .ok (.iload_n 3, 1) := by decide +kernel
theorem dX10_space_27 : decode mX10_space.2.1 27 = .ok (.ireturn, 1) := by decide +kernel
theorem dX10_space_28 : decode mX10_space.2.1 28 = .ok (.iload_n 2, 1) := by decide +kernel
theorem dX10_space_29 : decode mX10_space.2.1 29 = .ok (.iconst 2, 1) := by decide +kernel
theorem dX10_space_30 : decode mX10_space.2.1 30 = .ok (.if_icmp .ge 18, 3) := by decide +kernel
theorem dX10_space_33 : decode mX10_space.2.1 33 = .ok (.aload_n 0, 1) := by decide +kernel
theorem dX10_space_34 : decode mX10_space.2.1 34 = .ok (.iload_n 1, 1) := by decide +kernel
theorem dX10_space_35 : decode mX10_space.2.1 35 = .ok (.iload_n 2, 1) := by decide +kernel
theorem dX10_space_36 : decode mX10_space.2.1 36 = .ok (.ifCond .ne 7, 3) := by decide +kernel
theorem dX10_space_39 : decode mX10_space.2.1 39 = .ok (.iconst 1, 1) := by decide +kernel
theorem dX10_space_40 : decode mX10_space.2.1 40 = .ok (.goto 4, 3) := by decide +kernel
theorem dX10_space_43 : decode mX10_space.2.1 43 = .ok (.iconst 0, 1) := by decide +kernel
theorem dX10_space_44 : decode mX10_space.2.1 44 = .ok (.invokevirtual 311, 3) := by decide +kernel
theorem dX10_space_47 : decode mX10_space.2.1 47 = .ok (.ireturn, 1) := by decide +kernel
theorem dX10_space_48 : decode mX10_space.2.1 48 = .ok (.aload_n 0, 1) := by decide +kernel
theorem dX10_space_49 : decode mX10_space.2.1 49 = .ok (.iload_n 1, 1) := by decide +kernel
theorem dX10_space_50 : decode mX10_space.2.1 50 = .ok (.invokevirtual 176, 3) := by decide +kernel
theorem dX10_space_53 : decode mX10_space.2.1 53 = .ok (.aload_n 0, 1) := by decide +kernel
theorem dX10_space_54 : decode mX10_space.2.1 54 = .ok (.getfield 170, 3) := by decide +kernel
theorem dX10_space_57 : decode mX10_space.2.1 57 = .ok (.ireturn, 1) := by decide +kernel
theorem dX10_share_0 : decode mX10_share.2.1 0 = .ok (.iload_n 2, 1) := by decide +kernel
theorem dX10_share_1 : decode mX10_share.2.1 1 = .ok (.i2l, 1) := by decide +kernel
theorem dX10_share_2 : decode mX10_share.2.1 2 = .ok (.lconst 0, 1) := by decide +kernel
theorem dX10_share_3 : decode mX10_share.2.1 3 = .ok (.ldc2_w 315, 3) := by decide +kernel
theorem dX10_share_6 : decode mX10_share.2.1 6 = .ok (.invokestatic 181, 3) := by decide +kernel
theorem dX10_share_9 : decode mX10_share.2.1 9 = .ok (.ifCond .eq 11, 3) := by decide +kernel
theorem dX10_share_12 : decode mX10_share.2.1 12 = .ok (.aload_n 0, 1) := by decide +kernel
theorem dX10_share_13 : decode mX10_share.2.1 13 = .ok (.iload_n 1, 1) := by decide +kernel
theorem dX10_share_14 : decode mX10_share.2.1 14 = .ok (.invokevirtual 288, 3) := by decide +kernel
theorem dX10_share_17 : decode mX10_share.2.1 17 = .ok (.goto 4, 3) := by decide +kernel
theorem dX10_share_20 : decode mX10_share.2.1 20 = .ok (.iconst (-1), 1) := by decide +kernel
theorem dX10_share_21 : decode mX10_share.2.1 21 = .ok (.istore_n 3, 1) := by decide +kernel
theorem dX10_share_22 : decode mX10_share.2.1 22 = .ok (.iload_n 3, 1) := by decide +kernel
theorem dX10_share_23 : decode mX10_share.2.1 23 = .ok (.ifCond .eq 5, 3) := by decide +kernel
theorem dX10_share_26 : decode mX10_share.2.1 26 = .ok (.iload_n 3, 1) := by decide +kernel
theorem dX10_share_27 : decode mX10_share.2.1 27 = .ok (.ireturn, 1) := by decide +kernel
theorem dX10_share_28 : decode mX10_share.2.1 28 = .ok (.aload_n 0, 1) := by decide +kernel
theorem dX10_share_29 : decode mX10_share.2.1 29 = .ok (.iload_n 1, 1) := by decide +kernel
theorem dX10_share_30 : decode mX10_share.2.1 30 = .ok (.iload_n 2, 1) := by decide +kernel
theorem dX10_share_31 : decode mX10_share.2.1 31 = .ok (.iconst 1, 1) := by decide +kernel
theorem dX10_share_32 : decode mX10_share.2.1 32 = .ok (.invokevirtual 317, 3) := by decide +kernel
theorem dX10_share_35 : decode mX10_share.2.1 35 = .ok (.i2f, 1) := by decide +kernel
theorem dX10_share_36 : decode mX10_share.2.1 36 = .ok (.aload_n 0, 1) := by decide +kernel
theorem dX10_share_37 : decode mX10_share.2.1 37 = .ok (.iload_n 2, 1) := by decide +kernel
theorem dX10_share_38 : decode mX10_share.2.1 38 = .ok (.invokevirtual 85, 3) := by decide +kernel
theorem dX10_share_41 : decode mX10_share.2.1 41 = .ok (.i2f, 1) := by decide +kernel
theorem dX10_share_42 : decode mX10_share.2.1 42 = .ok (.fdiv, 1) := by decide +kernel
theorem dX10_share_43 : decode mX10_share.2.1 43 = .ok (.invokestatic 321, 3) := by decide +kernel
theorem dX10_share_46 : decode mX10_share.2.1 46 = .ok (.ireturn, 1) := by decide +kernel
theorem dX10_mean_0 : decode mX10_mean.2.1 0 = .ok (.iload_n 2, 1) := by decide +kernel
theorem dX10_mean_1 : decode mX10_mean.2.1 1 = .ok (.i2l, 1) := by decide +kernel
theorem dX10_mean_2 : decode mX10_mean.2.1 2 = .ok (.lconst 0, 1) := by decide +kernel
theorem dX10_mean_3 : decode mX10_mean.2.1 3 = .ok (.ldc2_w 315, 3) := by decide +kernel
theorem dX10_mean_6 : decode mX10_mean.2.1 6 = .ok (.invokestatic 181, 3) := by decide +kernel
theorem dX10_mean_9 : decode mX10_mean.2.1 9 = .ok (.ifCond .eq 11, 3) := by decide +kernel
theorem dX10_mean_12 : decode mX10_mean.2.1 12 = .ok (.aload_n 0, 1) := by decide +kernel
theorem dX10_mean_13 : decode mX10_mean.2.1 13 = .ok (.iload_n 1, 1) := by decide +kernel
theorem dX10_mean_14 : decode mX10_mean.2.1 14 = .ok (.invokevirtual 288, 3) := by decide +kernel
theorem dX10_mean_17 : decode mX10_mean.2.1 17 = .ok (.goto 4, 3) := by decide +kernel
theorem dX10_mean_20 : decode mX10_mean.2.1 20 = .ok (.iconst (-1), 1) := by decide +kernel
theorem dX10_mean_21 : decode mX10_mean.2.1 21 = .ok (.istore_n 3, 1) := by decide +kernel
theorem dX10_mean_22 : decode mX10_mean.2.1 22 = .ok (.iload_n 3, 1) := by decide +kernel
theorem dX10_mean_23 : decode mX10_mean.2.1 23 = .ok (.ifCond .eq 6, 3) := by decide +kernel
theorem dX10_mean_26 : decode mX10_mean.2.1 26 = .ok (.iload_n 3, 1) := by decide +kernel
theorem dX10_mean_27 : decode mX10_mean.2.1 27 = .ok (.i2l, 1) := by decide +kernel
theorem dX10_mean_28 : decode mX10_mean.2.1 28 = .ok (.lreturn, 1) := by decide +kernel
theorem dX10_mean_29 : decode mX10_mean.2.1 29 = .ok (.aload_n 0, 1) := by decide +kernel
theorem dX10_mean_30 : decode mX10_mean.2.1 30 = .ok (.iload_n 1, 1) := by decide +kernel
theorem dX10_mean_31 : decode mX10_mean.2.1 31 = .ok (.iload_n 2, 1) := by decide +kernel
theorem dX10_mean_32 : decode mX10_mean.2.1 32 = .ok (.iconst 0, 1) := by decide +kernel
theorem dX10_mean_33 : decode mX10_mean.2.1 33 = .ok (.invokevirtual 317, 3) := by decide +kernel
theorem dX10_mean_36 : decode mX10_mean.2.1 36 = .ok (.i2d, 1) := by decide +kernel
theorem dX10_mean_37 : decode mX10_mean.2.1 37 = .ok (.aload_n 0, 1) := by decide +kernel
theorem dX10_mean_38 : decode mX10_mean.2.1 38 = .ok (.iload_n 2, 1) := by decide +kernel
theorem dX10_mean_39 : decode mX10_mean.2.1 39 = .ok (.invokevirtual 85, 3) := by decide +kernel
theorem dX10_mean_42 : decode mX10_mean.2.1 42 = .ok (.i2d, 1) := by decide +kernel
theorem dX10_mean_43 : decode mX10_mean.2.1 43 = .ok (.ddiv, 1) := by decide +kernel
theorem dX10_mean_44 : decode mX10_mean.2.1 44 = .ok (.invokestatic 327, 3) := by decide +kernel
theorem dX10_mean_47 : decode mX10_mean.2.1 47 = .ok (.lreturn, 1) := by decide +kernel
theorem dX10_prefix_0 : decode mX10_prefix.2.1 0 = .ok (.iload_n 1, 1) := by decide +kernel
theorem dX10_prefix_1 : decode mX10_prefix.2.1 1 = .ok (.ifCond .ge 7, 3) := by decide +kernel
theorem dX10_prefix_4 : decode mX10_prefix.2.1 4 = .ok (.iconst (-1), 1) := by decide +kernel
theorem dX10_prefix_5 : decode mX10_prefix.2.1 5 = .ok (.goto 22, 3) := by decide +kernel
theorem dX10_prefix_8 : decode mX10_prefix.2.1 8 = .ok (.iload_n 1, 1) := by decide +kernel
theorem dX10_prefix_9 : decode mX10_prefix.2.1 9 = .ok (.aload_n 0, 1) := by decide +kernel
theorem dX10_prefix_10 : decode mX10_prefix.2.1 10 = .ok (.getfield 126, 3) := by decide +kernel
theorem dX10_prefix_13 : decode mX10_prefix.2.1 13 = .ok (.if_icmp .ge 12, 3) := by decide +kernel
theorem dX10_prefix_16 : decode mX10_prefix.2.1 16 = .ok (.aload_n 0, 1) := by decide +kernel
theorem dX10_prefix_17 : decode mX10_prefix.2.1 17 = .ok (.getfield 32, 3) := by decide +kernel
theorem dX10_prefix_20 : decode mX10_prefix.2.1 20 = .ok (.iload_n 1, 1) := by decide +kernel
theorem dX10_prefix_21 : decode mX10_prefix.2.1 21 = .ok (.iaload, 1) := by decide +kernel
theorem dX10_prefix_22 : decode mX10_prefix.2.1 22 = .ok (.goto 5, 3) := by decide +kernel
theorem dX10_prefix_25 : decode mX10_prefix.2.1 25 = .ok (.bipush (-4), 2) := by decide +kernel
theorem dX10_prefix_27 : decode mX10_prefix.2.1 27 = .ok (.ireturn, 1) := by decide +kernel
theorem dX10_suffix_0 : decode mX10_suffix.2.1 0 = .ok (.iload_n 1, 1) := by decide +kernel
theorem dX10_suffix_1 : decode mX10_suffix.2.1 1 = .ok (.ifCond .ge 7, 3) := by decide +kernel
theorem dX10_suffix_4 : decode mX10_suffix.2.1 4 = .ok (.iconst (-1), 1) := by decide +kernel
theorem dX10_suffix_5 : decode mX10_suffix.2.1 5 = .ok (.goto 22, 3) := by decide +kernel
theorem dX10_suffix_8 : decode mX10_suffix.2.1 8 = .ok (.iload_n 1, 1) := by decide +kernel
theorem dX10_suffix_9 : decode mX10_suffix.2.1 9 = .ok (.aload_n 0, 1) := by decide +kernel
theorem dX10_suffix_10 : decode mX10_suffix.2.1 10 = .ok (.getfield 129, 3) := by decide +kernel
theorem dX10_suffix_13 : decode mX10_suffix.2.1 13 = .ok (.if_icmp .ge 12, 3) := by decide +kernel
theorem dX10_suffix_16 : decode mX10_suffix.2.1 16 = .ok (.aload_n 0, 1) := by decide +kernel
theorem dX10_suffix_17 : decode mX10_suffix.2.1 17 = .ok (.getfield 35, 3) := by decide +kernel
theorem dX10_suffix_20 : decode mX10_suffix.2.1 20 = .ok (.iload_n 1, 1) := by decide +kernel
theorem dX10_suffix_21 : decode mX10_suffix.2.1 21 = .ok (.iaload, 1) := by decide +kernel
theorem dX10_suffix_22 : decode mX10_suffix.2.1 22 = .ok (.goto 5, 3) := by decide +kernel
theorem dX10_suffix_25 : decode mX10_suffix.2.1 25 = .ok (.bipush (-4), 2) := by decide +kernel
theorem dX10_suffix_27 : decode mX10_suffix.2.1 27 = .ok (.ireturn, 1) := by decide +kernel
theorem dX10_rowWord_0 : decode mX10_rowWord.2.1 0 = .ok (.iload_n 1, 1) := by decide +kernel
theorem dX10_rowWord_1 : decode mX10_rowWord.2.1 1 = .ok (.aload_n 0, 1) := by decide +kernel
theorem dX10_rowWord_2 : decode mX10_rowWord.2.1 2 = .ok (.getfield 126, 3) := by decide +kernel
theorem dX10_rowWord_5 : decode mX10_rowWord.2.1 5 = .ok (.isub, 1) := by decide +kernel
theorem dX10_rowWord_6 : decode mX10_rowWord.2.1 6 = .ok (.istore_n 2, 1) := by decide +kernel
theorem dX10_rowWord_7 : decode mX10_rowWord.2.1 7 = .ok (.iload_n 2, 1) := by decide +kernel
theorem dX10_rowWord_8 : decode mX10_rowWord.2.1 8 = .ok (.ifCond .ge 12, 3) := by decide +kernel
theorem dX10_rowWord_11 : decode mX10_rowWord.2.1 11 = .ok (.aload_n 0, 1) := by decide +kernel
theorem dX10_rowWord_12 : decode mX10_rowWord.2.1 12 = .ok (.getfield 32, 3) := by decide +kernel
theorem dX10_rowWord_15 : decode mX10_rowWord.2.1 15 = .ok (.iload_n 1, 1) := by decide +kernel
theorem dX10_rowWord_16 : decode mX10_rowWord.2.1 16 = .ok (.iaload, 1) := by decide +kernel
theorem dX10_rowWord_17 : decode mX10_rowWord.2.1 17 = .ok (.goto 27, 3) := by decide +kernel
theorem dX10_rowWord_20 : decode mX10_rowWord.2.1 20 = .ok (.aload_n 0, 1) := by decide +kernel
theorem dX10_rowWord_21 : decode mX10_rowWord.2.1 21 = .ok (.aload_n 0, 1) := by decide +kernel
theorem dX10_rowWord_22 : decode mX10_rowWord.2.1 22 = .ok (.getfield 32, 3) := by decide +kernel
theorem dX10_rowWord_25 : decode mX10_rowWord.2.1 25 = .ok (.iload_n 2, 1) := by decide +kernel
theorem dX10_rowWord_26 : decode mX10_rowWord.2.1 26 = .ok (.aload_n 0, 1) := by decide +kernel
theorem dX10_rowWord_27 : decode mX10_rowWord.2.1 27 = .ok (.getfield 17, 3) := by decide +kernel
theorem dX10_rowWord_30 : decode mX10_rowWord.2.1 30 = .ok (.idiv, 1) := by decide +kernel
theorem dX10_rowWord_31 : decode mX10_rowWord.2.1 31 = .ok (.iaload, 1) := by decide +kernel
theorem dX10_rowWord_32 : decode mX10_rowWord.2.1 32 = .ok (.iload_n 2, 1) := by decide +kernel
theorem dX10_rowWord_33 : decode mX10_rowWord.2.1 33 = .ok (.aload_n 0, 1) := by decide +kernel
theorem dX10_rowWord_34 : decode mX10_rowWord.2.1 34 = .ok (.getfield 17, 3) := by decide +kernel
theorem dX10_rowWord_37 : decode mX10_rowWord.2.1 37 = .ok (.irem, 1) := by decide +kernel
theorem dX10_rowWord_38 : decode mX10_rowWord.2.1 38 = .ok (.invokestatic 149, 3) := by decide +kernel
theorem dX10_rowWord_41 : decode mX10_rowWord.2.1 41 = .ok (.invokevirtual 139, 3) := by decide +kernel
theorem dX10_rowWord_44 : decode mX10_rowWord.2.1 44 = .ok (.ireturn, 1) := by decide +kernel
theorem dX10_part_0 : decode mX10_part.2.1 0 = .ok (.aload_n 0, 1) := by decide +kernel
theorem dX10_part_1 : decode mX10_part.2.1 1 = .ok (.iload_n 1, 1) := by decide +kernel
theorem dX10_part_2 : decode mX10_part.2.1 2 = .ok (.invokevirtual 333, 3) := by decide +kernel
theorem dX10_part_5 : decode mX10_part.2.1 5 = .ok (.ifCond .eq 19, 3) := by decide +kernel
theorem dX10_part_8 : decode mX10_part.2.1 8 = .ok (.iload_n 2, 1) := by decide +kernel
theorem dX10_part_9 : decode mX10_part.2.1 9 = .ok (.i2l, 1) := by decide +kernel
theorem dX10_part_10 : decode mX10_part.2.1 10 = .ok (.lconst 0, 1) := by decide +kernel
theorem dX10_part_11 : decode mX10_part.2.1 11 = .ok (.aload_n 0, 1) := by decide +kernel
theorem dX10_part_12 : decode mX10_part.2.1 12 = .ok (.getfield 126, 3) := by decide +kernel
theorem dX10_part_15 : decode mX10_part.2.1 15 = .ok (.iconst 1, 1) := by decide +kernel
theorem dX10_part_16 : decode mX10_part.2.1 16 = .ok (.isub, 1) := by decide +kernel
theorem dX10_part_17 : decode mX10_part.2.1 17 = .ok (.i2l, 1) := by decide +kernel
theorem dX10_part_18 : decode mX10_part.2.1 18 = .ok (.invokestatic 181, 3) := by decide +kernel
theorem dX10_part_21 : decode mX10_part.2.1 21 = .ok (.ifCond .ne 5, 3) := by decide +kernel
theorem dX10_part_24 : decode mX10_part.2.1 24 = .ok (.iconst (-1), 1) := by decide +kernel
theorem dX10_part_25 : decode mX10_part.2.1 25 = .ok (.ireturn, 1) := by decide +kernel
theorem dX10_part_26 : decode mX10_part.2.1 26 = .ok (.aload_n 0, 1) := by decide +kernel
theorem dX10_part_27 : decode mX10_part.2.1 27 = .ok (.aload_n 0, 1) := by decide +kernel
theorem dX10_part_28 : decode mX10_part.2.1 28 = .ok (.iload_n 1, 1) := by decide +kernel
theorem dX10_part_29 : decode mX10_part.2.1 29 = .ok (.invokevirtual 336, 3) := by decide +kernel
theorem dX10_part_32 : decode mX10_part.2.1 32 = .ok (.invokevirtual 146, 3) := by decide +kernel
theorem dX10_part_35 : decode mX10_part.2.1 35 = .ok (.ifCond .eq 12, 3) := by decide +kernel
theorem dX10_part_38 : decode mX10_part.2.1 38 = .ok (.aload_n 0, 1) := by decide +kernel
theorem dX10_part_39 : decode mX10_part.2.1 39 = .ok (.getfield 29, 3) := by decide +kernel
theorem dX10_part_42 : decode mX10_part.2.1 42 = .ok (.iload_n 2, 1) := by decide +kernel
theorem dX10_part_43 : decode mX10_part.2.1 43 = .ok (.iaload, 1) := by decide +kernel
theorem dX10_part_44 : decode mX10_part.2.1 44 = .ok (.goto 5, 3) := by decide +kernel
theorem dX10_part_47 : decode mX10_part.2.1 47 = .ok (.bipush (-4), 2) := by decide +kernel
theorem dX10_part_49 : decode mX10_part.2.1 49 = .ok (.ireturn, 1) := by decide +kernel
theorem dX10_close_0 : decode mX10_close.2.1 0 = .ok (.aload_n 0, 1) := by decide +kernel
theorem dX10_close_1 : decode mX10_close.2.1 1 = .ok (.invokevirtual 339, 3) := by decide +kernel
theorem dX10_close_4 : decode mX10_close.2.1 4 = .ok (.ireturn, 1) := by decide +kernel
theorem dX10_unlike_0 : decode mX10_unlike.2.1 0 = .ok (.iconst 0, 1) := by decide +kernel
theorem dX10_unlike_1 : decode mX10_unlike.2.1 1 = .ok (.istore_n 3, 1) := by decide +kernel
theorem dX10_unlike_2 : decode mX10_unlike.2.1 2 = .ok (.iload_n 3, 1) := by decide +kernel
theorem dX10_unlike_3 : decode mX10_unlike.2.1 3 = .ok (.aload_n 0, 1) := by decide +kernel
theorem dX10_unlike_4 : decode mX10_unlike.2.1 4 = .ok (.bipush 8, 2) := by decide +kernel
theorem dX10_unlike_6 : decode mX10_unlike.2.1 6 = .ok (.invokevirtual 89, 3) := by decide +kernel
theorem dX10_unlike_9 : decode mX10_unlike.2.1 9 = .ok (.if_icmp .ge 26, 3) := by decide +kernel
theorem dX10_unlike_12 : decode mX10_unlike.2.1 12 = .ok (.aload_n 0, 1) := by decide +kernel
theorem dX10_unlike_13 : decode mX10_unlike.2.1 13 = .ok (.iload_n 1, 1) := by decide +kernel
theorem dX10_unlike_14 : decode mX10_unlike.2.1 14 = .ok (.iload_n 3, 1) := by decide +kernel
theorem dX10_unlike_15 : decode mX10_unlike.2.1 15 = .ok (.invokevirtual 112, 3) := by decide +kernel
theorem dX10_unlike_18 : decode mX10_unlike.2.1 18 = .ok (.aload_n 0, 1) := by decide +kernel
theorem dX10_unlike_19 : decode mX10_unlike.2.1 19 = .ok (.iload_n 2, 1) := by decide +kernel
theorem dX10_unlike_20 : decode mX10_unlike.2.1 20 = .ok (.iload_n 3, 1) := by decide +kernel
theorem dX10_unlike_21 : decode mX10_unlike.2.1 21 = .ok (.invokevirtual 112, 3) := by decide +kernel
theorem dX10_unlike_24 : decode mX10_unlike.2.1 24 = .ok (.if_icmp .eq 5, 3) := by decide +kernel
theorem dX10_unlike_27 : decode mX10_unlike.2.1 27 = .ok (.iload_n 3, 1) := by decide +kernel
theorem dX10_unlike_28 : decode mX10_unlike.2.1 28 = .ok (.ireturn, 1) := by decide +kernel
theorem dX10_unlike_29 : decode mX10_unlike.2.1 29 = .ok (.iinc 3 1, 3) := by decide +kernel
theorem dX10_unlike_32 : decode mX10_unlike.2.1 32 = .ok (.goto (-30), 3) := by decide +kernel
theorem dX10_unlike_35 : decode mX10_unlike.2.1 35 = .ok (.bipush (-4), 2) := by decide +kernel
theorem dX10_unlike_37 : decode mX10_unlike.2.1 37 = .ok (.ireturn, 1) := by decide +kernel
theorem dX10_isSuffix_0 : decode mX10_isSuffix.2.1 0 = .ok (.iconst 0, 1) := by decide +kernel
theorem dX10_isSuffix_1 : decode mX10_isSuffix.2.1 1 = .ok (.istore_n 3, 1) := by decide +kernel
theorem dX10_isSuffix_2 : decode mX10_isSuffix.2.1 2 = .ok (.iconst 0, 1) := by decide +kernel
theorem dX10_isSuffix_3 : decode mX10_isSuffix.2.1 3 = .ok (.istore 4, 2) := by decide +kernel
theorem dX10_isSuffix_5 : decode mX10_isSuffix.2.1 5 = .ok (.iload 4, 2) := by decide +kernel
theorem dX10_isSuffix_7 : decode mX10_isSuffix.2.1 7 = .ok (.iload_n 2, 1) := by decide +kernel
theorem dX10_isSuffix_8 : decode mX10_isSuffix.2.1 8 = .ok (.if_icmp .ge 30, 3) := by decide +kernel
theorem dX10_isSuffix_11 : decode mX10_isSuffix.2.1 11 = .ok (.iload_n 3, 1) := by decide +kernel
theorem dX10_isSuffix_12 : decode mX10_isSuffix.2.1 12 = .ok (.ifCond .ne 14, 3) := by decide +kernel
theorem dX10_isSuffix_15 : decode mX10_isSuffix.2.1 15 = .ok (.aload_n 0, 1) := by decide +kernel
theorem dX10_isSuffix_16 : decode mX10_isSuffix.2.1 16 = .ok (.getfield 35, 3) := by decide +kernel
theorem dX10_isSuffix_19 : decode mX10_isSuffix.2.1 19 = .ok (.iload 4, 2) := by decide +kernel
theorem dX10_isSuffix_21 : decode mX10_isSuffix.2.1 21 = .ok (.iaload, 1) := by decide +kernel
theorem dX10_isSuffix_22 : decode mX10_isSuffix.2.1 22 = .ok (.iload_n 1, 1) := by decide +kernel
theorem dX10_isSuffix_23 : decode mX10_isSuffix.2.1 23 = .ok (.if_icmp .ne 7, 3) := by decide +kernel
theorem dX10_isSuffix_26 : decode mX10_isSuffix.2.1 26 = .ok (.iconst 1, 1) := by decide +kernel
theorem dX10_isSuffix_27 : decode mX10_isSuffix.2.1 27 = .ok (.goto 4, 3) := by decide +kernel
theorem dX10_isSuffix_30 : decode mX10_isSuffix.2.1 30 = .ok (.iconst 0, 1) := by decide +kernel
theorem dX10_isSuffix_31 : decode mX10_isSuffix.2.1 31 = .ok (.istore_n 3, 1) := by decide +kernel
theorem dX10_isSuffix_32 : decode mX10_isSuffix.2.1 32 = .ok (.iinc 4 1, 3) := by decide +kernel
theorem dX10_isSuffix_35 : decode mX10_isSuffix.2.1 35 = .ok (.goto (-30), 3) := by decide +kernel
theorem dX10_isSuffix_38 : decode mX10_isSuffix.2.1 38 = .ok (.iload_n 3, 1) := by decide +kernel
theorem dX10_isSuffix_39 : decode mX10_isSuffix.2.1 39 = .ok (.ireturn, 1) := by decide +kernel
theorem dX10_learn_0 : decode mX10_learn.2.1 0 = .ok (.aload_n 0, 1) := by decide +kernel
theorem dX10_learn_1 : decode mX10_learn.2.1 1 = .ok (.invokevirtual 339, 3) := by decide +kernel
theorem dX10_learn_4 : decode mX10_learn.2.1 4 = .ok (.pop, 1) := by decide +kernel
theorem dX10_learn_5 : decode mX10_learn.2.1 5 = .ok (.aload_n 0, 1) := by decide +kernel
theorem dX10_learn_6 : decode mX10_learn.2.1 6 = .ok (.invokevirtual 342, 3) := by decide +kernel
theorem dX10_learn_9 : decode mX10_learn.2.1 9 = .ok (.aload_n 0, 1) := by decide +kernel
theorem dX10_learn_10 : decode mX10_learn.2.1 10 = .ok (.dup, 1) := by decide +kernel
theorem dX10_learn_11 : decode mX10_learn.2.1 11 = .ok (.getfield 132, 3) := by decide +kernel
theorem dX10_learn_14 : decode mX10_learn.2.1 14 = .ok (.iconst 1, 1) := by decide +kernel
theorem dX10_learn_15 : decode mX10_learn.2.1 15 = .ok (.iadd, 1) := by decide +kernel
theorem dX10_learn_16 : decode mX10_learn.2.1 16 = .ok (.putfield 132, 3) := by decide +kernel
theorem dX10_learn_19 : decode mX10_learn.2.1 19 = .ok (.aload_n 0, 1) := by decide +kernel
theorem dX10_learn_20 : decode mX10_learn.2.1 20 = .ok (.iconst 0, 1) := by decide +kernel
theorem dX10_learn_21 : decode mX10_learn.2.1 21 = .ok (.iconst 1, 1) := by decide +kernel
theorem dX10_learn_22 : decode mX10_learn.2.1 22 = .ok (.invokevirtual 345, 3) := by decide +kernel
theorem dX10_learn_25 : decode mX10_learn.2.1 25 = .ok (.istore_n 1, 1) := by decide +kernel
theorem dX10_learn_26 : decode mX10_learn.2.1 26 = .ok (.iload_n 1, 1) := by decide +kernel
theorem dX10_learn_27 : decode mX10_learn.2.1 27 = .ok (.bipush (-4), 2) := by decide +kernel
theorem dX10_learn_29 : decode mX10_learn.2.1 29 = .ok (.if_icmp .eq 10, 3) := by decide +kernel
theorem dX10_learn_32 : decode mX10_learn.2.1 32 = .ok (.aload_n 0, 1) := by decide +kernel
theorem dX10_learn_33 : decode mX10_learn.2.1 33 = .ok (.iload_n 1, 1) := by decide +kernel
theorem dX10_learn_34 : decode mX10_learn.2.1 34 = .ok (.iconst 1, 1) := by decide +kernel
theorem dX10_learn_35 : decode mX10_learn.2.1 35 = .ok (.invokevirtual 348, 3) := by decide +kernel
theorem dX10_learn_38 : decode mX10_learn.2.1 38 = .ok (.pop, 1) := by decide +kernel
theorem dX10_learn_39 : decode mX10_learn.2.1 39 = .ok (.iload_n 1, 1) := by decide +kernel
theorem dX10_learn_40 : decode mX10_learn.2.1 40 = .ok (.ireturn, 1) := by decide +kernel
theorem dX10_counter_0 : decode mX10_counter.2.1 0 = .ok (.aload_n 0, 1) := by decide +kernel
theorem dX10_counter_1 : decode mX10_counter.2.1 1 = .ok (.getfield 135, 3) := by decide +kernel
theorem dX10_counter_4 : decode mX10_counter.2.1 4 = .ok (.ifCond .eq 12, 3) := by decide +kernel
theorem dX10_counter_7 : decode mX10_counter.2.1 7 = .ok (.aload_n 0, 1) := by decide +kernel
theorem dX10_counter_8 : decode mX10_counter.2.1 8 = .ok (.iconst 0, 1) := by decide +kernel
theorem dX10_counter_9 : decode mX10_counter.2.1 9 = .ok (.iconst 1, 1) := by decide +kernel
theorem dX10_counter_10 : decode mX10_counter.2.1 10 = .ok (.invokevirtual 345, 3) := by decide +kernel
theorem dX10_counter_13 : decode mX10_counter.2.1 13 = .ok (.goto 5, 3) := by decide +kernel
theorem dX10_counter_16 : decode mX10_counter.2.1 16 = .ok (.bipush (-2), 2) := by decide +kernel
theorem dX10_counter_18 : decode mX10_counter.2.1 18 = .ok (.ireturn, 1) := by decide +kernel
theorem dX10_isResidue_0 : decode mX10_isResidue.2.1 0 = .ok (.iload_n 1, 1) := by decide +kernel
theorem dX10_isResidue_1 : decode mX10_isResidue.2.1 1 = .ok (.i2l, 1) := by decide +kernel
theorem dX10_isResidue_2 : decode mX10_isResidue.2.1 2 = .ok (.lconst 0, 1) := by decide +kernel
theorem dX10_isResidue_3 : decode mX10_isResidue.2.1 3 = .ok (.aload_n 0, 1) := by decide +kernel
theorem dX10_isResidue_4 : decode mX10_isResidue.2.1 4 = .ok (.getfield 13, 3) := by decide +kernel
theorem dX10_isResidue_7 : decode mX10_isResidue.2.1 7 = .ok (.iconst 1, 1) := by decide +kernel
theorem dX10_isResidue_8 : decode mX10_isResidue.2.1 8 = .ok (.isub, 1) := by decide +kernel
theorem dX10_isResidue_9 : decode mX10_isResidue.2.1 9 = .ok (.i2l, 1) := by decide +kernel
theorem dX10_isResidue_10 : decode mX10_isResidue.2.1 10 = .ok (.invokestatic 181, 3) := by decide +kernel
theorem dX10_isResidue_13 : decode mX10_isResidue.2.1 13 = .ok (.ireturn, 1) := by decide +kernel
theorem dX10_begins_0 : decode mX10_begins.2.1 0 = .ok (.aload_n 0, 1) := by decide +kernel
theorem dX10_begins_1 : decode mX10_begins.2.1 1 = .ok (.iconst 1, 1) := by decide +kernel
theorem dX10_begins_2 : decode mX10_begins.2.1 2 = .ok (.iload_n 1, 1) := by decide +kernel
theorem dX10_begins_3 : decode mX10_begins.2.1 3 = .ok (.iload_n 2, 1) := by decide +kernel
theorem dX10_begins_4 : decode mX10_begins.2.1 4 = .ok (.invokevirtual 354, 3) := by decide +kernel
theorem dX10_begins_7 : decode mX10_begins.2.1 7 = .ok (.ireturn, 1) := by decide +kernel
theorem dX10_ends_0 : decode mX10_ends.2.1 0 = .ok (.aload_n 0, 1) := by decide +kernel
theorem dX10_ends_1 : decode mX10_ends.2.1 1 = .ok (.iconst 5, 1) := by decide +kernel
theorem dX10_ends_2 : decode mX10_ends.2.1 2 = .ok (.iload_n 1, 1) := by decide +kernel
theorem dX10_ends_3 : decode mX10_ends.2.1 3 = .ok (.iload_n 2, 1) := by decide +kernel
theorem dX10_ends_4 : decode mX10_ends.2.1 4 = .ok (.invokevirtual 354, 3) := by decide +kernel
theorem dX10_ends_7 : decode mX10_ends.2.1 7 = .ok (.ireturn, 1) := by decide +kernel
theorem dX10_leads_0 : decode mX10_leads.2.1 0 = .ok (.aload_n 0, 1) := by decide +kernel
theorem dX10_leads_1 : decode mX10_leads.2.1 1 = .ok (.iconst 0, 1) := by decide +kernel
theorem dX10_leads_2 : decode mX10_leads.2.1 2 = .ok (.iload_n 1, 1) := by decide +kernel
theorem dX10_leads_3 : decode mX10_leads.2.1 3 = .ok (.invokevirtual 291, 3) := by decide +kernel
theorem dX10_leads_6 : decode mX10_leads.2.1 6 = .ok (.ifCond .eq 29, 3) := by decide +kernel
theorem dX10_leads_9 : decode mX10_leads.2.1 9 = .ok (.aload_n 0, 1) := by decide +kernel
theorem dX10_leads_10 : decode mX10_leads.2.1 10 = .ok (.iload_n 2, 1) := by decide +kernel
theorem dX10_leads_11 : decode mX10_leads.2.1 11 = .ok (.invokevirtual 294, 3) := by decide +kernel
theorem dX10_leads_14 : decode mX10_leads.2.1 14 = .ok (.ifCond .eq 21, 3) := by decide +kernel
theorem dX10_leads_17 : decode mX10_leads.2.1 17 = .ok (.aload_n 0, 1) := by decide +kernel
theorem dX10_leads_18 : decode mX10_leads.2.1 18 = .ok (.iconst 0, 1) := by decide +kernel
theorem dX10_leads_19 : decode mX10_leads.2.1 19 = .ok (.iload_n 3, 1) := by decide +kernel
theorem dX10_leads_20 : decode mX10_leads.2.1 20 = .ok (.invokevirtual 291, 3) := by decide +kernel
theorem dX10_leads_23 : decode mX10_leads.2.1 23 = .ok (.ifCond .eq 12, 3) := by decide +kernel
theorem dX10_leads_26 : decode mX10_leads.2.1 26 = .ok (.aload_n 0, 1) := by decide +kernel
theorem dX10_leads_27 : decode mX10_leads.2.1 27 = .ok (.iload 4, 2) := by decide +kernel
theorem dX10_leads_29 : decode mX10_leads.2.1 29 = .ok (.invokevirtual 351, 3) := by decide +kernel
theorem dX10_leads_32 : decode mX10_leads.2.1 32 = .ok (.ifCond .ne 5, 3) := by decide +kernel
theorem dX10_leads_35 : decode mX10_leads.2.1 35 = .ok (.iconst (-1), 1) := by decide +kernel
theorem dX10_leads_36 : decode mX10_leads.2.1 36 = .ok (.ireturn, 1) := by decide +kernel
theorem dX10_leads_37 : decode mX10_leads.2.1 37 = .ok (.aload_n 0, 1) := by decide +kernel
theorem dX10_leads_38 : decode mX10_leads.2.1 38 = .ok (.iconst 0, 1) := by decide +kernel
theorem dX10_leads_39 : decode mX10_leads.2.1 39 = .ok (.iload_n 1, 1) := by decide +kernel
theorem dX10_leads_40 : decode mX10_leads.2.1 40 = .ok (.iload_n 2, 1) := by decide +kernel
theorem dX10_leads_41 : decode mX10_leads.2.1 41 = .ok (.iload_n 3, 1) := by decide +kernel
theorem dX10_leads_42 : decode mX10_leads.2.1 42 = .ok (.invokevirtual 98, 3) := by decide +kernel
theorem dX10_leads_45 : decode mX10_leads.2.1 45 = .ok (.istore 5, 2) := by decide +kernel
theorem dX10_leads_47 : decode mX10_leads.2.1 47 = .ok (.aload_n 0, 1) := by decide +kernel
theorem dX10_leads_48 : decode mX10_leads.2.1 48 = .ok (.iconst 0, 1) := by decide +kernel
theorem dX10_leads_49 : decode mX10_leads.2.1 49 = .ok (.iload_n 1, 1) := by decide +kernel
theorem dX10_leads_50 : decode mX10_leads.2.1 50 = .ok (.iload_n 2, 1) := by decide +kernel
theorem dX10_leads_51 : decode mX10_leads.2.1 51 = .ok (.iload_n 3, 1) := by decide +kernel
theorem dX10_leads_52 : decode mX10_leads.2.1 52 = .ok (.iload 4, 2) := by decide +kernel
theorem dX10_leads_54 : decode mX10_leads.2.1 54 = .ok (.invokevirtual 160, 3) := by decide +kernel
theorem dX10_leads_57 : decode mX10_leads.2.1 57 = .ok (.aload_n 0, 1) := by decide +kernel
theorem dX10_leads_58 : decode mX10_leads.2.1 58 = .ok (.invokevirtual 78, 3) := by decide +kernel
theorem dX10_leads_61 : decode mX10_leads.2.1 61 = .ok (.iload 5, 2) := by decide +kernel
theorem dX10_leads_63 : decode mX10_leads.2.1 63 = .ok (.ireturn, 1) := by decide +kernel
theorem dX10_grow_0 : decode mX10_grow.2.1 0 = .ok (.aload_n 0, 1) := by decide +kernel
theorem dX10_grow_1 : decode mX10_grow.2.1 1 = .ok (.iconst 0, 1) := by decide +kernel
theorem dX10_grow_2 : decode mX10_grow.2.1 2 = .ok (.invokevirtual 95, 3) := by decide +kernel
theorem dX10_grow_5 : decode mX10_grow.2.1 5 = .ok (.istore_n 1, 1) := by decide +kernel
theorem dX10_grow_6 : decode mX10_grow.2.1 6 = .ok (.iload_n 1, 1) := by decide +kernel
theorem dX10_grow_7 : decode mX10_grow.2.1 7 = .ok (.iconst 4, 1) := by decide +kernel
theorem dX10_grow_8 : decode mX10_grow.2.1 8 = .ok (.if_icmp .ne 6, 3) := by decide +kernel
theorem dX10_grow_11 : decode mX10_grow.2.1 11 = .ok (.bipush (-3), 2) := by decide +kernel
theorem dX10_grow_13 : decode mX10_grow.2.1 13 = .ok (.ireturn, 1) := by decide +kernel
theorem dX10_grow_14 : decode mX10_grow.2.1 14 = .ok (.aload_n 0, 1) := by decide +kernel
theorem dX10_grow_15 : decode mX10_grow.2.1 15 = .ok (.getfield 7, 3) := by decide +kernel
theorem dX10_grow_18 : decode mX10_grow.2.1 18 = .ok (.aload_n 0, 1) := by decide +kernel
theorem dX10_grow_19 : decode mX10_grow.2.1 19 = .ok (.iconst 0, 1) := by decide +kernel
theorem dX10_grow_20 : decode mX10_grow.2.1 20 = .ok (.iconst 0, 1) := by decide +kernel
theorem dX10_grow_21 : decode mX10_grow.2.1 21 = .ok (.invokevirtual 81, 3) := by decide +kernel
theorem dX10_grow_24 : decode mX10_grow.2.1 24 = .ok (.iload_n 1, 1) := by decide +kernel
theorem dX10_grow_25 : decode mX10_grow.2.1 25 = .ok (.iconst 1, 1) := by decide +kernel
theorem dX10_grow_26 : decode mX10_grow.2.1 26 = .ok (.iadd, 1) := by decide +kernel
theorem dX10_grow_27 : decode mX10_grow.2.1 27 = .ok (.iastore, 1) := by decide +kernel
theorem dX10_grow_28 : decode mX10_grow.2.1 28 = .ok (.aload_n 0, 1) := by decide +kernel
theorem dX10_grow_29 : decode mX10_grow.2.1 29 = .ok (.getfield 7, 3) := by decide +kernel
theorem dX10_grow_32 : decode mX10_grow.2.1 32 = .ok (.aload_n 0, 1) := by decide +kernel
theorem dX10_grow_33 : decode mX10_grow.2.1 33 = .ok (.iconst 0, 1) := by decide +kernel
theorem dX10_grow_34 : decode mX10_grow.2.1 34 = .ok (.iconst 1, 1) := by decide +kernel
theorem dX10_grow_35 : decode mX10_grow.2.1 35 = .ok (.iload_n 1, 1) := by decide +kernel
theorem dX10_grow_36 : decode mX10_grow.2.1 36 = .ok (.iadd, 1) := by decide +kernel
theorem dX10_grow_37 : decode mX10_grow.2.1 37 = .ok (.invokevirtual 81, 3) := by decide +kernel
theorem dX10_grow_40 : decode mX10_grow.2.1 40 = .ok (.iconst 0, 1) := by decide +kernel
theorem dX10_grow_41 : decode mX10_grow.2.1 41 = .ok (.iastore, 1) := by decide +kernel
theorem dX10_grow_42 : decode mX10_grow.2.1 42 = .ok (.aload_n 0, 1) := by decide +kernel
theorem dX10_grow_43 : decode mX10_grow.2.1 43 = .ok (.getfield 7, 3) := by decide +kernel
theorem dX10_grow_46 : decode mX10_grow.2.1 46 = .ok (.aload_n 0, 1) := by decide +kernel
theorem dX10_grow_47 : decode mX10_grow.2.1 47 = .ok (.iconst 0, 1) := by decide +kernel
theorem dX10_grow_48 : decode mX10_grow.2.1 48 = .ok (.iconst 5, 1) := by decide +kernel
theorem dX10_grow_49 : decode mX10_grow.2.1 49 = .ok (.iload_n 1, 1) := by decide +kernel
theorem dX10_grow_50 : decode mX10_grow.2.1 50 = .ok (.iadd, 1) := by decide +kernel
theorem dX10_grow_51 : decode mX10_grow.2.1 51 = .ok (.invokevirtual 81, 3) := by decide +kernel
theorem dX10_grow_54 : decode mX10_grow.2.1 54 = .ok (.iconst 0, 1) := by decide +kernel
theorem dX10_grow_55 : decode mX10_grow.2.1 55 = .ok (.iastore, 1) := by decide +kernel
theorem dX10_grow_56 : decode mX10_grow.2.1 56 = .ok (.iconst 0, 1) := by decide +kernel
theorem dX10_grow_57 : decode mX10_grow.2.1 57 = .ok (.istore_n 2, 1) := by decide +kernel
theorem dX10_grow_58 : decode mX10_grow.2.1 58 = .ok (.iload_n 2, 1) := by decide +kernel
theorem dX10_grow_59 : decode mX10_grow.2.1 59 = .ok (.iload_n 1, 1) := by decide +kernel
theorem dX10_grow_60 : decode mX10_grow.2.1 60 = .ok (.if_icmp .gt 40, 3) := by decide +kernel
theorem dX10_grow_63 : decode mX10_grow.2.1 63 = .ok (.iconst 0, 1) := by decide +kernel
theorem dX10_grow_64 : decode mX10_grow.2.1 64 = .ok (.istore_n 3, 1) := by decide +kernel
theorem dX10_grow_65 : decode mX10_grow.2.1 65 = .ok (.iload_n 3, 1) := by decide +kernel
theorem dX10_grow_66 : decode mX10_grow.2.1 66 = .ok (.iconst 3, 1) := by decide +kernel
theorem dX10_grow_67 : decode mX10_grow.2.1 67 = .ok (.if_icmp .ge 27, 3) := by decide +kernel
theorem dX10_grow_70 : decode mX10_grow.2.1 70 = .ok (.aload_n 0, 1) := by decide +kernel
theorem dX10_grow_71 : decode mX10_grow.2.1 71 = .ok (.iconst 0, 1) := by decide +kernel
theorem dX10_grow_72 : decode mX10_grow.2.1 72 = .ok (.iload_n 2, 1) := by decide +kernel
theorem dX10_grow_73 : decode mX10_grow.2.1 73 = .ok (.iload_n 3, 1) := by decide +kernel
theorem dX10_grow_74 : decode mX10_grow.2.1 74 = .ok (.iload_n 1, 1) := by decide +kernel
theorem dX10_grow_75 : decode mX10_grow.2.1 75 = .ok (.iconst 0, 1) := by decide +kernel
theorem dX10_grow_76 : decode mX10_grow.2.1 76 = .ok (.invokevirtual 160, 3) := by decide +kernel
theorem dX10_grow_79 : decode mX10_grow.2.1 79 = .ok (.aload_n 0, 1) := by decide +kernel
theorem dX10_grow_80 : decode mX10_grow.2.1 80 = .ok (.iconst 0, 1) := by decide +kernel
theorem dX10_grow_81 : decode mX10_grow.2.1 81 = .ok (.iload_n 1, 1) := by decide +kernel
theorem dX10_grow_82 : decode mX10_grow.2.1 82 = .ok (.iload_n 3, 1) := by decide +kernel
theorem dX10_grow_83 : decode mX10_grow.2.1 83 = .ok (.iload_n 2, 1) := by decide +kernel
theorem dX10_grow_84 : decode mX10_grow.2.1 84 = .ok (.iconst 0, 1) := by decide +kernel
theorem dX10_grow_85 : decode mX10_grow.2.1 85 = .ok (.invokevirtual 160, 3) := by decide +kernel
theorem dX10_grow_88 : decode mX10_grow.2.1 88 = .ok (.iinc 3 1, 3) := by decide +kernel
theorem dX10_grow_91 : decode mX10_grow.2.1 91 = .ok (.goto (-26), 3) := by decide +kernel
theorem dX10_grow_94 : decode mX10_grow.2.1 94 = .ok (.iinc 2 1, 3) := by decide +kernel
theorem dX10_grow_97 : decode mX10_grow.2.1 97 = .ok (.goto (-39), 3) := by decide +kernel
theorem dX10_grow_100 : decode mX10_grow.2.1 100 = .ok (.aload_n 0, 1) := by decide +kernel
theorem dX10_grow_101 : decode mX10_grow.2.1 101 = .ok (.invokevirtual 78, 3) := by decide +kernel
theorem dX10_grow_104 : decode mX10_grow.2.1 104 = .ok (.iload_n 1, 1) := by decide +kernel
theorem dX10_grow_105 : decode mX10_grow.2.1 105 = .ok (.iconst 1, 1) := by decide +kernel
theorem dX10_grow_106 : decode mX10_grow.2.1 106 = .ok (.iadd, 1) := by decide +kernel
theorem dX10_grow_107 : decode mX10_grow.2.1 107 = .ok (.ireturn, 1) := by decide +kernel
theorem dX10_cellOf_0 : decode mX10_cellOf.2.1 0 = .ok (.iload_n 2, 1) := by decide +kernel
theorem dX10_cellOf_1 : decode mX10_cellOf.2.1 1 = .ok (.bipush (-4), 2) := by decide +kernel
theorem dX10_cellOf_3 : decode mX10_cellOf.2.1 3 = .ok (.if_icmp .ne 7, 3) := by decide +kernel
theorem dX10_cellOf_6 : decode mX10_cellOf.2.1 6 = .ok (.iconst 0, 1) := by decide +kernel
theorem dX10_cellOf_7 : decode mX10_cellOf.2.1 7 = .ok (.goto 17, 3) := by decide +kernel
theorem dX10_cellOf_10 : decode mX10_cellOf.2.1 10 = .ok (.aload_n 0, 1) := by decide +kernel
theorem dX10_cellOf_11 : decode mX10_cellOf.2.1 11 = .ok (.getfield 7, 3) := by decide +kernel
theorem dX10_cellOf_14 : decode mX10_cellOf.2.1 14 = .ok (.aload_n 0, 1) := by decide +kernel
theorem dX10_cellOf_15 : decode mX10_cellOf.2.1 15 = .ok (.bipush 32, 2) := by decide +kernel
theorem dX10_cellOf_17 : decode mX10_cellOf.2.1 17 = .ok (.iload_n 1, 1) := by decide +kernel
theorem dX10_cellOf_18 : decode mX10_cellOf.2.1 18 = .ok (.iload_n 2, 1) := by decide +kernel
theorem dX10_cellOf_19 : decode mX10_cellOf.2.1 19 = .ok (.iadd, 1) := by decide +kernel
theorem dX10_cellOf_20 : decode mX10_cellOf.2.1 20 = .ok (.invokevirtual 81, 3) := by decide +kernel
theorem dX10_cellOf_23 : decode mX10_cellOf.2.1 23 = .ok (.iaload, 1) := by decide +kernel
theorem dX10_cellOf_24 : decode mX10_cellOf.2.1 24 = .ok (.ireturn, 1) := by decide +kernel
theorem dX10_turn_0 : decode mX10_turn.2.1 0 = .ok (.aload_n 0, 1) := by decide +kernel
theorem dX10_turn_1 : decode mX10_turn.2.1 1 = .ok (.iconst 0, 1) := by decide +kernel
theorem dX10_turn_2 : decode mX10_turn.2.1 2 = .ok (.bipush 32, 2) := by decide +kernel
theorem dX10_turn_4 : decode mX10_turn.2.1 4 = .ok (.invokevirtual 264, 3) := by decide +kernel
theorem dX10_turn_7 : decode mX10_turn.2.1 7 = .ok (.aload_n 0, 1) := by decide +kernel
theorem dX10_turn_8 : decode mX10_turn.2.1 8 = .ok (.iconst 0, 1) := by decide +kernel
theorem dX10_turn_9 : decode mX10_turn.2.1 9 = .ok (.invokevirtual 95, 3) := by decide +kernel
theorem dX10_turn_12 : decode mX10_turn.2.1 12 = .ok (.istore_n 1, 1) := by decide +kernel
theorem dX10_turn_13 : decode mX10_turn.2.1 13 = .ok (.iconst 0, 1) := by decide +kernel
theorem dX10_turn_14 : decode mX10_turn.2.1 14 = .ok (.istore_n 2, 1) := by decide +kernel
theorem dX10_turn_15 : decode mX10_turn.2.1 15 = .ok (.iload_n 2, 1) := by decide +kernel
theorem dX10_turn_16 : decode mX10_turn.2.1 16 = .ok (.iload_n 1, 1) := by decide +kernel
theorem dX10_turn_17 : decode mX10_turn.2.1 17 = .ok (.if_icmp .ge 94, 3) := by decide +kernel
theorem dX10_turn_20 : decode mX10_turn.2.1 20 = .ok (.aload_n 0, 1) := by decide +kernel
theorem dX10_turn_21 : decode mX10_turn.2.1 21 = .ok (.getfield 7, 3) := by decide +kernel
theorem dX10_turn_24 : decode mX10_turn.2.1 24 = .ok (.aload_n 0, 1) := by decide +kernel
theorem dX10_turn_25 : decode mX10_turn.2.1 25 = .ok (.iconst 0, 1) := by decide +kernel
theorem dX10_turn_26 : decode mX10_turn.2.1 26 = .ok (.iconst 1, 1) := by decide +kernel
theorem dX10_turn_27 : decode mX10_turn.2.1 27 = .ok (.iload_n 2, 1) := by decide +kernel
theorem dX10_turn_28 : decode mX10_turn.2.1 28 = .ok (.iadd, 1) := by decide +kernel
theorem dX10_turn_29 : decode mX10_turn.2.1 29 = .ok (.invokevirtual 81, 3) := by decide +kernel
theorem dX10_turn_32 : decode mX10_turn.2.1 32 = .ok (.aload_n 0, 1) := by decide +kernel
theorem dX10_turn_33 : decode mX10_turn.2.1 33 = .ok (.iconst 5, 1) := by decide +kernel
theorem dX10_turn_34 : decode mX10_turn.2.1 34 = .ok (.iload_n 2, 1) := by decide +kernel
theorem dX10_turn_35 : decode mX10_turn.2.1 35 = .ok (.invokevirtual 358, 3) := by decide +kernel
theorem dX10_turn_38 : decode mX10_turn.2.1 38 = .ok (.iastore, 1) := by decide +kernel
theorem dX10_turn_39 : decode mX10_turn.2.1 39 = .ok (.aload_n 0, 1) := by decide +kernel
theorem dX10_turn_40 : decode mX10_turn.2.1 40 = .ok (.getfield 7, 3) := by decide +kernel
theorem dX10_turn_43 : decode mX10_turn.2.1 43 = .ok (.aload_n 0, 1) := by decide +kernel
theorem dX10_turn_44 : decode mX10_turn.2.1 44 = .ok (.iconst 0, 1) := by decide +kernel
theorem dX10_turn_45 : decode mX10_turn.2.1 45 = .ok (.iconst 5, 1) := by decide +kernel
theorem dX10_turn_46 : decode mX10_turn.2.1 46 = .ok (.iload_n 2, 1) := by decide +kernel
theorem dX10_turn_47 : decode mX10_turn.2.1 47 = .ok (.iadd, 1) := by decide +kernel
theorem dX10_turn_48 : decode mX10_turn.2.1 48 = .ok (.invokevirtual 81, 3) := by decide +kernel
theorem dX10_turn_51 : decode mX10_turn.2.1 51 = .ok (.aload_n 0, 1) := by decide +kernel
theorem dX10_turn_52 : decode mX10_turn.2.1 52 = .ok (.iconst 1, 1) := by decide +kernel
theorem dX10_turn_53 : decode mX10_turn.2.1 53 = .ok (.iload_n 2, 1) := by decide +kernel
theorem dX10_turn_54 : decode mX10_turn.2.1 54 = .ok (.invokevirtual 358, 3) := by decide +kernel
theorem dX10_turn_57 : decode mX10_turn.2.1 57 = .ok (.iastore, 1) := by decide +kernel
theorem dX10_turn_58 : decode mX10_turn.2.1 58 = .ok (.iconst 0, 1) := by decide +kernel
theorem dX10_turn_59 : decode mX10_turn.2.1 59 = .ok (.istore_n 3, 1) := by decide +kernel
theorem dX10_turn_60 : decode mX10_turn.2.1 60 = .ok (.iload_n 3, 1) := by decide +kernel
theorem dX10_turn_61 : decode mX10_turn.2.1 61 = .ok (.iconst 3, 1) := by decide +kernel
theorem dX10_turn_62 : decode mX10_turn.2.1 62 = .ok (.if_icmp .ge 43, 3) := by decide +kernel
theorem dX10_turn_65 : decode mX10_turn.2.1 65 = .ok (.iconst 0, 1) := by decide +kernel
theorem dX10_turn_66 : decode mX10_turn.2.1 66 = .ok (.istore 4, 2) := by decide +kernel
theorem dX10_turn_68 : decode mX10_turn.2.1 68 = .ok (.iload 4, 2) := by decide +kernel
theorem dX10_turn_70 : decode mX10_turn.2.1 70 = .ok (.iload_n 1, 1) := by decide +kernel
theorem dX10_turn_71 : decode mX10_turn.2.1 71 = .ok (.if_icmp .ge 28, 3) := by decide +kernel
theorem dX10_turn_74 : decode mX10_turn.2.1 74 = .ok (.aload_n 0, 1) := by decide +kernel
theorem dX10_turn_75 : decode mX10_turn.2.1 75 = .ok (.iconst 0, 1) := by decide +kernel
theorem dX10_turn_76 : decode mX10_turn.2.1 76 = .ok (.iload_n 2, 1) := by decide +kernel
theorem dX10_turn_77 : decode mX10_turn.2.1 77 = .ok (.iload_n 3, 1) := by decide +kernel
theorem dX10_turn_78 : decode mX10_turn.2.1 78 = .ok (.iload 4, 2) := by decide +kernel
theorem dX10_turn_80 : decode mX10_turn.2.1 80 = .ok (.aload_n 0, 1) := by decide +kernel
theorem dX10_turn_81 : decode mX10_turn.2.1 81 = .ok (.bipush 32, 2) := by decide +kernel
theorem dX10_turn_83 : decode mX10_turn.2.1 83 = .ok (.iload 4, 2) := by decide +kernel
theorem dX10_turn_85 : decode mX10_turn.2.1 85 = .ok (.iload_n 3, 1) := by decide +kernel
theorem dX10_turn_86 : decode mX10_turn.2.1 86 = .ok (.iload_n 2, 1) := by decide +kernel
theorem dX10_turn_87 : decode mX10_turn.2.1 87 = .ok (.invokevirtual 98, 3) := by decide +kernel
theorem dX10_turn_90 : decode mX10_turn.2.1 90 = .ok (.invokevirtual 160, 3) := by decide +kernel
theorem dX10_turn_93 : decode mX10_turn.2.1 93 = .ok (.iinc 4 1, 3) := by decide +kernel
theorem dX10_turn_96 : decode mX10_turn.2.1 96 = .ok (.goto (-28), 3) := by decide +kernel
theorem dX10_turn_99 : decode mX10_turn.2.1 99 = .ok (.iinc 3 1, 3) := by decide +kernel
theorem dX10_turn_102 : decode mX10_turn.2.1 102 = .ok (.goto (-42), 3) := by decide +kernel
theorem dX10_turn_105 : decode mX10_turn.2.1 105 = .ok (.iinc 2 1, 3) := by decide +kernel
theorem dX10_turn_108 : decode mX10_turn.2.1 108 = .ok (.goto (-93), 3) := by decide +kernel
theorem dX10_turn_111 : decode mX10_turn.2.1 111 = .ok (.aload_n 0, 1) := by decide +kernel
theorem dX10_turn_112 : decode mX10_turn.2.1 112 = .ok (.invokevirtual 78, 3) := by decide +kernel
theorem dX10_turn_115 : decode mX10_turn.2.1 115 = .ok (.iload_n 1, 1) := by decide +kernel
theorem dX10_turn_116 : decode mX10_turn.2.1 116 = .ok (.ireturn, 1) := by decide +kernel
theorem dX10_join_0 : decode mX10_join.2.1 0 = .ok (.iload_n 1, 1) := by decide +kernel
theorem dX10_join_1 : decode mX10_join.2.1 1 = .ok (.i2l, 1) := by decide +kernel
theorem dX10_join_2 : decode mX10_join.2.1 2 = .ok (.lconst 0, 1) := by decide +kernel
theorem dX10_join_3 : decode mX10_join.2.1 3 = .ok (.lconst 1, 1) := by decide +kernel
theorem dX10_join_4 : decode mX10_join.2.1 4 = .ok (.invokestatic 181, 3) := by decide +kernel
theorem dX10_join_7 : decode mX10_join.2.1 7 = .ok (.ifCond .ne 5, 3) := by decide +kernel
theorem dX10_join_10 : decode mX10_join.2.1 10 = .ok (.iconst (-1), 1) := by decide +kernel
theorem dX10_join_11 : decode mX10_join.2.1 11 = .ok (.ireturn, 1) := by decide +kernel
theorem dX10_join_12 : decode mX10_join.2.1 12 = .ok (.aload_n 0, 1) := by decide +kernel
theorem dX10_join_13 : decode mX10_join.2.1 13 = .ok (.getfield 63, 3) := by decide +kernel
theorem dX10_join_16 : decode mX10_join.2.1 16 = .ok (.iload_n 1, 1) := by decide +kernel
theorem dX10_join_17 : decode mX10_join.2.1 17 = .ok (.baload, 1) := by decide +kernel
theorem dX10_join_18 : decode mX10_join.2.1 18 = .ok (.ifCond .ne 6, 3) := by decide +kernel
theorem dX10_join_21 : decode mX10_join.2.1 21 = .ok (.bipush (-2), 2) := by decide +kernel
theorem dX10_join_23 : decode mX10_join.2.1 23 = .ok (.ireturn, 1) := by decide +kernel
theorem dX10_join_24 : decode mX10_join.2.1 24 = .ok (.aload_n 0, 1) := by decide +kernel
theorem dX10_join_25 : decode mX10_join.2.1 25 = .ok (.iconst 0, 1) := by decide +kernel
theorem dX10_join_26 : decode mX10_join.2.1 26 = .ok (.invokevirtual 95, 3) := by decide +kernel
theorem dX10_join_29 : decode mX10_join.2.1 29 = .ok (.istore_n 2, 1) := by decide +kernel
theorem dX10_join_30 : decode mX10_join.2.1 30 = .ok (.aload_n 0, 1) := by decide +kernel
theorem dX10_join_31 : decode mX10_join.2.1 31 = .ok (.iconst 3, 1) := by decide +kernel
theorem dX10_join_32 : decode mX10_join.2.1 32 = .ok (.iload_n 1, 1) := by decide +kernel
theorem dX10_join_33 : decode mX10_join.2.1 33 = .ok (.iadd, 1) := by decide +kernel
theorem dX10_join_34 : decode mX10_join.2.1 34 = .ok (.invokevirtual 95, 3) := by decide +kernel
theorem dX10_join_37 : decode mX10_join.2.1 37 = .ok (.istore_n 3, 1) := by decide +kernel
theorem dX10_join_38 : decode mX10_join.2.1 38 = .ok (.iload_n 2, 1) := by decide +kernel
theorem dX10_join_39 : decode mX10_join.2.1 39 = .ok (.iload_n 3, 1) := by decide +kernel
theorem dX10_join_40 : decode mX10_join.2.1 40 = .ok (.iadd, 1) := by decide +kernel
theorem dX10_join_41 : decode mX10_join.2.1 41 = .ok (.iconst 4, 1) := by decide +kernel
theorem dX10_join_42 : decode mX10_join.2.1 42 = .ok (.if_icmp .le 6, 3) := by decide +kernel
theorem dX10_join_45 : decode mX10_join.2.1 45 = .ok (.bipush (-3), 2) := by decide +kernel
theorem dX10_join_47 : decode mX10_join.2.1 47 = .ok (.ireturn, 1) := by decide +kernel
theorem dX10_join_48 : decode mX10_join.2.1 48 = .ok (.aload_n 0, 1) := by decide +kernel
theorem dX10_join_49 : decode mX10_join.2.1 49 = .ok (.getfield 7, 3) := by decide +kernel
theorem dX10_join_52 : decode mX10_join.2.1 52 = .ok (.aload_n 0, 1) := by decide +kernel
theorem dX10_join_53 : decode mX10_join.2.1 53 = .ok (.iconst 0, 1) := by decide +kernel
theorem dX10_join_54 : decode mX10_join.2.1 54 = .ok (.iconst 0, 1) := by decide +kernel
theorem dX10_join_55 : decode mX10_join.2.1 55 = .ok (.invokevirtual 81, 3) := by decide +kernel
theorem dX10_join_58 : decode mX10_join.2.1 58 = .ok (.iload_n 2, 1) := by decide +kernel
theorem dX10_join_59 : decode mX10_join.2.1 59 = .ok (.iload_n 3, 1) := by decide +kernel
theorem dX10_join_60 : decode mX10_join.2.1 60 = .ok (.iadd, 1) := by decide +kernel
theorem dX10_join_61 : decode mX10_join.2.1 61 = .ok (.iastore, 1) := by decide +kernel
theorem dX10_join_62 : decode mX10_join.2.1 62 = .ok (.iconst 0, 1) := by decide +kernel
theorem dX10_join_63 : decode mX10_join.2.1 63 = .ok (.istore 4, 2) := by decide +kernel
theorem dX10_join_65 : decode mX10_join.2.1 65 = .ok (.iload 4, 2) := by decide +kernel
theorem dX10_join_67 : decode mX10_join.2.1 67 = .ok (.iload_n 3, 1) := by decide +kernel
theorem dX10_join_68 : decode mX10_join.2.1 68 = .ok (.if_icmp .ge 174, 3) := by decide +kernel
theorem dX10_join_71 : decode mX10_join.2.1 71 = .ok (.aload_n 0, 1) := by decide +kernel
theorem dX10_join_72 : decode mX10_join.2.1 72 = .ok (.getfield 7, 3) := by decide +kernel
theorem dX10_join_75 : decode mX10_join.2.1 75 = .ok (.aload_n 0, 1) := by decide +kernel
theorem dX10_join_76 : decode mX10_join.2.1 76 = .ok (.iconst 0, 1) := by decide +kernel
theorem dX10_join_77 : decode mX10_join.2.1 77 = .ok (.iconst 1, 1) := by decide +kernel
theorem dX10_join_78 : decode mX10_join.2.1 78 = .ok (.iload_n 2, 1) := by decide +kernel
theorem dX10_join_79 : decode mX10_join.2.1 79 = .ok (.iadd, 1) := by decide +kernel
theorem dX10_join_80 : decode mX10_join.2.1 80 = .ok (.iload 4, 2) := by decide +kernel
theorem dX10_join_82 : decode mX10_join.2.1 82 = .ok (.iadd, 1) := by decide +kernel
theorem dX10_join_83 : decode mX10_join.2.1 83 = .ok (.invokevirtual 81, 3) := by decide +kernel
theorem dX10_join_86 : decode mX10_join.2.1 86 = .ok (.aload_n 0, 1) := by decide +kernel
theorem dX10_join_87 : decode mX10_join.2.1 87 = .ok (.getfield 7, 3) := by decide +kernel
theorem dX10_join_90 : decode mX10_join.2.1 90 = .ok (.aload_n 0, 1) := by decide +kernel
theorem dX10_join_91 : decode mX10_join.2.1 91 = .ok (.iconst 3, 1) := by decide +kernel
theorem dX10_join_92 : decode mX10_join.2.1 92 = .ok (.iload_n 1, 1) := by decide +kernel
theorem dX10_join_93 : decode mX10_join.2.1 93 = .ok (.iadd, 1) := by decide +kernel
theorem dX10_join_94 : decode mX10_join.2.1 94 = .ok (.iconst 1, 1) := by decide +kernel
theorem dX10_join_95 : decode mX10_join.2.1 95 = .ok (.iload 4, 2) := by decide +kernel
theorem dX10_join_97 : decode mX10_join.2.1 97 = .ok (.iadd, 1) := by decide +kernel
theorem dX10_join_98 : decode mX10_join.2.1 98 = .ok (.invokevirtual 81, 3) := by decide +kernel
theorem dX10_join_101 : decode mX10_join.2.1 101 = .ok (.iaload, 1) := by decide +kernel
theorem dX10_join_102 : decode mX10_join.2.1 102 = .ok (.iastore, 1) := by decide +kernel
theorem dX10_join_103 : decode mX10_join.2.1 103 = .ok (.aload_n 0, 1) := by decide +kernel
theorem dX10_join_104 : decode mX10_join.2.1 104 = .ok (.getfield 7, 3) := by decide +kernel
theorem dX10_join_107 : decode mX10_join.2.1 107 = .ok (.aload_n 0, 1) := by decide +kernel
theorem dX10_join_108 : decode mX10_join.2.1 108 = .ok (.iconst 0, 1) := by decide +kernel
theorem dX10_join_109 : decode mX10_join.2.1 109 = .ok (.iconst 5, 1) := by decide +kernel
theorem dX10_join_110 : decode mX10_join.2.1 110 = .ok (.iload_n 2, 1) := by decide +kernel
theorem dX10_join_111 : decode mX10_join.2.1 111 = .ok (.iadd, 1) := by decide +kernel
theorem dX10_join_112 : decode mX10_join.2.1 112 = .ok (.iload 4, 2) := by decide +kernel
theorem dX10_join_114 : decode mX10_join.2.1 114 = .ok (.iadd, 1) := by decide +kernel
theorem dX10_join_115 : decode mX10_join.2.1 115 = .ok (.invokevirtual 81, 3) := by decide +kernel
theorem dX10_join_118 : decode mX10_join.2.1 118 = .ok (.aload_n 0, 1) := by decide +kernel
theorem dX10_join_119 : decode mX10_join.2.1 119 = .ok (.getfield 7, 3) := by decide +kernel
theorem dX10_join_122 : decode mX10_join.2.1 122 = .ok (.aload_n 0, 1) := by decide +kernel
theorem dX10_join_123 : decode mX10_join.2.1 123 = .ok (.iconst 3, 1) := by decide +kernel
theorem dX10_join_124 : decode mX10_join.2.1 124 = .ok (.iload_n 1, 1) := by decide +kernel
theorem dX10_join_125 : decode mX10_join.2.1 125 = .ok (.iadd, 1) := by decide +kernel
theorem dX10_join_126 : decode mX10_join.2.1 126 = .ok (.iconst 5, 1) := by decide +kernel
theorem dX10_join_127 : decode mX10_join.2.1 127 = .ok (.iload 4, 2) := by decide +kernel
theorem dX10_join_129 : decode mX10_join.2.1 129 = .ok (.iadd, 1) := by decide +kernel
theorem dX10_join_130 : decode mX10_join.2.1 130 = .ok (.invokevirtual 81, 3) := by decide +kernel
theorem dX10_join_133 : decode mX10_join.2.1 133 = .ok (.iaload, 1) := by decide +kernel
theorem dX10_join_134 : decode mX10_join.2.1 134 = .ok (.iastore, 1) := by decide +kernel
theorem dX10_join_135 : decode mX10_join.2.1 135 = .ok (.iconst 0, 1) := by decide +kernel
theorem dX10_join_136 : decode mX10_join.2.1 136 = .ok (.istore 5, 2) := by decide +kernel
theorem dX10_join_138 : decode mX10_join.2.1 138 = .ok (.iload 5, 2) := by decide +kernel
theorem dX10_join_140 : decode mX10_join.2.1 140 = .ok (.iconst 3, 1) := by decide +kernel
theorem dX10_join_141 : decode mX10_join.2.1 141 = .ok (.if_icmp .ge 95, 3) := by decide +kernel
theorem dX10_join_144 : decode mX10_join.2.1 144 = .ok (.iconst 0, 1) := by decide +kernel
theorem dX10_join_145 : decode mX10_join.2.1 145 = .ok (.istore 6, 2) := by decide +kernel
theorem dX10_join_147 : decode mX10_join.2.1 147 = .ok (.iload 6, 2) := by decide +kernel
theorem dX10_join_149 : decode mX10_join.2.1 149 = .ok (.iload_n 2, 1) := by decide +kernel
theorem dX10_join_150 : decode mX10_join.2.1 150 = .ok (.if_icmp .ge 37, 3) := by decide +kernel
theorem dX10_join_153 : decode mX10_join.2.1 153 = .ok (.aload_n 0, 1) := by decide +kernel
theorem dX10_join_154 : decode mX10_join.2.1 154 = .ok (.iconst 0, 1) := by decide +kernel
theorem dX10_join_155 : decode mX10_join.2.1 155 = .ok (.iload_n 2, 1) := by decide +kernel
theorem dX10_join_156 : decode mX10_join.2.1 156 = .ok (.iload 4, 2) := by decide +kernel
theorem dX10_join_158 : decode mX10_join.2.1 158 = .ok (.iadd, 1) := by decide +kernel
theorem dX10_join_159 : decode mX10_join.2.1 159 = .ok (.iload 5, 2) := by decide +kernel
theorem dX10_join_161 : decode mX10_join.2.1 161 = .ok (.iload 6, 2) := by decide +kernel
theorem dX10_join_163 : decode mX10_join.2.1 163 = .ok (.iconst 0, 1) := by decide +kernel
theorem dX10_join_164 : decode mX10_join.2.1 164 = .ok (.invokevirtual 160, 3) := by decide +kernel
theorem dX10_join_167 : decode mX10_join.2.1 167 = .ok (.aload_n 0, 1) := by decide +kernel
theorem dX10_join_168 : decode mX10_join.2.1 168 = .ok (.iconst 0, 1) := by decide +kernel
theorem dX10_join_169 : decode mX10_join.2.1 169 = .ok (.iload 6, 2) := by decide +kernel
theorem dX10_join_171 : decode mX10_join.2.1 171 = .ok (.iload 5, 2) := by decide +kernel
theorem dX10_join_173 : decode mX10_join.2.1 173 = .ok (.iload_n 2, 1) := by decide +kernel
theorem dX10_join_174 : decode mX10_join.2.1 174 = .ok (.iload 4, 2) := by decide +kernel
theorem dX10_join_176 : decode mX10_join.2.1 176 = .ok (.iadd, 1) := by decide +kernel
theorem dX10_join_177 : decode mX10_join.2.1 177 = .ok (.iconst 0, 1) := by decide +kernel
theorem dX10_join_178 : decode mX10_join.2.1 178 = .ok (.invokevirtual 160, 3) := by decide +kernel
theorem dX10_join_181 : decode mX10_join.2.1 181 = .ok (.iinc 6 1, 3) := by decide +kernel
theorem dX10_join_184 : decode mX10_join.2.1 184 = .ok (.goto (-37), 3) := by decide +kernel
theorem dX10_join_187 : decode mX10_join.2.1 187 = .ok (.iconst 0, 1) := by decide +kernel
theorem dX10_join_188 : decode mX10_join.2.1 188 = .ok (.istore 6, 2) := by decide +kernel
theorem dX10_join_190 : decode mX10_join.2.1 190 = .ok (.iload 6, 2) := by decide +kernel
theorem dX10_join_192 : decode mX10_join.2.1 192 = .ok (.iload_n 3, 1) := by decide +kernel
theorem dX10_join_193 : decode mX10_join.2.1 193 = .ok (.if_icmp .ge 37, 3) := by decide +kernel
theorem dX10_join_196 : decode mX10_join.2.1 196 = .ok (.aload_n 0, 1) := by decide +kernel
theorem dX10_join_197 : decode mX10_join.2.1 197 = .ok (.iconst 0, 1) := by decide +kernel
theorem dX10_join_198 : decode mX10_join.2.1 198 = .ok (.iload_n 2, 1) := by decide +kernel
theorem dX10_join_199 : decode mX10_join.2.1 199 = .ok (.iload 4, 2) := by decide +kernel
theorem dX10_join_201 : decode mX10_join.2.1 201 = .ok (.iadd, 1) := by decide +kernel
theorem dX10_join_202 : decode mX10_join.2.1 202 = .ok (.iload 5, 2) := by decide +kernel
theorem dX10_join_204 : decode mX10_join.2.1 204 = .ok (.iload_n 2, 1) := by decide +kernel
theorem dX10_join_205 : decode mX10_join.2.1 205 = .ok (.iload 6, 2) := by decide +kernel
theorem dX10_join_207 : decode mX10_join.2.1 207 = .ok (.iadd, 1) := by decide +kernel
theorem dX10_join_208 : decode mX10_join.2.1 208 = .ok (.aload_n 0, 1) := by decide +kernel
theorem dX10_join_209 : decode mX10_join.2.1 209 = .ok (.iconst 3, 1) := by decide +kernel
theorem dX10_join_210 : decode mX10_join.2.1 210 = .ok (.iload_n 1, 1) := by decide +kernel
theorem dX10_join_211 : decode mX10_join.2.1 211 = .ok (.iadd, 1) := by decide +kernel
theorem dX10_join_212 : decode mX10_join.2.1 212 = .ok (.iload 4, 2) := by decide +kernel
theorem dX10_join_214 : decode mX10_join.2.1 214 = .ok (.iload 5, 2) := by decide +kernel
theorem dX10_join_216 : decode mX10_join.2.1 216 = .ok (.iload 6, 2) := by decide +kernel
theorem dX10_join_218 : decode mX10_join.2.1 218 = .ok (.invokevirtual 98, 3) := by decide +kernel
theorem dX10_join_221 : decode mX10_join.2.1 221 = .ok (.invokevirtual 160, 3) := by decide +kernel
theorem dX10_join_224 : decode mX10_join.2.1 224 = .ok (.iinc 6 1, 3) := by decide +kernel
theorem dX10_join_227 : decode mX10_join.2.1 227 = .ok (.goto (-37), 3) := by decide +kernel
theorem dX10_join_230 : decode mX10_join.2.1 230 = .ok (.iinc 5 1, 3) := by decide +kernel
theorem dX10_join_233 : decode mX10_join.2.1 233 = .ok (.goto (-95), 3) := by decide +kernel
theorem dX10_join_236 : decode mX10_join.2.1 236 = .ok (.iinc 4 1, 3) := by decide +kernel
theorem dX10_join_239 : decode mX10_join.2.1 239 = .ok (.goto (-174), 3) := by decide +kernel
theorem dX10_join_242 : decode mX10_join.2.1 242 = .ok (.aload_n 0, 1) := by decide +kernel
theorem dX10_join_243 : decode mX10_join.2.1 243 = .ok (.invokevirtual 78, 3) := by decide +kernel
theorem dX10_join_246 : decode mX10_join.2.1 246 = .ok (.iload_n 2, 1) := by decide +kernel
theorem dX10_join_247 : decode mX10_join.2.1 247 = .ok (.iload_n 3, 1) := by decide +kernel
theorem dX10_join_248 : decode mX10_join.2.1 248 = .ok (.iadd, 1) := by decide +kernel
theorem dX10_join_249 : decode mX10_join.2.1 249 = .ok (.ireturn, 1) := by decide +kernel
theorem dX10_residue_0 : decode mX10_residue.2.1 0 = .ok (.aload_n 0, 1) := by decide +kernel
theorem dX10_residue_1 : decode mX10_residue.2.1 1 = .ok (.aload_n 0, 1) := by decide +kernel
theorem dX10_residue_2 : decode mX10_residue.2.1 2 = .ok (.getfield 361, 3) := by decide +kernel
theorem dX10_residue_5 : decode mX10_residue.2.1 5 = .ok (.ldc_w 364, 3) := by decide +kernel
theorem dX10_residue_8 : decode mX10_residue.2.1 8 = .ok (.imul, 1) := by decide +kernel
theorem dX10_residue_9 : decode mX10_residue.2.1 9 = .ok (.sipush 12345, 3) := by decide +kernel
theorem dX10_residue_12 : decode mX10_residue.2.1 12 = .ok (.iadd, 1) := by decide +kernel
theorem dX10_residue_13 : decode mX10_residue.2.1 13 = .ok (.putfield 361, 3) := by decide +kernel
theorem dX10_residue_16 : decode mX10_residue.2.1 16 = .ok (.aload_n 0, 1) := by decide +kernel
theorem dX10_residue_17 : decode mX10_residue.2.1 17 = .ok (.getfield 361, 3) := by decide +kernel
theorem dX10_residue_20 : decode mX10_residue.2.1 20 = .ok (.bipush 16, 2) := by decide +kernel
theorem dX10_residue_22 : decode mX10_residue.2.1 22 = .ok (.ishr, 1) := by decide +kernel
theorem dX10_residue_23 : decode mX10_residue.2.1 23 = .ok (.sipush 32767, 3) := by decide +kernel
theorem dX10_residue_26 : decode mX10_residue.2.1 26 = .ok (.iand, 1) := by decide +kernel
theorem dX10_residue_27 : decode mX10_residue.2.1 27 = .ok (.istore_n 1, 1) := by decide +kernel
theorem dX10_residue_28 : decode mX10_residue.2.1 28 = .ok (.iload_n 1, 1) := by decide +kernel
theorem dX10_residue_29 : decode mX10_residue.2.1 29 = .ok (.sipush 128, 3) := by decide +kernel
theorem dX10_residue_32 : decode mX10_residue.2.1 32 = .ok (.idiv, 1) := by decide +kernel
theorem dX10_residue_33 : decode mX10_residue.2.1 33 = .ok (.iconst 2, 1) := by decide +kernel
theorem dX10_residue_34 : decode mX10_residue.2.1 34 = .ok (.irem, 1) := by decide +kernel
theorem dX10_residue_35 : decode mX10_residue.2.1 35 = .ok (.ifCond .ne 7, 3) := by decide +kernel
theorem dX10_residue_38 : decode mX10_residue.2.1 38 = .ok (.iconst 0, 1) := by decide +kernel
theorem dX10_residue_39 : decode mX10_residue.2.1 39 = .ok (.goto 9, 3) := by decide +kernel
theorem dX10_residue_42 : decode mX10_residue.2.1 42 = .ok (.iload_n 1, 1) := by decide +kernel
theorem dX10_residue_43 : decode mX10_residue.2.1 43 = .ok (.aload_n 0, 1) := by decide +kernel
theorem dX10_residue_44 : decode mX10_residue.2.1 44 = .ok (.getfield 13, 3) := by decide +kernel
theorem dX10_residue_47 : decode mX10_residue.2.1 47 = .ok (.irem, 1) := by decide +kernel
theorem dX10_residue_48 : decode mX10_residue.2.1 48 = .ok (.ireturn, 1) := by decide +kernel
theorem dX10_keep_0 : decode mX10_keep.2.1 0 = .ok (.iload_n 1, 1) := by decide +kernel
theorem dX10_keep_1 : decode mX10_keep.2.1 1 = .ok (.i2l, 1) := by decide +kernel
theorem dX10_keep_2 : decode mX10_keep.2.1 2 = .ok (.lconst 0, 1) := by decide +kernel
theorem dX10_keep_3 : decode mX10_keep.2.1 3 = .ok (.lconst 1, 1) := by decide +kernel
theorem dX10_keep_4 : decode mX10_keep.2.1 4 = .ok (.invokestatic 181, 3) := by decide +kernel
theorem dX10_keep_7 : decode mX10_keep.2.1 7 = .ok (.ifCond .ne 5, 3) := by decide +kernel
theorem dX10_keep_10 : decode mX10_keep.2.1 10 = .ok (.iconst (-1), 1) := by decide +kernel
theorem dX10_keep_11 : decode mX10_keep.2.1 11 = .ok (.ireturn, 1) := by decide +kernel
theorem dX10_keep_12 : decode mX10_keep.2.1 12 = .ok (.aload_n 0, 1) := by decide +kernel
theorem dX10_keep_13 : decode mX10_keep.2.1 13 = .ok (.getfield 63, 3) := by decide +kernel
theorem dX10_keep_16 : decode mX10_keep.2.1 16 = .ok (.iload_n 1, 1) := by decide +kernel
theorem dX10_keep_17 : decode mX10_keep.2.1 17 = .ok (.baload, 1) := by decide +kernel
theorem dX10_keep_18 : decode mX10_keep.2.1 18 = .ok (.ifCond .eq 7, 3) := by decide +kernel
theorem dX10_keep_21 : decode mX10_keep.2.1 21 = .ok (.iconst 1, 1) := by decide +kernel
theorem dX10_keep_22 : decode mX10_keep.2.1 22 = .ok (.goto 4, 3) := by decide +kernel
theorem dX10_keep_25 : decode mX10_keep.2.1 25 = .ok (.iconst 0, 1) := by decide +kernel
theorem dX10_keep_26 : decode mX10_keep.2.1 26 = .ok (.istore_n 2, 1) := by decide +kernel
theorem dX10_keep_27 : decode mX10_keep.2.1 27 = .ok (.bipush 70, 2) := by decide +kernel
theorem dX10_keep_29 : decode mX10_keep.2.1 29 = .ok (.iload_n 1, 1) := by decide +kernel
theorem dX10_keep_30 : decode mX10_keep.2.1 30 = .ok (.imul, 1) := by decide +kernel
theorem dX10_keep_31 : decode mX10_keep.2.1 31 = .ok (.istore_n 3, 1) := by decide +kernel
theorem dX10_keep_32 : decode mX10_keep.2.1 32 = .ok (.iconst 0, 1) := by decide +kernel
theorem dX10_keep_33 : decode mX10_keep.2.1 33 = .ok (.istore 4, 2) := by decide +kernel
theorem dX10_keep_35 : decode mX10_keep.2.1 35 = .ok (.iload 4, 2) := by decide +kernel
theorem dX10_keep_37 : decode mX10_keep.2.1 37 = .ok (.iconst 5, 1) := by decide +kernel
theorem dX10_keep_38 : decode mX10_keep.2.1 38 = .ok (.if_icmp .ge 25, 3) := by decide +kernel
theorem dX10_keep_41 : decode mX10_keep.2.1 41 = .ok (.aload_n 0, 1) := by decide +kernel
theorem dX10_keep_42 : decode mX10_keep.2.1 42 = .ok (.getfield 66, 3) := by decide +kernel
theorem dX10_keep_45 : decode mX10_keep.2.1 45 = .ok (.iload_n 3, 1) := by decide +kernel
theorem dX10_keep_46 : decode mX10_keep.2.1 46 = .ok (.iload 4, 2) := by decide +kernel
theorem dX10_keep_48 : decode mX10_keep.2.1 48 = .ok (.iadd, 1) := by decide +kernel
theorem dX10_keep_49 : decode mX10_keep.2.1 49 = .ok (.aload_n 0, 1) := by decide +kernel
theorem dX10_keep_50 : decode mX10_keep.2.1 50 = .ok (.getfield 32, 3) := by decide +kernel
theorem dX10_keep_53 : decode mX10_keep.2.1 53 = .ok (.iload 4, 2) := by decide +kernel
theorem dX10_keep_55 : decode mX10_keep.2.1 55 = .ok (.iaload, 1) := by decide +kernel
theorem dX10_keep_56 : decode mX10_keep.2.1 56 = .ok (.iastore, 1) := by decide +kernel
theorem dX10_keep_57 : decode mX10_keep.2.1 57 = .ok (.iinc 4 1, 3) := by decide +kernel
theorem dX10_keep_60 : decode mX10_keep.2.1 60 = .ok (.goto (-25), 3) := by decide +kernel
theorem dX10_keep_63 : decode mX10_keep.2.1 63 = .ok (.iconst 0, 1) := by decide +kernel
theorem dX10_keep_64 : decode mX10_keep.2.1 64 = .ok (.istore 4, 2) := by decide +kernel
theorem dX10_keep_66 : decode mX10_keep.2.1 66 = .ok (.iload 4, 2) := by decide +kernel
theorem dX10_keep_68 : decode mX10_keep.2.1 68 = .ok (.bipush 60, 2) := by decide +kernel
theorem dX10_keep_70 : decode mX10_keep.2.1 70 = .ok (.if_icmp .ge 27, 3) := by decide +kernel
theorem dX10_keep_73 : decode mX10_keep.2.1 73 = .ok (.aload_n 0, 1) := by decide +kernel
theorem dX10_keep_74 : decode mX10_keep.2.1 74 = .ok (.getfield 66, 3) := by decide +kernel
theorem dX10_keep_77 : decode mX10_keep.2.1 77 = .ok (.iload_n 3, 1) := by decide +kernel
theorem dX10_keep_78 : decode mX10_keep.2.1 78 = .ok (.iconst 5, 1) := by decide +kernel
theorem dX10_keep_79 : decode mX10_keep.2.1 79 = .ok (.iadd, 1) := by decide +kernel
theorem dX10_keep_80 : decode mX10_keep.2.1 80 = .ok (.iload 4, 2) := by decide +kernel
theorem dX10_keep_82 : decode mX10_keep.2.1 82 = .ok (.iadd, 1) := by decide +kernel
theorem dX10_keep_83 : decode mX10_keep.2.1 83 = .ok (.aload_n 0, 1) := by decide +kernel
theorem dX10_keep_84 : decode mX10_keep.2.1 84 = .ok (.getfield 35, 3) := by decide +kernel
theorem dX10_keep_87 : decode mX10_keep.2.1 87 = .ok (.iload 4, 2) := by decide +kernel
theorem dX10_keep_89 : decode mX10_keep.2.1 89 = .ok (.iaload, 1) := by decide +kernel
theorem dX10_keep_90 : decode mX10_keep.2.1 90 = .ok (.iastore, 1) := by decide +kernel
theorem dX10_keep_91 : decode mX10_keep.2.1 91 = .ok (.iinc 4 1, 3) := by decide +kernel
theorem dX10_keep_94 : decode mX10_keep.2.1 94 = .ok (.goto (-28), 3) := by decide +kernel
theorem dX10_keep_97 : decode mX10_keep.2.1 97 = .ok (.aload_n 0, 1) := by decide +kernel
theorem dX10_keep_98 : decode mX10_keep.2.1 98 = .ok (.getfield 66, 3) := by decide +kernel
theorem dX10_keep_101 : decode mX10_keep.2.1 101 = .ok (.iload_n 3, 1) := by decide +kernel
theorem dX10_keep_102 : decode mX10_keep.2.1 102 = .ok (.bipush 65, 2) := by decide +kernel
theorem dX10_keep_104 : decode mX10_keep.2.1 104 = .ok (.iadd, 1) := by decide +kernel
theorem dX10_keep_105 : decode mX10_keep.2.1 105 = .ok (.aload_n 0, 1) := by decide +kernel
theorem dX10_keep_106 : decode mX10_keep.2.1 106 = .ok (.getfield 126, 3) := by decide +kernel
theorem dX10_keep_109 : decode mX10_keep.2.1 109 = .ok (.iastore, 1) := by decide +kernel
theorem dX10_keep_110 : decode mX10_keep.2.1 110 = .ok (.aload_n 0, 1) := by decide +kernel
theorem dX10_keep_111 : decode mX10_keep.2.1 111 = .ok (.getfield 66, 3) := by decide +kernel
theorem dX10_keep_114 : decode mX10_keep.2.1 114 = .ok (.iload_n 3, 1) := by decide +kernel
theorem dX10_keep_115 : decode mX10_keep.2.1 115 = .ok (.bipush 66, 2) := by decide +kernel
theorem dX10_keep_117 : decode mX10_keep.2.1 117 = .ok (.iadd, 1) := by decide +kernel
theorem dX10_keep_118 : decode mX10_keep.2.1 118 = .ok (.aload_n 0, 1) := by decide +kernel
theorem dX10_keep_119 : decode mX10_keep.2.1 119 = .ok (.getfield 129, 3) := by decide +kernel
theorem dX10_keep_122 : decode mX10_keep.2.1 122 = .ok (.iastore, 1) := by decide +kernel
theorem dX10_keep_123 : decode mX10_keep.2.1 123 = .ok (.aload_n 0, 1) := by decide +kernel
theorem dX10_keep_124 : decode mX10_keep.2.1 124 = .ok (.getfield 66, 3) := by decide +kernel
theorem dX10_keep_127 : decode mX10_keep.2.1 127 = .ok (.iload_n 3, 1) := by decide +kernel
theorem dX10_keep_128 : decode mX10_keep.2.1 128 = .ok (.bipush 67, 2) := by decide +kernel
theorem dX10_keep_130 : decode mX10_keep.2.1 130 = .ok (.iadd, 1) := by decide +kernel
theorem dX10_keep_131 : decode mX10_keep.2.1 131 = .ok (.aload_n 0, 1) := by decide +kernel
theorem dX10_keep_132 : decode mX10_keep.2.1 132 = .ok (.getfield 132, 3) := by decide +kernel
theorem dX10_keep_135 : decode mX10_keep.2.1 135 = .ok (.iastore, 1) := by decide +kernel
theorem dX10_keep_136 : decode mX10_keep.2.1 136 = .ok (.aload_n 0, 1) := by decide +kernel
theorem dX10_keep_137 : decode mX10_keep.2.1 137 = .ok (.getfield 66, 3) := by decide +kernel
theorem dX10_keep_140 : decode mX10_keep.2.1 140 = .ok (.iload_n 3, 1) := by decide +kernel
theorem dX10_keep_141 : decode mX10_keep.2.1 141 = .ok (.bipush 68, 2) := by decide +kernel
theorem dX10_keep_143 : decode mX10_keep.2.1 143 = .ok (.iadd, 1) := by decide +kernel
theorem dX10_keep_144 : decode mX10_keep.2.1 144 = .ok (.aload_n 0, 1) := by decide +kernel
theorem dX10_keep_145 : decode mX10_keep.2.1 145 = .ok (.getfield 135, 3) := by decide +kernel
theorem dX10_keep_148 : decode mX10_keep.2.1 148 = .ok (.ifCond .eq 7, 3) := by decide +kernel
theorem dX10_keep_151 : decode mX10_keep.2.1 151 = .ok (.iconst 1, 1) := by decide +kernel
theorem dX10_keep_152 : decode mX10_keep.2.1 152 = .ok (.goto 4, 3) := by decide +kernel
theorem dX10_keep_155 : decode mX10_keep.2.1 155 = .ok (.iconst 0, 1) := by decide +kernel
theorem dX10_keep_156 : decode mX10_keep.2.1 156 = .ok (.iastore, 1) := by decide +kernel
theorem dX10_keep_157 : decode mX10_keep.2.1 157 = .ok (.aload_n 0, 1) := by decide +kernel
theorem dX10_keep_158 : decode mX10_keep.2.1 158 = .ok (.iconst 0, 1) := by decide +kernel
theorem dX10_keep_159 : decode mX10_keep.2.1 159 = .ok (.iconst 3, 1) := by decide +kernel
theorem dX10_keep_160 : decode mX10_keep.2.1 160 = .ok (.iload_n 1, 1) := by decide +kernel
theorem dX10_keep_161 : decode mX10_keep.2.1 161 = .ok (.iadd, 1) := by decide +kernel
theorem dX10_keep_162 : decode mX10_keep.2.1 162 = .ok (.invokevirtual 264, 3) := by decide +kernel
theorem dX10_keep_165 : decode mX10_keep.2.1 165 = .ok (.aload_n 0, 1) := by decide +kernel
theorem dX10_keep_166 : decode mX10_keep.2.1 166 = .ok (.iconst 1, 1) := by decide +kernel
theorem dX10_keep_167 : decode mX10_keep.2.1 167 = .ok (.iconst 5, 1) := by decide +kernel
theorem dX10_keep_168 : decode mX10_keep.2.1 168 = .ok (.iload_n 1, 1) := by decide +kernel
theorem dX10_keep_169 : decode mX10_keep.2.1 169 = .ok (.iadd, 1) := by decide +kernel
theorem dX10_keep_170 : decode mX10_keep.2.1 170 = .ok (.invokevirtual 264, 3) := by decide +kernel
theorem dX10_keep_173 : decode mX10_keep.2.1 173 = .ok (.aload_n 0, 1) := by decide +kernel
theorem dX10_keep_174 : decode mX10_keep.2.1 174 = .ok (.getfield 63, 3) := by decide +kernel
theorem dX10_keep_177 : decode mX10_keep.2.1 177 = .ok (.iload_n 1, 1) := by decide +kernel
theorem dX10_keep_178 : decode mX10_keep.2.1 178 = .ok (.iconst 1, 1) := by decide +kernel
theorem dX10_keep_179 : decode mX10_keep.2.1 179 = .ok (.bastore, 1) := by decide +kernel
theorem dX10_keep_180 : decode mX10_keep.2.1 180 = .ok (.iload_n 2, 1) := by decide +kernel
theorem dX10_keep_181 : decode mX10_keep.2.1 181 = .ok (.ireturn, 1) := by decide +kernel
theorem dX10_back_0 : decode mX10_back.2.1 0 = .ok (.iload_n 1, 1) := by decide +kernel
theorem dX10_back_1 : decode mX10_back.2.1 1 = .ok (.i2l, 1) := by decide +kernel
theorem dX10_back_2 : decode mX10_back.2.1 2 = .ok (.lconst 0, 1) := by decide +kernel
theorem dX10_back_3 : decode mX10_back.2.1 3 = .ok (.lconst 1, 1) := by decide +kernel
theorem dX10_back_4 : decode mX10_back.2.1 4 = .ok (.invokestatic 181, 3) := by decide +kernel
theorem dX10_back_7 : decode mX10_back.2.1 7 = .ok (.ifCond .ne 5, 3) := by decide +kernel
theorem dX10_back_10 : decode mX10_back.2.1 10 = .ok (.iconst (-1), 1) := by decide +kernel
theorem dX10_back_11 : decode mX10_back.2.1 11 = .ok (.ireturn, 1) := by decide +kernel
theorem dX10_back_12 : decode mX10_back.2.1 12 = .ok (.aload_n 0, 1) := by decide +kernel
theorem dX10_back_13 : decode mX10_back.2.1 13 = .ok (.getfield 63, 3) := by decide +kernel
theorem dX10_back_16 : decode mX10_back.2.1 16 = .ok (.iload_n 1, 1) := by decide +kernel
theorem dX10_back_17 : decode mX10_back.2.1 17 = .ok (.baload, 1) := by decide +kernel
theorem dX10_back_18 : decode mX10_back.2.1 18 = .ok (.ifCond .ne 6, 3) := by decide +kernel
theorem dX10_back_21 : decode mX10_back.2.1 21 = .ok (.bipush (-2), 2) := by decide +kernel
theorem dX10_back_23 : decode mX10_back.2.1 23 = .ok (.ireturn, 1) := by decide +kernel
theorem dX10_back_24 : decode mX10_back.2.1 24 = .ok (.bipush 70, 2) := by decide +kernel
theorem dX10_back_26 : decode mX10_back.2.1 26 = .ok (.iload_n 1, 1) := by decide +kernel
theorem dX10_back_27 : decode mX10_back.2.1 27 = .ok (.imul, 1) := by decide +kernel
theorem dX10_back_28 : decode mX10_back.2.1 28 = .ok (.istore_n 2, 1) := by decide +kernel
theorem dX10_back_29 : decode mX10_back.2.1 29 = .ok (.iconst 0, 1) := by decide +kernel
theorem dX10_back_30 : decode mX10_back.2.1 30 = .ok (.istore_n 3, 1) := by decide +kernel
theorem dX10_back_31 : decode mX10_back.2.1 31 = .ok (.iload_n 3, 1) := by decide +kernel
theorem dX10_back_32 : decode mX10_back.2.1 32 = .ok (.iconst 5, 1) := by decide +kernel
theorem dX10_back_33 : decode mX10_back.2.1 33 = .ok (.if_icmp .ge 23, 3) := by decide +kernel
theorem dX10_back_36 : decode mX10_back.2.1 36 = .ok (.aload_n 0, 1) := by decide +kernel
theorem dX10_back_37 : decode mX10_back.2.1 37 = .ok (.getfield 32, 3) := by decide +kernel
theorem dX10_back_40 : decode mX10_back.2.1 40 = .ok (.iload_n 3, 1) := by decide +kernel
theorem dX10_back_41 : decode mX10_back.2.1 41 = .ok (.aload_n 0, 1) := by decide +kernel
theorem dX10_back_42 : decode mX10_back.2.1 42 = .ok (.getfield 66, 3) := by decide +kernel
theorem dX10_back_45 : decode mX10_back.2.1 45 = .ok (.iload_n 2, 1) := by decide +kernel
theorem dX10_back_46 : decode mX10_back.2.1 46 = .ok (.iload_n 3, 1) := by decide +kernel
theorem dX10_back_47 : decode mX10_back.2.1 47 = .ok (.iadd, 1) := by decide +kernel
theorem dX10_back_48 : decode mX10_back.2.1 48 = .ok (.iaload, 1) := by decide +kernel
theorem dX10_back_49 : decode mX10_back.2.1 49 = .ok (.iastore, 1) := by decide +kernel
theorem dX10_back_50 : decode mX10_back.2.1 50 = .ok (.iinc 3 1, 3) := by decide +kernel
theorem dX10_back_53 : decode mX10_back.2.1 53 = .ok (.goto (-22), 3) := by decide +kernel
theorem dX10_back_56 : decode mX10_back.2.1 56 = .ok (.iconst 0, 1) := by decide +kernel
theorem dX10_back_57 : decode mX10_back.2.1 57 = .ok (.istore_n 3, 1) := by decide +kernel
theorem dX10_back_58 : decode mX10_back.2.1 58 = .ok (.iload_n 3, 1) := by decide +kernel
theorem dX10_back_59 : decode mX10_back.2.1 59 = .ok (.bipush 60, 2) := by decide +kernel
theorem dX10_back_61 : decode mX10_back.2.1 61 = .ok (.if_icmp .ge 25, 3) := by decide +kernel
theorem dX10_back_64 : decode mX10_back.2.1 64 = .ok (.aload_n 0, 1) := by decide +kernel
theorem dX10_back_65 : decode mX10_back.2.1 65 = .ok (.getfield 35, 3) := by decide +kernel
theorem dX10_back_68 : decode mX10_back.2.1 68 = .ok (.iload_n 3, 1) := by decide +kernel
theorem dX10_back_69 : decode mX10_back.2.1 69 = .ok (.aload_n 0, 1) := by decide +kernel
theorem dX10_back_70 : decode mX10_back.2.1 70 = .ok (.getfield 66, 3) := by decide +kernel
theorem dX10_back_73 : decode mX10_back.2.1 73 = .ok (.iload_n 2, 1) := by decide +kernel
theorem dX10_back_74 : decode mX10_back.2.1 74 = .ok (.iconst 5, 1) := by decide +kernel
theorem dX10_back_75 : decode mX10_back.2.1 75 = .ok (.iadd, 1) := by decide +kernel
theorem dX10_back_76 : decode mX10_back.2.1 76 = .ok (.iload_n 3, 1) := by decide +kernel
theorem dX10_back_77 : decode mX10_back.2.1 77 = .ok (.iadd, 1) := by decide +kernel
theorem dX10_back_78 : decode mX10_back.2.1 78 = .ok (.iaload, 1) := by decide +kernel
theorem dX10_back_79 : decode mX10_back.2.1 79 = .ok (.iastore, 1) := by decide +kernel
theorem dX10_back_80 : decode mX10_back.2.1 80 = .ok (.iinc 3 1, 3) := by decide +kernel
theorem dX10_back_83 : decode mX10_back.2.1 83 = .ok (.goto (-25), 3) := by decide +kernel
theorem dX10_back_86 : decode mX10_back.2.1 86 = .ok (.aload_n 0, 1) := by decide +kernel
theorem dX10_back_87 : decode mX10_back.2.1 87 = .ok (.aload_n 0, 1) := by decide +kernel
theorem dX10_back_88 : decode mX10_back.2.1 88 = .ok (.getfield 66, 3) := by decide +kernel
theorem dX10_back_91 : decode mX10_back.2.1 91 = .ok (.iload_n 2, 1) := by decide +kernel
theorem dX10_back_92 : decode mX10_back.2.1 92 = .ok (.bipush 65, 2) := by decide +kernel
theorem dX10_back_94 : decode mX10_back.2.1 94 = .ok (.iadd, 1) := by decide +kernel
theorem dX10_back_95 : decode mX10_back.2.1 95 = .ok (.iaload, 1) := by decide +kernel
theorem dX10_back_96 : decode mX10_back.2.1 96 = .ok (.putfield 126, 3) := by decide +kernel
theorem dX10_back_99 : decode mX10_back.2.1 99 = .ok (.aload_n 0, 1) := by decide +kernel
theorem dX10_back_100 : decode mX10_back.2.1 100 = .ok (.aload_n 0, 1) := by decide +kernel
theorem dX10_back_101 : decode mX10_back.2.1 101 = .ok (.getfield 66, 3) := by decide +kernel
theorem dX10_back_104 : decode mX10_back.2.1 104 = .ok (.iload_n 2, 1) := by decide +kernel
theorem dX10_back_105 : decode mX10_back.2.1 105 = .ok (.bipush 66, 2) := by decide +kernel
theorem dX10_back_107 : decode mX10_back.2.1 107 = .ok (.iadd, 1) := by decide +kernel
theorem dX10_back_108 : decode mX10_back.2.1 108 = .ok (.iaload, 1) := by decide +kernel
theorem dX10_back_109 : decode mX10_back.2.1 109 = .ok (.putfield 129, 3) := by decide +kernel
theorem dX10_back_112 : decode mX10_back.2.1 112 = .ok (.aload_n 0, 1) := by decide +kernel
theorem dX10_back_113 : decode mX10_back.2.1 113 = .ok (.aload_n 0, 1) := by decide +kernel
theorem dX10_back_114 : decode mX10_back.2.1 114 = .ok (.getfield 66, 3) := by decide +kernel
theorem dX10_back_117 : decode mX10_back.2.1 117 = .ok (.iload_n 2, 1) := by decide +kernel
theorem dX10_back_118 : decode mX10_back.2.1 118 = .ok (.bipush 67, 2) := by decide +kernel
theorem dX10_back_120 : decode mX10_back.2.1 120 = .ok (.iadd, 1) := by decide +kernel
theorem dX10_back_121 : decode mX10_back.2.1 121 = .ok (.iaload, 1) := by decide +kernel
theorem dX10_back_122 : decode mX10_back.2.1 122 = .ok (.putfield 132, 3) := by decide +kernel
theorem dX10_back_125 : decode mX10_back.2.1 125 = .ok (.aload_n 0, 1) := by decide +kernel
theorem dX10_back_126 : decode mX10_back.2.1 126 = .ok (.aload_n 0, 1) := by decide +kernel
theorem dX10_back_127 : decode mX10_back.2.1 127 = .ok (.getfield 66, 3) := by decide +kernel
theorem dX10_back_130 : decode mX10_back.2.1 130 = .ok (.iload_n 2, 1) := by decide +kernel
theorem dX10_back_131 : decode mX10_back.2.1 131 = .ok (.bipush 68, 2) := by decide +kernel
theorem dX10_back_133 : decode mX10_back.2.1 133 = .ok (.iadd, 1) := by decide +kernel
theorem dX10_back_134 : decode mX10_back.2.1 134 = .ok (.iaload, 1) := by decide +kernel
theorem dX10_back_135 : decode mX10_back.2.1 135 = .ok (.iconst 1, 1) := by decide +kernel
theorem dX10_back_136 : decode mX10_back.2.1 136 = .ok (.if_icmp .ne 7, 3) := by decide +kernel
theorem dX10_back_139 : decode mX10_back.2.1 139 = .ok (.iconst 1, 1) := by decide +kernel
theorem dX10_back_140 : decode mX10_back.2.1 140 = .ok (.goto 4, 3) := by decide +kernel
theorem dX10_back_143 : decode mX10_back.2.1 143 = .ok (.iconst 0, 1) := by decide +kernel
theorem dX10_back_144 : decode mX10_back.2.1 144 = .ok (.putfield 135, 3) := by decide +kernel
theorem dX10_back_147 : decode mX10_back.2.1 147 = .ok (.aload_n 0, 1) := by decide +kernel
theorem dX10_back_148 : decode mX10_back.2.1 148 = .ok (.iconst 3, 1) := by decide +kernel
theorem dX10_back_149 : decode mX10_back.2.1 149 = .ok (.iload_n 1, 1) := by decide +kernel
theorem dX10_back_150 : decode mX10_back.2.1 150 = .ok (.iadd, 1) := by decide +kernel
theorem dX10_back_151 : decode mX10_back.2.1 151 = .ok (.iconst 0, 1) := by decide +kernel
theorem dX10_back_152 : decode mX10_back.2.1 152 = .ok (.invokevirtual 264, 3) := by decide +kernel
theorem dX10_back_155 : decode mX10_back.2.1 155 = .ok (.aload_n 0, 1) := by decide +kernel
theorem dX10_back_156 : decode mX10_back.2.1 156 = .ok (.iconst 5, 1) := by decide +kernel
theorem dX10_back_157 : decode mX10_back.2.1 157 = .ok (.iload_n 1, 1) := by decide +kernel
theorem dX10_back_158 : decode mX10_back.2.1 158 = .ok (.iadd, 1) := by decide +kernel
theorem dX10_back_159 : decode mX10_back.2.1 159 = .ok (.iconst 1, 1) := by decide +kernel
theorem dX10_back_160 : decode mX10_back.2.1 160 = .ok (.invokevirtual 264, 3) := by decide +kernel
theorem dX10_back_163 : decode mX10_back.2.1 163 = .ok (.aload_n 0, 1) := by decide +kernel
theorem dX10_back_164 : decode mX10_back.2.1 164 = .ok (.iconst 0, 1) := by decide +kernel
theorem dX10_back_165 : decode mX10_back.2.1 165 = .ok (.invokevirtual 95, 3) := by decide +kernel
theorem dX10_back_168 : decode mX10_back.2.1 168 = .ok (.ireturn, 1) := by decide +kernel
theorem dX10_differ_0 : decode mX10_differ.2.1 0 = .ok (.iload_n 1, 1) := by decide +kernel
theorem dX10_differ_1 : decode mX10_differ.2.1 1 = .ok (.i2l, 1) := by decide +kernel
theorem dX10_differ_2 : decode mX10_differ.2.1 2 = .ok (.lconst 0, 1) := by decide +kernel
theorem dX10_differ_3 : decode mX10_differ.2.1 3 = .ok (.lconst 1, 1) := by decide +kernel
theorem dX10_differ_4 : decode mX10_differ.2.1 4 = .ok (.invokestatic 181, 3) := by decide +kernel
theorem dX10_differ_7 : decode mX10_differ.2.1 7 = .ok (.ifCond .ne 5, 3) := by decide +kernel
theorem dX10_differ_10 : decode mX10_differ.2.1 10 = .ok (.iconst (-1), 1) := by decide +kernel
theorem dX10_differ_11 : decode mX10_differ.2.1 11 = .ok (.ireturn, 1) := by decide +kernel
theorem dX10_differ_12 : decode mX10_differ.2.1 12 = .ok (.aload_n 0, 1) := by decide +kernel
theorem dX10_differ_13 : decode mX10_differ.2.1 13 = .ok (.getfield 63, 3) := by decide +kernel
theorem dX10_differ_16 : decode mX10_differ.2.1 16 = .ok (.iload_n 1, 1) := by decide +kernel
theorem dX10_differ_17 : decode mX10_differ.2.1 17 = .ok (.baload, 1) := by decide +kernel
theorem dX10_differ_18 : decode mX10_differ.2.1 18 = .ok (.ifCond .eq 14, 3) := by decide +kernel
theorem dX10_differ_21 : decode mX10_differ.2.1 21 = .ok (.aload_n 0, 1) := by decide +kernel
theorem dX10_differ_22 : decode mX10_differ.2.1 22 = .ok (.iconst 0, 1) := by decide +kernel
theorem dX10_differ_23 : decode mX10_differ.2.1 23 = .ok (.iconst 3, 1) := by decide +kernel
theorem dX10_differ_24 : decode mX10_differ.2.1 24 = .ok (.iload_n 1, 1) := by decide +kernel
theorem dX10_differ_25 : decode mX10_differ.2.1 25 = .ok (.iadd, 1) := by decide +kernel
theorem dX10_differ_26 : decode mX10_differ.2.1 26 = .ok (.invokevirtual 345, 3) := by decide +kernel
theorem dX10_differ_29 : decode mX10_differ.2.1 29 = .ok (.goto 5, 3) := by decide +kernel
theorem dX10_differ_32 : decode mX10_differ.2.1 32 = .ok (.bipush (-2), 2) := by decide +kernel
theorem dX10_differ_34 : decode mX10_differ.2.1 34 = .ok (.ireturn, 1) := by decide +kernel
theorem dX10_shelf_0 : decode mX10_shelf.2.1 0 = .ok (.iload_n 1, 1) := by decide +kernel
theorem dX10_shelf_1 : decode mX10_shelf.2.1 1 = .ok (.invokestatic 370, 3) := by decide +kernel
theorem dX10_shelf_4 : decode mX10_shelf.2.1 4 = .ok (.ifCond .eq 21, 3) := by decide +kernel
theorem dX10_shelf_7 : decode mX10_shelf.2.1 7 = .ok (.iload_n 2, 1) := by decide +kernel
theorem dX10_shelf_8 : decode mX10_shelf.2.1 8 = .ok (.i2l, 1) := by decide +kernel
theorem dX10_shelf_9 : decode mX10_shelf.2.1 9 = .ok (.lconst 0, 1) := by decide +kernel
theorem dX10_shelf_10 : decode mX10_shelf.2.1 10 = .ok (.ldc2_w 227, 3) := by decide +kernel
theorem dX10_shelf_13 : decode mX10_shelf.2.1 13 = .ok (.invokestatic 181, 3) := by decide +kernel
theorem dX10_shelf_16 : decode mX10_shelf.2.1 16 = .ok (.ifCond .eq 9, 3) := by decide +kernel
theorem dX10_shelf_19 : decode mX10_shelf.2.1 19 = .ok (.iload_n 3, 1) := by decide +kernel
theorem dX10_shelf_20 : decode mX10_shelf.2.1 20 = .ok (.bipush 8, 2) := by decide +kernel
theorem dX10_shelf_22 : decode mX10_shelf.2.1 22 = .ok (.if_icmp .le 5, 3) := by decide +kernel
theorem dX10_shelf_25 : decode mX10_shelf.2.1 25 = .ok (.iconst (-1), 1) := by decide +kernel
theorem dX10_shelf_26 : decode mX10_shelf.2.1 26 = .ok (.ireturn, 1) := by decide +kernel
theorem dX10_shelf_27 : decode mX10_shelf.2.1 27 = .ok (.iload_n 3, 1) := by decide +kernel
theorem dX10_shelf_28 : decode mX10_shelf.2.1 28 = .ok (.ifCond .ge 6, 3) := by decide +kernel
theorem dX10_shelf_31 : decode mX10_shelf.2.1 31 = .ok (.bipush (-16), 2) := by decide +kernel
theorem dX10_shelf_33 : decode mX10_shelf.2.1 33 = .ok (.ireturn, 1) := by decide +kernel
theorem dX10_shelf_34 : decode mX10_shelf.2.1 34 = .ok (.aload_n 0, 1) := by decide +kernel
theorem dX10_shelf_35 : decode mX10_shelf.2.1 35 = .ok (.getfield 69, 3) := by decide +kernel
theorem dX10_shelf_38 : decode mX10_shelf.2.1 38 = .ok (.iload_n 1, 1) := by decide +kernel
theorem dX10_shelf_39 : decode mX10_shelf.2.1 39 = .ok (.iload_n 2, 1) := by decide +kernel
theorem dX10_shelf_40 : decode mX10_shelf.2.1 40 = .ok (.iastore, 1) := by decide +kernel
theorem dX10_shelf_41 : decode mX10_shelf.2.1 41 = .ok (.aload_n 0, 1) := by decide +kernel
theorem dX10_shelf_42 : decode mX10_shelf.2.1 42 = .ok (.getfield 72, 3) := by decide +kernel
theorem dX10_shelf_45 : decode mX10_shelf.2.1 45 = .ok (.iload_n 1, 1) := by decide +kernel
theorem dX10_shelf_46 : decode mX10_shelf.2.1 46 = .ok (.iload_n 3, 1) := by decide +kernel
theorem dX10_shelf_47 : decode mX10_shelf.2.1 47 = .ok (.iastore, 1) := by decide +kernel
theorem dX10_shelf_48 : decode mX10_shelf.2.1 48 = .ok (.iconst 0, 1) := by decide +kernel
theorem dX10_shelf_49 : decode mX10_shelf.2.1 49 = .ok (.istore 4, 2) := by decide +kernel
theorem dX10_shelf_51 : decode mX10_shelf.2.1 51 = .ok (.iload 4, 2) := by decide +kernel
theorem dX10_shelf_53 : decode mX10_shelf.2.1 53 = .ok (.bipush 8, 2) := by decide +kernel
theorem dX10_shelf_55 : decode mX10_shelf.2.1 55 = .ok (.if_icmp .ge 23, 3) := by decide +kernel
theorem dX10_shelf_58 : decode mX10_shelf.2.1 58 = .ok (.aload_n 0, 1) := by decide +kernel
theorem dX10_shelf_59 : decode mX10_shelf.2.1 59 = .ok (.getfield 75, 3) := by decide +kernel
theorem dX10_shelf_62 : decode mX10_shelf.2.1 62 = .ok (.bipush 8, 2) := by decide +kernel
theorem dX10_shelf_64 : decode mX10_shelf.2.1 64 = .ok (.iload_n 1, 1) := by decide +kernel
theorem dX10_shelf_65 : decode mX10_shelf.2.1 65 = .ok (.imul, 1) := by decide +kernel
theorem dX10_shelf_66 : decode mX10_shelf.2.1 66 = .ok (.iload 4, 2) := by decide +kernel
theorem dX10_shelf_68 : decode mX10_shelf.2.1 68 = .ok (.iadd, 1) := by decide +kernel
theorem dX10_shelf_69 : decode mX10_shelf.2.1 69 = .ok (.bipush (-4), 2) := by decide +kernel
theorem dX10_shelf_71 : decode mX10_shelf.2.1 71 = .ok (.iastore, 1) := by decide +kernel
theorem dX10_shelf_72 : decode mX10_shelf.2.1 72 = .ok (.iinc 4 1, 3) := by decide +kernel
theorem dX10_shelf_75 : decode mX10_shelf.2.1 75 = .ok (.goto (-24), 3) := by decide +kernel
theorem dX10_shelf_78 : decode mX10_shelf.2.1 78 = .ok (.iconst 1, 1) := by decide +kernel
theorem dX10_shelf_79 : decode mX10_shelf.2.1 79 = .ok (.ireturn, 1) := by decide +kernel
theorem dX10_lay_0 : decode mX10_lay.2.1 0 = .ok (.iload_n 1, 1) := by decide +kernel
theorem dX10_lay_1 : decode mX10_lay.2.1 1 = .ok (.invokestatic 370, 3) := by decide +kernel
theorem dX10_lay_4 : decode mX10_lay.2.1 4 = .ok (.ifCond .eq 11, 3) := by decide +kernel
theorem dX10_lay_7 : decode mX10_lay.2.1 7 = .ok (.aload_n 0, 1) := by decide +kernel
theorem dX10_lay_8 : decode mX10_lay.2.1 8 = .ok (.iload_n 3, 1) := by decide +kernel
theorem dX10_lay_9 : decode mX10_lay.2.1 9 = .ok (.invokevirtual 288, 3) := by decide +kernel
theorem dX10_lay_12 : decode mX10_lay.2.1 12 = .ok (.goto 4, 3) := by decide +kernel
theorem dX10_lay_15 : decode mX10_lay.2.1 15 = .ok (.iconst (-1), 1) := by decide +kernel
theorem dX10_lay_16 : decode mX10_lay.2.1 16 = .ok (.istore 4, 2) := by decide +kernel
theorem dX10_lay_18 : decode mX10_lay.2.1 18 = .ok (.iload 4, 2) := by decide +kernel
theorem dX10_lay_20 : decode mX10_lay.2.1 20 = .ok (.ifCond .eq 6, 3) := by decide +kernel
theorem dX10_lay_23 : decode mX10_lay.2.1 23 = .ok (.iload 4, 2) := by decide +kernel
theorem dX10_lay_25 : decode mX10_lay.2.1 25 = .ok (.ireturn, 1) := by decide +kernel
theorem dX10_lay_26 : decode mX10_lay.2.1 26 = .ok (.aload_n 0, 1) := by decide +kernel
theorem dX10_lay_27 : decode mX10_lay.2.1 27 = .ok (.iload_n 1, 1) := by decide +kernel
theorem dX10_lay_28 : decode mX10_lay.2.1 28 = .ok (.iconst 2, 1) := by decide +kernel
theorem dX10_lay_29 : decode mX10_lay.2.1 29 = .ok (.iload_n 2, 1) := by decide +kernel
theorem dX10_lay_30 : decode mX10_lay.2.1 30 = .ok (.invokevirtual 373, 3) := by decide +kernel
theorem dX10_lay_33 : decode mX10_lay.2.1 33 = .ok (.istore 5, 2) := by decide +kernel
theorem dX10_lay_35 : decode mX10_lay.2.1 35 = .ok (.iload_n 3, 1) := by decide +kernel
theorem dX10_lay_36 : decode mX10_lay.2.1 36 = .ok (.ifCond .ne 7, 3) := by decide +kernel
theorem dX10_lay_39 : decode mX10_lay.2.1 39 = .ok (.iconst 0, 1) := by decide +kernel
theorem dX10_lay_40 : decode mX10_lay.2.1 40 = .ok (.goto 4, 3) := by decide +kernel
theorem dX10_lay_43 : decode mX10_lay.2.1 43 = .ok (.iconst 1, 1) := by decide +kernel
theorem dX10_lay_44 : decode mX10_lay.2.1 44 = .ok (.istore 6, 2) := by decide +kernel
theorem dX10_lay_46 : decode mX10_lay.2.1 46 = .ok (.iload 5, 2) := by decide +kernel
theorem dX10_lay_48 : decode mX10_lay.2.1 48 = .ok (.ifCond .ne 28, 3) := by decide +kernel
theorem dX10_lay_51 : decode mX10_lay.2.1 51 = .ok (.aload_n 0, 1) := by decide +kernel
theorem dX10_lay_52 : decode mX10_lay.2.1 52 = .ok (.getfield 69, 3) := by decide +kernel
theorem dX10_lay_55 : decode mX10_lay.2.1 55 = .ok (.iload_n 1, 1) := by decide +kernel
theorem dX10_lay_56 : decode mX10_lay.2.1 56 = .ok (.iaload, 1) := by decide +kernel
theorem dX10_lay_57 : decode mX10_lay.2.1 57 = .ok (.iconst 2, 1) := by decide +kernel
theorem dX10_lay_58 : decode mX10_lay.2.1 58 = .ok (.if_icmp .eq 18, 3) := by decide +kernel
theorem dX10_lay_61 : decode mX10_lay.2.1 61 = .ok (.aload_n 0, 1) := by decide +kernel
theorem dX10_lay_62 : decode mX10_lay.2.1 62 = .ok (.getfield 69, 3) := by decide +kernel
theorem dX10_lay_65 : decode mX10_lay.2.1 65 = .ok (.iload_n 1, 1) := by decide +kernel
theorem dX10_lay_66 : decode mX10_lay.2.1 66 = .ok (.iaload, 1) := by decide +kernel
theorem dX10_lay_67 : decode mX10_lay.2.1 67 = .ok (.iload 6, 2) := by decide +kernel
theorem dX10_lay_69 : decode mX10_lay.2.1 69 = .ok (.if_icmp .eq 7, 3) := by decide +kernel
theorem dX10_lay_72 : decode mX10_lay.2.1 72 = .ok (.iconst 4, 1) := by decide +kernel
theorem dX10_lay_73 : decode mX10_lay.2.1 73 = .ok (.goto 5, 3) := by decide +kernel
theorem dX10_lay_76 : decode mX10_lay.2.1 76 = .ok (.iload 5, 2) := by decide +kernel
theorem dX10_lay_78 : decode mX10_lay.2.1 78 = .ok (.istore 5, 2) := by decide +kernel
theorem dX10_lay_80 : decode mX10_lay.2.1 80 = .ok (.iload 5, 2) := by decide +kernel
theorem dX10_lay_82 : decode mX10_lay.2.1 82 = .ok (.ifCond .le 9, 3) := by decide +kernel
theorem dX10_lay_85 : decode mX10_lay.2.1 85 = .ok (.bipush (-10), 2) := by decide +kernel
theorem dX10_lay_87 : decode mX10_lay.2.1 87 = .ok (.iload 5, 2) := by decide +kernel
theorem dX10_lay_89 : decode mX10_lay.2.1 89 = .ok (.isub, 1) := by decide +kernel
theorem dX10_lay_90 : decode mX10_lay.2.1 90 = .ok (.ireturn, 1) := by decide +kernel
theorem dX10_lay_91 : decode mX10_lay.2.1 91 = .ok (.aload_n 0, 1) := by decide +kernel
theorem dX10_lay_92 : decode mX10_lay.2.1 92 = .ok (.getfield 75, 3) := by decide +kernel
theorem dX10_lay_95 : decode mX10_lay.2.1 95 = .ok (.bipush 8, 2) := by decide +kernel
theorem dX10_lay_97 : decode mX10_lay.2.1 97 = .ok (.iload_n 1, 1) := by decide +kernel
theorem dX10_lay_98 : decode mX10_lay.2.1 98 = .ok (.imul, 1) := by decide +kernel
theorem dX10_lay_99 : decode mX10_lay.2.1 99 = .ok (.iload_n 2, 1) := by decide +kernel
theorem dX10_lay_100 : decode mX10_lay.2.1 100 = .ok (.iadd, 1) := by decide +kernel
theorem dX10_lay_101 : decode mX10_lay.2.1 101 = .ok (.iload 6, 2) := by decide +kernel
theorem dX10_lay_103 : decode mX10_lay.2.1 103 = .ok (.iastore, 1) := by decide +kernel
theorem dX10_lay_104 : decode mX10_lay.2.1 104 = .ok (.aload_n 0, 1) := by decide +kernel
theorem dX10_lay_105 : decode mX10_lay.2.1 105 = .ok (.iload_n 3, 1) := by decide +kernel
theorem dX10_lay_106 : decode mX10_lay.2.1 106 = .ok (.bipush 7, 2) := by decide +kernel
theorem dX10_lay_108 : decode mX10_lay.2.1 108 = .ok (.bipush 8, 2) := by decide +kernel
theorem dX10_lay_110 : decode mX10_lay.2.1 110 = .ok (.iload_n 1, 1) := by decide +kernel
theorem dX10_lay_111 : decode mX10_lay.2.1 111 = .ok (.imul, 1) := by decide +kernel
theorem dX10_lay_112 : decode mX10_lay.2.1 112 = .ok (.iadd, 1) := by decide +kernel
theorem dX10_lay_113 : decode mX10_lay.2.1 113 = .ok (.iload_n 2, 1) := by decide +kernel
theorem dX10_lay_114 : decode mX10_lay.2.1 114 = .ok (.iadd, 1) := by decide +kernel
theorem dX10_lay_115 : decode mX10_lay.2.1 115 = .ok (.invokevirtual 264, 3) := by decide +kernel
theorem dX10_lay_118 : decode mX10_lay.2.1 118 = .ok (.iconst 1, 1) := by decide +kernel
theorem dX10_lay_119 : decode mX10_lay.2.1 119 = .ok (.ireturn, 1) := by decide +kernel
theorem dX10_take_0 : decode mX10_take.2.1 0 = .ok (.iload_n 1, 1) := by decide +kernel
theorem dX10_take_1 : decode mX10_take.2.1 1 = .ok (.invokestatic 370, 3) := by decide +kernel
theorem dX10_take_4 : decode mX10_take.2.1 4 = .ok (.ifCond .eq 15, 3) := by decide +kernel
theorem dX10_take_7 : decode mX10_take.2.1 7 = .ok (.iload_n 2, 1) := by decide +kernel
theorem dX10_take_8 : decode mX10_take.2.1 8 = .ok (.i2l, 1) := by decide +kernel
theorem dX10_take_9 : decode mX10_take.2.1 9 = .ok (.lconst 0, 1) := by decide +kernel
theorem dX10_take_10 : decode mX10_take.2.1 10 = .ok (.ldc2_w 227, 3) := by decide +kernel
theorem dX10_take_13 : decode mX10_take.2.1 13 = .ok (.invokestatic 181, 3) := by decide +kernel
theorem dX10_take_16 : decode mX10_take.2.1 16 = .ok (.ifCond .ne 5, 3) := by decide +kernel
theorem dX10_take_19 : decode mX10_take.2.1 19 = .ok (.iconst (-1), 1) := by decide +kernel
theorem dX10_take_20 : decode mX10_take.2.1 20 = .ok (.ireturn, 1) := by decide +kernel
theorem dX10_take_21 : decode mX10_take.2.1 21 = .ok (.aload_n 0, 1) := by decide +kernel
theorem dX10_take_22 : decode mX10_take.2.1 22 = .ok (.iload_n 1, 1) := by decide +kernel
theorem dX10_take_23 : decode mX10_take.2.1 23 = .ok (.iload_n 2, 1) := by decide +kernel
theorem dX10_take_24 : decode mX10_take.2.1 24 = .ok (.iload_n 3, 1) := by decide +kernel
theorem dX10_take_25 : decode mX10_take.2.1 25 = .ok (.invokevirtual 376, 3) := by decide +kernel
theorem dX10_take_28 : decode mX10_take.2.1 28 = .ok (.istore 4, 2) := by decide +kernel
theorem dX10_take_30 : decode mX10_take.2.1 30 = .ok (.iload 4, 2) := by decide +kernel
theorem dX10_take_32 : decode mX10_take.2.1 32 = .ok (.ifCond .le 9, 3) := by decide +kernel
theorem dX10_take_35 : decode mX10_take.2.1 35 = .ok (.bipush (-10), 2) := by decide +kernel
theorem dX10_take_37 : decode mX10_take.2.1 37 = .ok (.iload 4, 2) := by decide +kernel
theorem dX10_take_39 : decode mX10_take.2.1 39 = .ok (.isub, 1) := by decide +kernel
theorem dX10_take_40 : decode mX10_take.2.1 40 = .ok (.ireturn, 1) := by decide +kernel
theorem dX10_take_41 : decode mX10_take.2.1 41 = .ok (.aload_n 0, 1) := by decide +kernel
theorem dX10_take_42 : decode mX10_take.2.1 42 = .ok (.bipush 7, 2) := by decide +kernel
theorem dX10_take_44 : decode mX10_take.2.1 44 = .ok (.bipush 8, 2) := by decide +kernel
theorem dX10_take_46 : decode mX10_take.2.1 46 = .ok (.iload_n 1, 1) := by decide +kernel
theorem dX10_take_47 : decode mX10_take.2.1 47 = .ok (.imul, 1) := by decide +kernel
theorem dX10_take_48 : decode mX10_take.2.1 48 = .ok (.iadd, 1) := by decide +kernel
theorem dX10_take_49 : decode mX10_take.2.1 49 = .ok (.iload_n 3, 1) := by decide +kernel
theorem dX10_take_50 : decode mX10_take.2.1 50 = .ok (.iadd, 1) := by decide +kernel
theorem dX10_take_51 : decode mX10_take.2.1 51 = .ok (.iconst 0, 1) := by decide +kernel
theorem dX10_take_52 : decode mX10_take.2.1 52 = .ok (.invokevirtual 264, 3) := by decide +kernel
theorem dX10_take_55 : decode mX10_take.2.1 55 = .ok (.aload_n 0, 1) := by decide +kernel
theorem dX10_take_56 : decode mX10_take.2.1 56 = .ok (.invokevirtual 78, 3) := by decide +kernel
theorem dX10_take_59 : decode mX10_take.2.1 59 = .ok (.aload_n 0, 1) := by decide +kernel
theorem dX10_take_60 : decode mX10_take.2.1 60 = .ok (.iconst 0, 1) := by decide +kernel
theorem dX10_take_61 : decode mX10_take.2.1 61 = .ok (.invokevirtual 95, 3) := by decide +kernel
theorem dX10_take_64 : decode mX10_take.2.1 64 = .ok (.ireturn, 1) := by decide +kernel
theorem dX10_kind_0 : decode mX10_kind.2.1 0 = .ok (.iload_n 1, 1) := by decide +kernel
theorem dX10_kind_1 : decode mX10_kind.2.1 1 = .ok (.invokestatic 370, 3) := by decide +kernel
theorem dX10_kind_4 : decode mX10_kind.2.1 4 = .ok (.ifCond .ne 5, 3) := by decide +kernel
theorem dX10_kind_7 : decode mX10_kind.2.1 7 = .ok (.iconst (-1), 1) := by decide +kernel
theorem dX10_kind_8 : decode mX10_kind.2.1 8 = .ok (.ireturn, 1) := by decide +kernel
theorem dX10_kind_9 : decode mX10_kind.2.1 9 = .ok (.aload_n 0, 1) := by decide +kernel
theorem dX10_kind_10 : decode mX10_kind.2.1 10 = .ok (.iload_n 1, 1) := by decide +kernel
theorem dX10_kind_11 : decode mX10_kind.2.1 11 = .ok (.iconst 2, 1) := by decide +kernel
theorem dX10_kind_12 : decode mX10_kind.2.1 12 = .ok (.iload_n 2, 1) := by decide +kernel
theorem dX10_kind_13 : decode mX10_kind.2.1 13 = .ok (.invokevirtual 376, 3) := by decide +kernel
theorem dX10_kind_16 : decode mX10_kind.2.1 16 = .ok (.istore_n 3, 1) := by decide +kernel
theorem dX10_kind_17 : decode mX10_kind.2.1 17 = .ok (.iload_n 3, 1) := by decide +kernel
theorem dX10_kind_18 : decode mX10_kind.2.1 18 = .ok (.ifCond .le 10, 3) := by decide +kernel
theorem dX10_kind_21 : decode mX10_kind.2.1 21 = .ok (.bipush (-10), 2) := by decide +kernel
theorem dX10_kind_23 : decode mX10_kind.2.1 23 = .ok (.iload_n 3, 1) := by decide +kernel
theorem dX10_kind_24 : decode mX10_kind.2.1 24 = .ok (.isub, 1) := by decide +kernel
theorem dX10_kind_25 : decode mX10_kind.2.1 25 = .ok (.goto 14, 3) := by decide +kernel
theorem dX10_kind_28 : decode mX10_kind.2.1 28 = .ok (.aload_n 0, 1) := by decide +kernel
theorem dX10_kind_29 : decode mX10_kind.2.1 29 = .ok (.getfield 75, 3) := by decide +kernel
theorem dX10_kind_32 : decode mX10_kind.2.1 32 = .ok (.bipush 8, 2) := by decide +kernel
theorem dX10_kind_34 : decode mX10_kind.2.1 34 = .ok (.iload_n 1, 1) := by decide +kernel
theorem dX10_kind_35 : decode mX10_kind.2.1 35 = .ok (.imul, 1) := by decide +kernel
theorem dX10_kind_36 : decode mX10_kind.2.1 36 = .ok (.iload_n 2, 1) := by decide +kernel
theorem dX10_kind_37 : decode mX10_kind.2.1 37 = .ok (.iadd, 1) := by decide +kernel
theorem dX10_kind_38 : decode mX10_kind.2.1 38 = .ok (.iaload, 1) := by decide +kernel
theorem dX10_kind_39 : decode mX10_kind.2.1 39 = .ok (.ireturn, 1) := by decide +kernel
