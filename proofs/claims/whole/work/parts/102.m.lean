theorem dX12_stands_0 : decode cX12_stands 0 = .ok (.aload_n 0, 1) := by decide +kernel
theorem dX12_stands_1 : decode cX12_stands 1 = .ok (.iconst 1, 1) := by decide +kernel
theorem dX12_stands_2 : decode cX12_stands 2 = .ok (.putfield 397, 3) := by decide +kernel
theorem dX12_stands_5 : decode cX12_stands 5 = .ok (.iconst 0, 1) := by decide +kernel
theorem dX12_stands_6 : decode cX12_stands 6 = .ok (.istore_n 1, 1) := by decide +kernel
theorem dX12_stands_7 : decode cX12_stands 7 = .ok (.iload_n 1, 1) := by decide +kernel
theorem dX12_stands_8 : decode cX12_stands 8 = .ok (.iconst 3, 1) := by decide +kernel
theorem dX12_stands_9 : decode cX12_stands 9 = .ok (.if_icmp .ge 37, 3) := by decide +kernel
theorem dX12_stands_12 : decode cX12_stands 12 = .ok (.aload_n 0, 1) := by decide +kernel
theorem dX12_stands_13 : decode cX12_stands 13 = .ok (.getfield 108, 3) := by decide +kernel
theorem dX12_stands_16 : decode cX12_stands 16 = .ok (.iconst 3, 1) := by decide +kernel
theorem dX12_stands_17 : decode cX12_stands 17 = .ok (.iload_n 1, 1) := by decide +kernel
theorem dX12_stands_18 : decode cX12_stands 18 = .ok (.iadd, 1) := by decide +kernel
theorem dX12_stands_19 : decode cX12_stands 19 = .ok (.aload_n 0, 1) := by decide +kernel
theorem dX12_stands_20 : decode cX12_stands 20 = .ok (.getfield 108, 3) := by decide +kernel
theorem dX12_stands_23 : decode cX12_stands 23 = .ok (.iload_n 1, 1) := by decide +kernel
theorem dX12_stands_24 : decode cX12_stands 24 = .ok (.iaload, 1) := by decide +kernel
theorem dX12_stands_25 : decode cX12_stands 25 = .ok (.iastore, 1) := by decide +kernel
theorem dX12_stands_26 : decode cX12_stands 26 = .ok (.aload_n 0, 1) := by decide +kernel
theorem dX12_stands_27 : decode cX12_stands 27 = .ok (.getfield 115, 3) := by decide +kernel
theorem dX12_stands_30 : decode cX12_stands 30 = .ok (.iconst 3, 1) := by decide +kernel
theorem dX12_stands_31 : decode cX12_stands 31 = .ok (.iload_n 1, 1) := by decide +kernel
theorem dX12_stands_32 : decode cX12_stands 32 = .ok (.iadd, 1) := by decide +kernel
theorem dX12_stands_33 : decode cX12_stands 33 = .ok (.aload_n 0, 1) := by decide +kernel
theorem dX12_stands_34 : decode cX12_stands 34 = .ok (.getfield 115, 3) := by decide +kernel
theorem dX12_stands_37 : decode cX12_stands 37 = .ok (.iload_n 1, 1) := by decide +kernel
theorem dX12_stands_38 : decode cX12_stands 38 = .ok (.iaload, 1) := by decide +kernel
theorem dX12_stands_39 : decode cX12_stands 39 = .ok (.iastore, 1) := by decide +kernel
theorem dX12_stands_40 : decode cX12_stands 40 = .ok (.iinc 1 1, 3) := by decide +kernel
theorem dX12_stands_43 : decode cX12_stands 43 = .ok (.goto (-36), 3) := by decide +kernel
theorem dX12_stands_46 : decode cX12_stands 46 = .ok (.iconst 0, 1) := by decide +kernel
theorem dX12_stands_47 : decode cX12_stands 47 = .ok (.istore_n 1, 1) := by decide +kernel
theorem dX12_stands_48 : decode cX12_stands 48 = .ok (.iload_n 1, 1) := by decide +kernel
theorem dX12_stands_49 : decode cX12_stands 49 = .ok (.bipush 18, 2) := by decide +kernel
theorem dX12_stands_51 : decode cX12_stands 51 = .ok (.if_icmp .ge 39, 3) := by decide +kernel
theorem dX12_stands_54 : decode cX12_stands 54 = .ok (.aload_n 0, 1) := by decide +kernel
theorem dX12_stands_55 : decode cX12_stands 55 = .ok (.getfield 111, 3) := by decide +kernel
theorem dX12_stands_58 : decode cX12_stands 58 = .ok (.bipush 18, 2) := by decide +kernel
theorem dX12_stands_60 : decode cX12_stands 60 = .ok (.iload_n 1, 1) := by decide +kernel
theorem dX12_stands_61 : decode cX12_stands 61 = .ok (.iadd, 1) := by decide +kernel
theorem dX12_stands_62 : decode cX12_stands 62 = .ok (.aload_n 0, 1) := by decide +kernel
theorem dX12_stands_63 : decode cX12_stands 63 = .ok (.getfield 111, 3) := by decide +kernel
theorem dX12_stands_66 : decode cX12_stands 66 = .ok (.iload_n 1, 1) := by decide +kernel
theorem dX12_stands_67 : decode cX12_stands 67 = .ok (.laload, 1) := by decide +kernel
theorem dX12_stands_68 : decode cX12_stands 68 = .ok (.lastore, 1) := by decide +kernel
theorem dX12_stands_69 : decode cX12_stands 69 = .ok (.aload_n 0, 1) := by decide +kernel
theorem dX12_stands_70 : decode cX12_stands 70 = .ok (.getfield 121, 3) := by decide +kernel
theorem dX12_stands_73 : decode cX12_stands 73 = .ok (.bipush 18, 2) := by decide +kernel
theorem dX12_stands_75 : decode cX12_stands 75 = .ok (.iload_n 1, 1) := by decide +kernel
theorem dX12_stands_76 : decode cX12_stands 76 = .ok (.iadd, 1) := by decide +kernel
theorem dX12_stands_77 : decode cX12_stands 77 = .ok (.aload_n 0, 1) := by decide +kernel
theorem dX12_stands_78 : decode cX12_stands 78 = .ok (.getfield 121, 3) := by decide +kernel
theorem dX12_stands_81 : decode cX12_stands 81 = .ok (.iload_n 1, 1) := by decide +kernel
theorem dX12_stands_82 : decode cX12_stands 82 = .ok (.iaload, 1) := by decide +kernel
theorem dX12_stands_83 : decode cX12_stands 83 = .ok (.iastore, 1) := by decide +kernel
theorem dX12_stands_84 : decode cX12_stands 84 = .ok (.iinc 1 1, 3) := by decide +kernel
theorem dX12_stands_87 : decode cX12_stands 87 = .ok (.goto (-39), 3) := by decide +kernel
theorem dX12_stands_90 : decode cX12_stands 90 = .ok (.iconst 0, 1) := by decide +kernel
theorem dX12_stands_91 : decode cX12_stands 91 = .ok (.istore_n 1, 1) := by decide +kernel
theorem dX12_stands_92 : decode cX12_stands 92 = .ok (.iload_n 1, 1) := by decide +kernel
theorem dX12_stands_93 : decode cX12_stands 93 = .ok (.bipush 12, 2) := by decide +kernel
theorem dX12_stands_95 : decode cX12_stands 95 = .ok (.if_icmp .ge 24, 3) := by decide +kernel
theorem dX12_stands_98 : decode cX12_stands 98 = .ok (.aload_n 0, 1) := by decide +kernel
theorem dX12_stands_99 : decode cX12_stands 99 = .ok (.getfield 118, 3) := by decide +kernel
theorem dX12_stands_102 : decode cX12_stands 102 = .ok (.bipush 12, 2) := by decide +kernel
theorem dX12_stands_104 : decode cX12_stands 104 = .ok (.iload_n 1, 1) := by decide +kernel
theorem dX12_stands_105 : decode cX12_stands 105 = .ok (.iadd, 1) := by decide +kernel
theorem dX12_stands_106 : decode cX12_stands 106 = .ok (.aload_n 0, 1) := by decide +kernel
theorem dX12_stands_107 : decode cX12_stands 107 = .ok (.getfield 118, 3) := by decide +kernel
theorem dX12_stands_110 : decode cX12_stands 110 = .ok (.iload_n 1, 1) := by decide +kernel
theorem dX12_stands_111 : decode cX12_stands 111 = .ok (.iaload, 1) := by decide +kernel
theorem dX12_stands_112 : decode cX12_stands 112 = .ok (.iastore, 1) := by decide +kernel
theorem dX12_stands_113 : decode cX12_stands 113 = .ok (.iinc 1 1, 3) := by decide +kernel
theorem dX12_stands_116 : decode cX12_stands 116 = .ok (.goto (-24), 3) := by decide +kernel
theorem dX12_stands_119 : decode cX12_stands 119 = .ok (.iconst 0, 1) := by decide +kernel
theorem dX12_stands_120 : decode cX12_stands 120 = .ok (.istore_n 1, 1) := by decide +kernel
theorem dX12_stands_121 : decode cX12_stands 121 = .ok (.iload_n 1, 1) := by decide +kernel
theorem dX12_stands_122 : decode cX12_stands 122 = .ok (.bipush 10, 2) := by decide +kernel
theorem dX12_stands_124 : decode cX12_stands 124 = .ok (.if_icmp .ge 24, 3) := by decide +kernel
theorem dX12_stands_127 : decode cX12_stands 127 = .ok (.aload_n 0, 1) := by decide +kernel
theorem dX12_stands_128 : decode cX12_stands 128 = .ok (.getfield 124, 3) := by decide +kernel
theorem dX12_stands_131 : decode cX12_stands 131 = .ok (.bipush 10, 2) := by decide +kernel
theorem dX12_stands_133 : decode cX12_stands 133 = .ok (.iload_n 1, 1) := by decide +kernel
theorem dX12_stands_134 : decode cX12_stands 134 = .ok (.iadd, 1) := by decide +kernel
theorem dX12_stands_135 : decode cX12_stands 135 = .ok (.aload_n 0, 1) := by decide +kernel
theorem dX12_stands_136 : decode cX12_stands 136 = .ok (.getfield 124, 3) := by decide +kernel
theorem dX12_stands_139 : decode cX12_stands 139 = .ok (.iload_n 1, 1) := by decide +kernel
theorem dX12_stands_140 : decode cX12_stands 140 = .ok (.iaload, 1) := by decide +kernel
theorem dX12_stands_141 : decode cX12_stands 141 = .ok (.iastore, 1) := by decide +kernel
theorem dX12_stands_142 : decode cX12_stands 142 = .ok (.iinc 1 1, 3) := by decide +kernel
theorem dX12_stands_145 : decode cX12_stands 145 = .ok (.goto (-24), 3) := by decide +kernel
theorem dX12_stands_148 : decode cX12_stands 148 = .ok (.iconst 0, 1) := by decide +kernel
theorem dX12_stands_149 : decode cX12_stands 149 = .ok (.istore_n 1, 1) := by decide +kernel
theorem dX12_stands_150 : decode cX12_stands 150 = .ok (.iload_n 1, 1) := by decide +kernel
theorem dX12_stands_151 : decode cX12_stands 151 = .ok (.iconst 2, 1) := by decide +kernel
theorem dX12_stands_152 : decode cX12_stands 152 = .ok (.if_icmp .ge 51, 3) := by decide +kernel
theorem dX12_stands_155 : decode cX12_stands 155 = .ok (.aload_n 0, 1) := by decide +kernel
theorem dX12_stands_156 : decode cX12_stands 156 = .ok (.getfield 127, 3) := by decide +kernel
theorem dX12_stands_159 : decode cX12_stands 159 = .ok (.iconst 2, 1) := by decide +kernel
theorem dX12_stands_160 : decode cX12_stands 160 = .ok (.iload_n 1, 1) := by decide +kernel
theorem dX12_stands_161 : decode cX12_stands 161 = .ok (.iadd, 1) := by decide +kernel
theorem dX12_stands_162 : decode cX12_stands 162 = .ok (.aload_n 0, 1) := by decide +kernel
theorem dX12_stands_163 : decode cX12_stands 163 = .ok (.getfield 127, 3) := by decide +kernel
theorem dX12_stands_166 : decode cX12_stands 166 = .ok (.iload_n 1, 1) := by decide +kernel
theorem dX12_stands_167 : decode cX12_stands 167 = .ok (.iaload, 1) := by decide +kernel
theorem dX12_stands_168 : decode cX12_stands 168 = .ok (.iastore, 1) := by decide +kernel
theorem dX12_stands_169 : decode cX12_stands 169 = .ok (.aload_n 0, 1) := by decide +kernel
theorem dX12_stands_170 : decode cX12_stands 170 = .ok (.getfield 130, 3) := by decide +kernel
theorem dX12_stands_173 : decode cX12_stands 173 = .ok (.iconst 2, 1) := by decide +kernel
theorem dX12_stands_174 : decode cX12_stands 174 = .ok (.iload_n 1, 1) := by decide +kernel
theorem dX12_stands_175 : decode cX12_stands 175 = .ok (.iadd, 1) := by decide +kernel
theorem dX12_stands_176 : decode cX12_stands 176 = .ok (.aload_n 0, 1) := by decide +kernel
theorem dX12_stands_177 : decode cX12_stands 177 = .ok (.getfield 130, 3) := by decide +kernel
theorem dX12_stands_180 : decode cX12_stands 180 = .ok (.iload_n 1, 1) := by decide +kernel
theorem dX12_stands_181 : decode cX12_stands 181 = .ok (.iaload, 1) := by decide +kernel
theorem dX12_stands_182 : decode cX12_stands 182 = .ok (.iastore, 1) := by decide +kernel
theorem dX12_stands_183 : decode cX12_stands 183 = .ok (.aload_n 0, 1) := by decide +kernel
theorem dX12_stands_184 : decode cX12_stands 184 = .ok (.getfield 133, 3) := by decide +kernel
theorem dX12_stands_187 : decode cX12_stands 187 = .ok (.iconst 2, 1) := by decide +kernel
theorem dX12_stands_188 : decode cX12_stands 188 = .ok (.iload_n 1, 1) := by decide +kernel
theorem dX12_stands_189 : decode cX12_stands 189 = .ok (.iadd, 1) := by decide +kernel
theorem dX12_stands_190 : decode cX12_stands 190 = .ok (.aload_n 0, 1) := by decide +kernel
theorem dX12_stands_191 : decode cX12_stands 191 = .ok (.getfield 133, 3) := by decide +kernel
theorem dX12_stands_194 : decode cX12_stands 194 = .ok (.iload_n 1, 1) := by decide +kernel
theorem dX12_stands_195 : decode cX12_stands 195 = .ok (.iaload, 1) := by decide +kernel
theorem dX12_stands_196 : decode cX12_stands 196 = .ok (.iastore, 1) := by decide +kernel
theorem dX12_stands_197 : decode cX12_stands 197 = .ok (.iinc 1 1, 3) := by decide +kernel
theorem dX12_stands_200 : decode cX12_stands 200 = .ok (.goto (-50), 3) := by decide +kernel
theorem dX12_stands_203 : decode cX12_stands 203 = .ok (.iconst 0, 1) := by decide +kernel
theorem dX12_stands_204 : decode cX12_stands 204 = .ok (.istore_n 1, 1) := by decide +kernel
theorem dX12_stands_205 : decode cX12_stands 205 = .ok (.iload_n 1, 1) := by decide +kernel
theorem dX12_stands_206 : decode cX12_stands 206 = .ok (.aload_n 0, 1) := by decide +kernel
theorem dX12_stands_207 : decode cX12_stands 207 = .ok (.getfield 367, 3) := by decide +kernel
theorem dX12_stands_210 : decode cX12_stands 210 = .ok (.if_icmp .ge 25, 3) := by decide +kernel
theorem dX12_stands_213 : decode cX12_stands 213 = .ok (.aload_n 0, 1) := by decide +kernel
theorem dX12_stands_214 : decode cX12_stands 214 = .ok (.getfield 136, 3) := by decide +kernel
theorem dX12_stands_217 : decode cX12_stands 217 = .ok (.sipush 1600, 3) := by decide +kernel
theorem dX12_stands_220 : decode cX12_stands 220 = .ok (.iload_n 1, 1) := by decide +kernel
theorem dX12_stands_221 : decode cX12_stands 221 = .ok (.iadd, 1) := by decide +kernel
theorem dX12_stands_222 : decode cX12_stands 222 = .ok (.aload_n 0, 1) := by decide +kernel
theorem dX12_stands_223 : decode cX12_stands 223 = .ok (.getfield 136, 3) := by decide +kernel
theorem dX12_stands_226 : decode cX12_stands 226 = .ok (.iload_n 1, 1) := by decide +kernel
theorem dX12_stands_227 : decode cX12_stands 227 = .ok (.iaload, 1) := by decide +kernel
theorem dX12_stands_228 : decode cX12_stands 228 = .ok (.iastore, 1) := by decide +kernel
theorem dX12_stands_229 : decode cX12_stands 229 = .ok (.iinc 1 1, 3) := by decide +kernel
theorem dX12_stands_232 : decode cX12_stands 232 = .ok (.goto (-27), 3) := by decide +kernel
theorem dX12_stands_235 : decode cX12_stands 235 = .ok (.iconst 0, 1) := by decide +kernel
theorem dX12_stands_236 : decode cX12_stands 236 = .ok (.istore_n 1, 1) := by decide +kernel
theorem dX12_stands_237 : decode cX12_stands 237 = .ok (.iload_n 1, 1) := by decide +kernel
theorem dX12_stands_238 : decode cX12_stands 238 = .ok (.bipush 117, 2) := by decide +kernel
theorem dX12_stands_240 : decode cX12_stands 240 = .ok (.if_icmp .ge 16, 3) := by decide +kernel
theorem dX12_stands_243 : decode cX12_stands 243 = .ok (.aload_n 0, 1) := by decide +kernel
theorem dX12_stands_244 : decode cX12_stands 244 = .ok (.getfield 139, 3) := by decide +kernel
theorem dX12_stands_247 : decode cX12_stands 247 = .ok (.iload_n 1, 1) := by decide +kernel
theorem dX12_stands_248 : decode cX12_stands 248 = .ok (.iconst 0, 1) := by decide +kernel
theorem dX12_stands_249 : decode cX12_stands 249 = .ok (.iastore, 1) := by decide +kernel
theorem dX12_stands_250 : decode cX12_stands 250 = .ok (.iinc 1 1, 3) := by decide +kernel
theorem dX12_stands_253 : decode cX12_stands 253 = .ok (.goto (-16), 3) := by decide +kernel
theorem dX12_stands_256 : decode cX12_stands 256 = .ok (.aload_n 0, 1) := by decide +kernel
theorem dX12_stands_257 : decode cX12_stands 257 = .ok (.getfield 139, 3) := by decide +kernel
theorem dX12_stands_260 : decode cX12_stands 260 = .ok (.iconst 1, 1) := by decide +kernel
theorem dX12_stands_261 : decode cX12_stands 261 = .ok (.aload_n 0, 1) := by decide +kernel
theorem dX12_stands_262 : decode cX12_stands 262 = .ok (.getfield 115, 3) := by decide +kernel
theorem dX12_stands_265 : decode cX12_stands 265 = .ok (.iconst 1, 1) := by decide +kernel
theorem dX12_stands_266 : decode cX12_stands 266 = .ok (.iaload, 1) := by decide +kernel
theorem dX12_stands_267 : decode cX12_stands 267 = .ok (.iastore, 1) := by decide +kernel
theorem dX12_stands_268 : decode cX12_stands 268 = .ok (.aload_n 0, 1) := by decide +kernel
theorem dX12_stands_269 : decode cX12_stands 269 = .ok (.getfield 139, 3) := by decide +kernel
theorem dX12_stands_272 : decode cX12_stands 272 = .ok (.iconst 2, 1) := by decide +kernel
theorem dX12_stands_273 : decode cX12_stands 273 = .ok (.aload_n 0, 1) := by decide +kernel
theorem dX12_stands_274 : decode cX12_stands 274 = .ok (.getfield 127, 3) := by decide +kernel
theorem dX12_stands_277 : decode cX12_stands 277 = .ok (.iconst 0, 1) := by decide +kernel
theorem dX12_stands_278 : decode cX12_stands 278 = .ok (.iaload, 1) := by decide +kernel
theorem dX12_stands_279 : decode cX12_stands 279 = .ok (.iastore, 1) := by decide +kernel
theorem dX12_stands_280 : decode cX12_stands 280 = .ok (.iconst 0, 1) := by decide +kernel
theorem dX12_stands_281 : decode cX12_stands 281 = .ok (.istore_n 1, 1) := by decide +kernel
theorem dX12_stands_282 : decode cX12_stands 282 = .ok (.iload_n 1, 1) := by decide +kernel
theorem dX12_stands_283 : decode cX12_stands 283 = .ok (.aload_n 0, 1) := by decide +kernel
theorem dX12_stands_284 : decode cX12_stands 284 = .ok (.getfield 108, 3) := by decide +kernel
theorem dX12_stands_287 : decode cX12_stands 287 = .ok (.iconst 0, 1) := by decide +kernel
theorem dX12_stands_288 : decode cX12_stands 288 = .ok (.iaload, 1) := by decide +kernel
theorem dX12_stands_289 : decode cX12_stands 289 = .ok (.if_icmp .ge 25, 3) := by decide +kernel
theorem dX12_stands_292 : decode cX12_stands 292 = .ok (.aload_n 0, 1) := by decide +kernel
theorem dX12_stands_293 : decode cX12_stands 293 = .ok (.getfield 139, 3) := by decide +kernel
theorem dX12_stands_296 : decode cX12_stands 296 = .ok (.iconst 3, 1) := by decide +kernel
theorem dX12_stands_297 : decode cX12_stands 297 = .ok (.iload_n 1, 1) := by decide +kernel
theorem dX12_stands_298 : decode cX12_stands 298 = .ok (.iadd, 1) := by decide +kernel
theorem dX12_stands_299 : decode cX12_stands 299 = .ok (.aload_n 0, 1) := by decide +kernel
theorem dX12_stands_300 : decode cX12_stands 300 = .ok (.getfield 118, 3) := by decide +kernel
theorem dX12_stands_303 : decode cX12_stands 303 = .ok (.iconst 2, 1) := by decide +kernel
theorem dX12_stands_304 : decode cX12_stands 304 = .ok (.iload_n 1, 1) := by decide +kernel
theorem dX12_stands_305 : decode cX12_stands 305 = .ok (.imul, 1) := by decide +kernel
theorem dX12_stands_306 : decode cX12_stands 306 = .ok (.iaload, 1) := by decide +kernel
theorem dX12_stands_307 : decode cX12_stands 307 = .ok (.iastore, 1) := by decide +kernel
theorem dX12_stands_308 : decode cX12_stands 308 = .ok (.iinc 1 1, 3) := by decide +kernel
theorem dX12_stands_311 : decode cX12_stands 311 = .ok (.goto (-29), 3) := by decide +kernel
theorem dX12_stands_314 : decode cX12_stands 314 = .ok (.iconst 0, 1) := by decide +kernel
theorem dX12_stands_315 : decode cX12_stands 315 = .ok (.istore_n 1, 1) := by decide +kernel
theorem dX12_stands_316 : decode cX12_stands 316 = .ok (.iload_n 1, 1) := by decide +kernel
theorem dX12_stands_317 : decode cX12_stands 317 = .ok (.aload_n 0, 1) := by decide +kernel
theorem dX12_stands_318 : decode cX12_stands 318 = .ok (.getfield 108, 3) := by decide +kernel
theorem dX12_stands_321 : decode cX12_stands 321 = .ok (.iconst 2, 1) := by decide +kernel
theorem dX12_stands_322 : decode cX12_stands 322 = .ok (.iaload, 1) := by decide +kernel
theorem dX12_stands_323 : decode cX12_stands 323 = .ok (.if_icmp .ge 26, 3) := by decide +kernel
theorem dX12_stands_326 : decode cX12_stands 326 = .ok (.aload_n 0, 1) := by decide +kernel
theorem dX12_stands_327 : decode cX12_stands 327 = .ok (.getfield 139, 3) := by decide +kernel
theorem dX12_stands_330 : decode cX12_stands 330 = .ok (.bipush 21, 2) := by decide +kernel
theorem dX12_stands_332 : decode cX12_stands 332 = .ok (.iload_n 1, 1) := by decide +kernel
theorem dX12_stands_333 : decode cX12_stands 333 = .ok (.iadd, 1) := by decide +kernel
theorem dX12_stands_334 : decode cX12_stands 334 = .ok (.aload_n 0, 1) := by decide +kernel
theorem dX12_stands_335 : decode cX12_stands 335 = .ok (.getfield 124, 3) := by decide +kernel
theorem dX12_stands_338 : decode cX12_stands 338 = .ok (.iconst 2, 1) := by decide +kernel
theorem dX12_stands_339 : decode cX12_stands 339 = .ok (.iload_n 1, 1) := by decide +kernel
theorem dX12_stands_340 : decode cX12_stands 340 = .ok (.imul, 1) := by decide +kernel
theorem dX12_stands_341 : decode cX12_stands 341 = .ok (.iaload, 1) := by decide +kernel
theorem dX12_stands_342 : decode cX12_stands 342 = .ok (.iastore, 1) := by decide +kernel
theorem dX12_stands_343 : decode cX12_stands 343 = .ok (.iinc 1 1, 3) := by decide +kernel
theorem dX12_stands_346 : decode cX12_stands 346 = .ok (.goto (-30), 3) := by decide +kernel
theorem dX12_stands_349 : decode cX12_stands 349 = .ok (.aload_n 0, 1) := by decide +kernel
theorem dX12_stands_350 : decode cX12_stands 350 = .ok (.iconst 0, 1) := by decide +kernel
theorem dX12_stands_351 : decode cX12_stands 351 = .ok (.putfield 401, 3) := by decide +kernel
theorem dX12_stands_354 : decode cX12_stands 354 = .ok (.aload_n 0, 1) := by decide +kernel
theorem dX12_stands_355 : decode cX12_stands 355 = .ok (.iconst 0, 1) := by decide +kernel
theorem dX12_stands_356 : decode cX12_stands 356 = .ok (.putfield 404, 3) := by decide +kernel
theorem dX12_stands_359 : decode cX12_stands 359 = .ok (.return_, 1) := by decide +kernel
def f_X12_stands_316 : Nat → Int32 → Hp → Option Hp
  | 0, _, _ => none
  | k + 1, x1, S => ldI S 41 6 (2 : Int32) (fun v1 => if v1 ≤ x1 then le1 (ho_sI S 0 72 (0 : Int32)) (fun S2 => le1 (ho_sI S2 0 66 (0 : Int32)) (fun S3 => some S3)) else ldI S 46 20 ((2 : Int32) * x1) (fun v4 => stI S 55 117 ((21 : Int32) + x1) v4 (fun S5 => le1 (x1 + (1 : Int32)) (fun v6 => f_X12_stands_316 k v6 S5))))
set_option maxHeartbeats 4000000 in
set_option maxRecDepth 100000 in
theorem w_X12_stands_316 {p : Program} {l : Launch} {e : Env} {s : State} {m : MethodId} {args : Array Value} {below : List Frame} {meth : Method} {c : Code} {E : Ev} {S0 : Hp} {r : Hp} (C : ho_I p s m args meth c RX12 cX12_stands 2 none) :
    ∀ (k : Nat) (x1 : Int32) (S : Hp), f_X12_stands_316 k x1 S = some r → ho_G p l e s m args below meth c yM E S0 0 2 (none, r) 316 [(0, .ref (E.2.1 0)), (1, .int x1)] [] S := by
  intro k
  induction k with
  | zero =>
    intro x1 S h
    exact absurd (show (none : Option Hp) = some r from h) (by simp)
  | succ k ih =>
    intro x1 S h H locs ls hR hl
    rw [f_X12_stands_316] at h
    refine lv_iload_n C.1 C.2.1 dX12_stands_316 rfl (lv_at hl 1 rfl) ?_
    refine lv_aload_n C.1 C.2.1 dX12_stands_317 rfl (lv_at hl 0 rfl) ?_
    refine ho_getR (a' := 41) C cf12 fM_108 hR aM_0 rfl dX12_stands_318 ?_
    refine lv_iconst (v := (2 : Int32)) C.1 C.2.1 dX12_stands_321 (by decide) ?_
    obtain ⟨v1, e1, hi1, h⟩ := ldI_ok h
    refine hr_ild C hR aM_41 hi1 e1 dX12_stands_322 ?_
    refine lv_icmp_ge (tgt := 349) C.1 C.2.1 dX12_stands_323 (by decide) (fun hc => ?_) (fun hc => ?_)
    · replace h := if_t h hc
      refine lv_aload_n C.1 C.2.1 dX12_stands_349 rfl (lv_at hl 0 rfl) ?_
      refine lv_iconst (v := (0 : Int32)) C.1 C.2.1 dX12_stands_350 (by decide) ?_
      obtain ⟨S2, e2, h⟩ := le1_ok h
      refine hr_putI C cf12 fM_401 hR aM_0 e2 dX12_stands_351 (fun H locs hR => ?_)
      refine lv_aload_n C.1 C.2.1 dX12_stands_354 rfl (lv_at hl 0 rfl) ?_
      refine lv_iconst (v := (0 : Int32)) C.1 C.2.1 dX12_stands_355 (by decide) ?_
      obtain ⟨S3, e3, h⟩ := le1_ok h
      refine hr_putI C cf12 fM_404 hR aM_0 e3 dX12_stands_356 (fun H locs hR => ?_)
      exact ho_vret C hR h dX12_stands_359
    · replace h := if_f h hc
      refine lv_aload_n C.1 C.2.1 dX12_stands_326 rfl (lv_at hl 0 rfl) ?_
      refine ho_getR (a' := 55) C cf12 fM_139 hR aM_0 rfl dX12_stands_327 ?_
      refine lv_bipush (v := (21 : Int32)) C.1 C.2.1 dX12_stands_330 (by decide) ?_
      refine lv_iload_n C.1 C.2.1 dX12_stands_332 rfl (lv_at hl 1 rfl) ?_
      refine lv_iadd C.1 C.2.1 dX12_stands_333 ?_
      refine lv_aload_n C.1 C.2.1 dX12_stands_334 rfl (lv_at hl 0 rfl) ?_
      refine ho_getR (a' := 46) C cf12 fM_124 hR aM_0 rfl dX12_stands_335 ?_
      refine lv_iconst (v := (2 : Int32)) C.1 C.2.1 dX12_stands_338 (by decide) ?_
      refine lv_iload_n C.1 C.2.1 dX12_stands_339 rfl (lv_at hl 1 rfl) ?_
      refine lv_imul C.1 C.2.1 dX12_stands_340 ?_
      obtain ⟨v4, e4, hi4, h⟩ := ldI_ok h
      refine hr_ild C hR aM_46 hi4 e4 dX12_stands_341 ?_
      obtain ⟨S5, e5, hi5, h⟩ := stI_ok h
      refine hr_ist C hR aM_55 hi5 e5 dX12_stands_342 (fun H locs hR => ?_)
      obtain ⟨v6, e6, h⟩ := le1_ok h
      refine lv_iinc (v := v6) (lv' := [(1, .int v6), (0, .ref (E.2.1 0))]) C.1 C.2.1 dX12_stands_343 hl (k := 1) rfl (by rw [e6]; rfl) (by decide) rfl (fun ls hl => ?_)
      refine lv_goto (tgt := 316) C.1 C.2.1 dX12_stands_346 (by decide) ?_
      exact ih v6 S5 h _ _ _ hR (lv_sub hl [1, 0] rfl)
def f_X12_stands_282 : Nat → Int32 → Hp → Option Hp
  | 0, _, _ => none
  | k + 1, x1, S => ldI S 41 6 (0 : Int32) (fun v1 => if v1 ≤ x1 then f_X12_stands_316 5000 (0 : Int32) S else ldI S 44 24 ((2 : Int32) * x1) (fun v2 => stI S 55 117 ((3 : Int32) + x1) v2 (fun S3 => le1 (x1 + (1 : Int32)) (fun v4 => f_X12_stands_282 k v4 S3))))
set_option maxHeartbeats 4000000 in
set_option maxRecDepth 100000 in
theorem w_X12_stands_282 {p : Program} {l : Launch} {e : Env} {s : State} {m : MethodId} {args : Array Value} {below : List Frame} {meth : Method} {c : Code} {E : Ev} {S0 : Hp} {r : Hp} (C : ho_I p s m args meth c RX12 cX12_stands 2 none) :
    ∀ (k : Nat) (x1 : Int32) (S : Hp), f_X12_stands_282 k x1 S = some r → ho_G p l e s m args below meth c yM E S0 0 2 (none, r) 282 [(0, .ref (E.2.1 0)), (1, .int x1)] [] S := by
  intro k
  induction k with
  | zero =>
    intro x1 S h
    exact absurd (show (none : Option Hp) = some r from h) (by simp)
  | succ k ih =>
    intro x1 S h H locs ls hR hl
    rw [f_X12_stands_282] at h
    refine lv_iload_n C.1 C.2.1 dX12_stands_282 rfl (lv_at hl 1 rfl) ?_
    refine lv_aload_n C.1 C.2.1 dX12_stands_283 rfl (lv_at hl 0 rfl) ?_
    refine ho_getR (a' := 41) C cf12 fM_108 hR aM_0 rfl dX12_stands_284 ?_
    refine lv_iconst (v := (0 : Int32)) C.1 C.2.1 dX12_stands_287 (by decide) ?_
    obtain ⟨v1, e1, hi1, h⟩ := ldI_ok h
    refine hr_ild C hR aM_41 hi1 e1 dX12_stands_288 ?_
    refine lv_icmp_ge (tgt := 314) C.1 C.2.1 dX12_stands_289 (by decide) (fun hc => ?_) (fun hc => ?_)
    · replace h := if_t h hc
      refine lv_iconst (v := (0 : Int32)) C.1 C.2.1 dX12_stands_314 (by decide) ?_
      refine lv_istore_n (lv' := [(1, .int (0 : Int32)), (0, .ref (E.2.1 0))]) C.1 C.2.1 dX12_stands_315 rfl hl (by decide) rfl (fun ls hl => ?_)
      exact w_X12_stands_316 C 5000 (0 : Int32) S h _ _ _ hR (lv_sub hl [1, 0] rfl)
    · replace h := if_f h hc
      refine lv_aload_n C.1 C.2.1 dX12_stands_292 rfl (lv_at hl 0 rfl) ?_
      refine ho_getR (a' := 55) C cf12 fM_139 hR aM_0 rfl dX12_stands_293 ?_
      refine lv_iconst (v := (3 : Int32)) C.1 C.2.1 dX12_stands_296 (by decide) ?_
      refine lv_iload_n C.1 C.2.1 dX12_stands_297 rfl (lv_at hl 1 rfl) ?_
      refine lv_iadd C.1 C.2.1 dX12_stands_298 ?_
      refine lv_aload_n C.1 C.2.1 dX12_stands_299 rfl (lv_at hl 0 rfl) ?_
      refine ho_getR (a' := 44) C cf12 fM_118 hR aM_0 rfl dX12_stands_300 ?_
      refine lv_iconst (v := (2 : Int32)) C.1 C.2.1 dX12_stands_303 (by decide) ?_
      refine lv_iload_n C.1 C.2.1 dX12_stands_304 rfl (lv_at hl 1 rfl) ?_
      refine lv_imul C.1 C.2.1 dX12_stands_305 ?_
      obtain ⟨v2, e2, hi2, h⟩ := ldI_ok h
      refine hr_ild C hR aM_44 hi2 e2 dX12_stands_306 ?_
      obtain ⟨S3, e3, hi3, h⟩ := stI_ok h
      refine hr_ist C hR aM_55 hi3 e3 dX12_stands_307 (fun H locs hR => ?_)
      obtain ⟨v4, e4, h⟩ := le1_ok h
      refine lv_iinc (v := v4) (lv' := [(1, .int v4), (0, .ref (E.2.1 0))]) C.1 C.2.1 dX12_stands_308 hl (k := 1) rfl (by rw [e4]; rfl) (by decide) rfl (fun ls hl => ?_)
      refine lv_goto (tgt := 282) C.1 C.2.1 dX12_stands_311 (by decide) ?_
      exact ih v4 S3 h _ _ _ hR (lv_sub hl [1, 0] rfl)
def f_X12_stands_237 : Nat → Int32 → Hp → Option Hp
  | 0, _, _ => none
  | k + 1, x1, S => if (117 : Int32) ≤ x1 then ldI S 43 6 (1 : Int32) (fun v1 => stI S 55 117 (1 : Int32) v1 (fun S2 => ldI S2 47 4 (0 : Int32) (fun v3 => stI S2 55 117 (2 : Int32) v3 (fun S4 => f_X12_stands_282 5000 (0 : Int32) S4)))) else stI S 55 117 x1 (0 : Int32) (fun S5 => le1 (x1 + (1 : Int32)) (fun v6 => f_X12_stands_237 k v6 S5))
set_option maxHeartbeats 4000000 in
set_option maxRecDepth 100000 in
theorem w_X12_stands_237 {p : Program} {l : Launch} {e : Env} {s : State} {m : MethodId} {args : Array Value} {below : List Frame} {meth : Method} {c : Code} {E : Ev} {S0 : Hp} {r : Hp} (C : ho_I p s m args meth c RX12 cX12_stands 2 none) :
    ∀ (k : Nat) (x1 : Int32) (S : Hp), f_X12_stands_237 k x1 S = some r → ho_G p l e s m args below meth c yM E S0 0 2 (none, r) 237 [(0, .ref (E.2.1 0)), (1, .int x1)] [] S := by
  intro k
  induction k with
  | zero =>
    intro x1 S h
    exact absurd (show (none : Option Hp) = some r from h) (by simp)
  | succ k ih =>
    intro x1 S h H locs ls hR hl
    rw [f_X12_stands_237] at h
    refine lv_iload_n C.1 C.2.1 dX12_stands_237 rfl (lv_at hl 1 rfl) ?_
    refine lv_bipush (v := (117 : Int32)) C.1 C.2.1 dX12_stands_238 (by decide) ?_
    refine lv_icmp_ge (tgt := 256) C.1 C.2.1 dX12_stands_240 (by decide) (fun hc => ?_) (fun hc => ?_)
    · replace h := if_t h hc
      refine lv_aload_n C.1 C.2.1 dX12_stands_256 rfl (lv_at hl 0 rfl) ?_
      refine ho_getR (a' := 55) C cf12 fM_139 hR aM_0 rfl dX12_stands_257 ?_
      refine lv_iconst (v := (1 : Int32)) C.1 C.2.1 dX12_stands_260 (by decide) ?_
      refine lv_aload_n C.1 C.2.1 dX12_stands_261 rfl (lv_at hl 0 rfl) ?_
      refine ho_getR (a' := 43) C cf12 fM_115 hR aM_0 rfl dX12_stands_262 ?_
      refine lv_iconst (v := (1 : Int32)) C.1 C.2.1 dX12_stands_265 (by decide) ?_
      obtain ⟨v1, e1, hi1, h⟩ := ldI_ok h
      refine hr_ild C hR aM_43 hi1 e1 dX12_stands_266 ?_
      obtain ⟨S2, e2, hi2, h⟩ := stI_ok h
      refine hr_ist C hR aM_55 hi2 e2 dX12_stands_267 (fun H locs hR => ?_)
      refine lv_aload_n C.1 C.2.1 dX12_stands_268 rfl (lv_at hl 0 rfl) ?_
      refine ho_getR (a' := 55) C cf12 fM_139 hR aM_0 rfl dX12_stands_269 ?_
      refine lv_iconst (v := (2 : Int32)) C.1 C.2.1 dX12_stands_272 (by decide) ?_
      refine lv_aload_n C.1 C.2.1 dX12_stands_273 rfl (lv_at hl 0 rfl) ?_
      refine ho_getR (a' := 47) C cf12 fM_127 hR aM_0 rfl dX12_stands_274 ?_
      refine lv_iconst (v := (0 : Int32)) C.1 C.2.1 dX12_stands_277 (by decide) ?_
      obtain ⟨v3, e3, hi3, h⟩ := ldI_ok h
      refine hr_ild C hR aM_47 hi3 e3 dX12_stands_278 ?_
      obtain ⟨S4, e4, hi4, h⟩ := stI_ok h
      refine hr_ist C hR aM_55 hi4 e4 dX12_stands_279 (fun H locs hR => ?_)
      refine lv_iconst (v := (0 : Int32)) C.1 C.2.1 dX12_stands_280 (by decide) ?_
      refine lv_istore_n (lv' := [(1, .int (0 : Int32)), (0, .ref (E.2.1 0))]) C.1 C.2.1 dX12_stands_281 rfl hl (by decide) rfl (fun ls hl => ?_)
      exact w_X12_stands_282 C 5000 (0 : Int32) S4 h _ _ _ hR (lv_sub hl [1, 0] rfl)
    · replace h := if_f h hc
      refine lv_aload_n C.1 C.2.1 dX12_stands_243 rfl (lv_at hl 0 rfl) ?_
      refine ho_getR (a' := 55) C cf12 fM_139 hR aM_0 rfl dX12_stands_244 ?_
      refine lv_iload_n C.1 C.2.1 dX12_stands_247 rfl (lv_at hl 1 rfl) ?_
      refine lv_iconst (v := (0 : Int32)) C.1 C.2.1 dX12_stands_248 (by decide) ?_
      obtain ⟨S5, e5, hi5, h⟩ := stI_ok h
      refine hr_ist C hR aM_55 hi5 e5 dX12_stands_249 (fun H locs hR => ?_)
      obtain ⟨v6, e6, h⟩ := le1_ok h
      refine lv_iinc (v := v6) (lv' := [(1, .int v6), (0, .ref (E.2.1 0))]) C.1 C.2.1 dX12_stands_250 hl (k := 1) rfl (by rw [e6]; rfl) (by decide) rfl (fun ls hl => ?_)
      refine lv_goto (tgt := 237) C.1 C.2.1 dX12_stands_253 (by decide) ?_
      exact ih v6 S5 h _ _ _ hR (lv_sub hl [1, 0] rfl)
def f_X12_stands_205 : Nat → Int32 → Hp → Option Hp
  | 0, _, _ => none
  | k + 1, x1, S => if (S.1 0 50) ≤ x1 then f_X12_stands_237 5000 (0 : Int32) S else ldI S 50 3200 x1 (fun v1 => stI S 50 3200 ((1600 : Int32) + x1) v1 (fun S2 => le1 (x1 + (1 : Int32)) (fun v3 => f_X12_stands_205 k v3 S2)))
set_option maxHeartbeats 4000000 in
set_option maxRecDepth 100000 in
theorem w_X12_stands_205 {p : Program} {l : Launch} {e : Env} {s : State} {m : MethodId} {args : Array Value} {below : List Frame} {meth : Method} {c : Code} {E : Ev} {S0 : Hp} {r : Hp} (C : ho_I p s m args meth c RX12 cX12_stands 2 none) :
    ∀ (k : Nat) (x1 : Int32) (S : Hp), f_X12_stands_205 k x1 S = some r → ho_G p l e s m args below meth c yM E S0 0 2 (none, r) 205 [(0, .ref (E.2.1 0)), (1, .int x1)] [] S := by
  intro k
  induction k with
  | zero =>
    intro x1 S h
    exact absurd (show (none : Option Hp) = some r from h) (by simp)
  | succ k ih =>
    intro x1 S h H locs ls hR hl
    rw [f_X12_stands_205] at h
    refine lv_iload_n C.1 C.2.1 dX12_stands_205 rfl (lv_at hl 1 rfl) ?_
    refine lv_aload_n C.1 C.2.1 dX12_stands_206 rfl (lv_at hl 0 rfl) ?_
    refine ho_getI C cf12 fM_367 hR aM_0 dX12_stands_207 ?_
    refine lv_icmp_ge (tgt := 235) C.1 C.2.1 dX12_stands_210 (by decide) (fun hc => ?_) (fun hc => ?_)
    · replace h := if_t h hc
      refine lv_iconst (v := (0 : Int32)) C.1 C.2.1 dX12_stands_235 (by decide) ?_
      refine lv_istore_n (lv' := [(1, .int (0 : Int32)), (0, .ref (E.2.1 0))]) C.1 C.2.1 dX12_stands_236 rfl hl (by decide) rfl (fun ls hl => ?_)
      exact w_X12_stands_237 C 5000 (0 : Int32) S h _ _ _ hR (lv_sub hl [1, 0] rfl)
    · replace h := if_f h hc
      refine lv_aload_n C.1 C.2.1 dX12_stands_213 rfl (lv_at hl 0 rfl) ?_
      refine ho_getR (a' := 50) C cf12 fM_136 hR aM_0 rfl dX12_stands_214 ?_
      refine lv_sipush (v := (1600 : Int32)) C.1 C.2.1 dX12_stands_217 (by decide) ?_
      refine lv_iload_n C.1 C.2.1 dX12_stands_220 rfl (lv_at hl 1 rfl) ?_
      refine lv_iadd C.1 C.2.1 dX12_stands_221 ?_
      refine lv_aload_n C.1 C.2.1 dX12_stands_222 rfl (lv_at hl 0 rfl) ?_
      refine ho_getR (a' := 50) C cf12 fM_136 hR aM_0 rfl dX12_stands_223 ?_
      refine lv_iload_n C.1 C.2.1 dX12_stands_226 rfl (lv_at hl 1 rfl) ?_
      obtain ⟨v1, e1, hi1, h⟩ := ldI_ok h
      refine hr_ild C hR aM_50 hi1 e1 dX12_stands_227 ?_
      obtain ⟨S2, e2, hi2, h⟩ := stI_ok h
      refine hr_ist C hR aM_50 hi2 e2 dX12_stands_228 (fun H locs hR => ?_)
      obtain ⟨v3, e3, h⟩ := le1_ok h
      refine lv_iinc (v := v3) (lv' := [(1, .int v3), (0, .ref (E.2.1 0))]) C.1 C.2.1 dX12_stands_229 hl (k := 1) rfl (by rw [e3]; rfl) (by decide) rfl (fun ls hl => ?_)
      refine lv_goto (tgt := 205) C.1 C.2.1 dX12_stands_232 (by decide) ?_
      exact ih v3 S2 h _ _ _ hR (lv_sub hl [1, 0] rfl)
def f_X12_stands_150 : Nat → Int32 → Hp → Option Hp
  | 0, _, _ => none
  | k + 1, x1, S => if (2 : Int32) ≤ x1 then f_X12_stands_205 5000 (0 : Int32) S else ldI S 47 4 x1 (fun v1 => stI S 47 4 ((2 : Int32) + x1) v1 (fun S2 => ldI S2 48 4 x1 (fun v3 => stI S2 48 4 ((2 : Int32) + x1) v3 (fun S4 => ldI S4 49 4 x1 (fun v5 => stI S4 49 4 ((2 : Int32) + x1) v5 (fun S6 => le1 (x1 + (1 : Int32)) (fun v7 => f_X12_stands_150 k v7 S6)))))))
set_option maxHeartbeats 4000000 in
set_option maxRecDepth 100000 in
theorem w_X12_stands_150 {p : Program} {l : Launch} {e : Env} {s : State} {m : MethodId} {args : Array Value} {below : List Frame} {meth : Method} {c : Code} {E : Ev} {S0 : Hp} {r : Hp} (C : ho_I p s m args meth c RX12 cX12_stands 2 none) :
    ∀ (k : Nat) (x1 : Int32) (S : Hp), f_X12_stands_150 k x1 S = some r → ho_G p l e s m args below meth c yM E S0 0 2 (none, r) 150 [(0, .ref (E.2.1 0)), (1, .int x1)] [] S := by
  intro k
  induction k with
  | zero =>
    intro x1 S h
    exact absurd (show (none : Option Hp) = some r from h) (by simp)
  | succ k ih =>
    intro x1 S h H locs ls hR hl
    rw [f_X12_stands_150] at h
    refine lv_iload_n C.1 C.2.1 dX12_stands_150 rfl (lv_at hl 1 rfl) ?_
    refine lv_iconst (v := (2 : Int32)) C.1 C.2.1 dX12_stands_151 (by decide) ?_
    refine lv_icmp_ge (tgt := 203) C.1 C.2.1 dX12_stands_152 (by decide) (fun hc => ?_) (fun hc => ?_)
    · replace h := if_t h hc
      refine lv_iconst (v := (0 : Int32)) C.1 C.2.1 dX12_stands_203 (by decide) ?_
      refine lv_istore_n (lv' := [(1, .int (0 : Int32)), (0, .ref (E.2.1 0))]) C.1 C.2.1 dX12_stands_204 rfl hl (by decide) rfl (fun ls hl => ?_)
      exact w_X12_stands_205 C 5000 (0 : Int32) S h _ _ _ hR (lv_sub hl [1, 0] rfl)
    · replace h := if_f h hc
      refine lv_aload_n C.1 C.2.1 dX12_stands_155 rfl (lv_at hl 0 rfl) ?_
      refine ho_getR (a' := 47) C cf12 fM_127 hR aM_0 rfl dX12_stands_156 ?_
      refine lv_iconst (v := (2 : Int32)) C.1 C.2.1 dX12_stands_159 (by decide) ?_
      refine lv_iload_n C.1 C.2.1 dX12_stands_160 rfl (lv_at hl 1 rfl) ?_
      refine lv_iadd C.1 C.2.1 dX12_stands_161 ?_
      refine lv_aload_n C.1 C.2.1 dX12_stands_162 rfl (lv_at hl 0 rfl) ?_
      refine ho_getR (a' := 47) C cf12 fM_127 hR aM_0 rfl dX12_stands_163 ?_
      refine lv_iload_n C.1 C.2.1 dX12_stands_166 rfl (lv_at hl 1 rfl) ?_
      obtain ⟨v1, e1, hi1, h⟩ := ldI_ok h
      refine hr_ild C hR aM_47 hi1 e1 dX12_stands_167 ?_
      obtain ⟨S2, e2, hi2, h⟩ := stI_ok h
      refine hr_ist C hR aM_47 hi2 e2 dX12_stands_168 (fun H locs hR => ?_)
      refine lv_aload_n C.1 C.2.1 dX12_stands_169 rfl (lv_at hl 0 rfl) ?_
      refine ho_getR (a' := 48) C cf12 fM_130 hR aM_0 rfl dX12_stands_170 ?_
      refine lv_iconst (v := (2 : Int32)) C.1 C.2.1 dX12_stands_173 (by decide) ?_
      refine lv_iload_n C.1 C.2.1 dX12_stands_174 rfl (lv_at hl 1 rfl) ?_
      refine lv_iadd C.1 C.2.1 dX12_stands_175 ?_
      refine lv_aload_n C.1 C.2.1 dX12_stands_176 rfl (lv_at hl 0 rfl) ?_
      refine ho_getR (a' := 48) C cf12 fM_130 hR aM_0 rfl dX12_stands_177 ?_
      refine lv_iload_n C.1 C.2.1 dX12_stands_180 rfl (lv_at hl 1 rfl) ?_
      obtain ⟨v3, e3, hi3, h⟩ := ldI_ok h
      refine hr_ild C hR aM_48 hi3 e3 dX12_stands_181 ?_
      obtain ⟨S4, e4, hi4, h⟩ := stI_ok h
      refine hr_ist C hR aM_48 hi4 e4 dX12_stands_182 (fun H locs hR => ?_)
      refine lv_aload_n C.1 C.2.1 dX12_stands_183 rfl (lv_at hl 0 rfl) ?_
      refine ho_getR (a' := 49) C cf12 fM_133 hR aM_0 rfl dX12_stands_184 ?_
      refine lv_iconst (v := (2 : Int32)) C.1 C.2.1 dX12_stands_187 (by decide) ?_
      refine lv_iload_n C.1 C.2.1 dX12_stands_188 rfl (lv_at hl 1 rfl) ?_
      refine lv_iadd C.1 C.2.1 dX12_stands_189 ?_
      refine lv_aload_n C.1 C.2.1 dX12_stands_190 rfl (lv_at hl 0 rfl) ?_
      refine ho_getR (a' := 49) C cf12 fM_133 hR aM_0 rfl dX12_stands_191 ?_
      refine lv_iload_n C.1 C.2.1 dX12_stands_194 rfl (lv_at hl 1 rfl) ?_
      obtain ⟨v5, e5, hi5, h⟩ := ldI_ok h
      refine hr_ild C hR aM_49 hi5 e5 dX12_stands_195 ?_
      obtain ⟨S6, e6, hi6, h⟩ := stI_ok h
      refine hr_ist C hR aM_49 hi6 e6 dX12_stands_196 (fun H locs hR => ?_)
      obtain ⟨v7, e7, h⟩ := le1_ok h
      refine lv_iinc (v := v7) (lv' := [(1, .int v7), (0, .ref (E.2.1 0))]) C.1 C.2.1 dX12_stands_197 hl (k := 1) rfl (by rw [e7]; rfl) (by decide) rfl (fun ls hl => ?_)
      refine lv_goto (tgt := 150) C.1 C.2.1 dX12_stands_200 (by decide) ?_
      exact ih v7 S6 h _ _ _ hR (lv_sub hl [1, 0] rfl)
def f_X12_stands_121 : Nat → Int32 → Hp → Option Hp
  | 0, _, _ => none
  | k + 1, x1, S => if (10 : Int32) ≤ x1 then f_X12_stands_150 5000 (0 : Int32) S else ldI S 46 20 x1 (fun v1 => stI S 46 20 ((10 : Int32) + x1) v1 (fun S2 => le1 (x1 + (1 : Int32)) (fun v3 => f_X12_stands_121 k v3 S2)))
set_option maxHeartbeats 4000000 in
set_option maxRecDepth 100000 in
theorem w_X12_stands_121 {p : Program} {l : Launch} {e : Env} {s : State} {m : MethodId} {args : Array Value} {below : List Frame} {meth : Method} {c : Code} {E : Ev} {S0 : Hp} {r : Hp} (C : ho_I p s m args meth c RX12 cX12_stands 2 none) :
    ∀ (k : Nat) (x1 : Int32) (S : Hp), f_X12_stands_121 k x1 S = some r → ho_G p l e s m args below meth c yM E S0 0 2 (none, r) 121 [(0, .ref (E.2.1 0)), (1, .int x1)] [] S := by
  intro k
  induction k with
  | zero =>
    intro x1 S h
    exact absurd (show (none : Option Hp) = some r from h) (by simp)
  | succ k ih =>
    intro x1 S h H locs ls hR hl
    rw [f_X12_stands_121] at h
    refine lv_iload_n C.1 C.2.1 dX12_stands_121 rfl (lv_at hl 1 rfl) ?_
    refine lv_bipush (v := (10 : Int32)) C.1 C.2.1 dX12_stands_122 (by decide) ?_
    refine lv_icmp_ge (tgt := 148) C.1 C.2.1 dX12_stands_124 (by decide) (fun hc => ?_) (fun hc => ?_)
    · replace h := if_t h hc
      refine lv_iconst (v := (0 : Int32)) C.1 C.2.1 dX12_stands_148 (by decide) ?_
      refine lv_istore_n (lv' := [(1, .int (0 : Int32)), (0, .ref (E.2.1 0))]) C.1 C.2.1 dX12_stands_149 rfl hl (by decide) rfl (fun ls hl => ?_)
      exact w_X12_stands_150 C 5000 (0 : Int32) S h _ _ _ hR (lv_sub hl [1, 0] rfl)
    · replace h := if_f h hc
      refine lv_aload_n C.1 C.2.1 dX12_stands_127 rfl (lv_at hl 0 rfl) ?_
      refine ho_getR (a' := 46) C cf12 fM_124 hR aM_0 rfl dX12_stands_128 ?_
      refine lv_bipush (v := (10 : Int32)) C.1 C.2.1 dX12_stands_131 (by decide) ?_
      refine lv_iload_n C.1 C.2.1 dX12_stands_133 rfl (lv_at hl 1 rfl) ?_
      refine lv_iadd C.1 C.2.1 dX12_stands_134 ?_
      refine lv_aload_n C.1 C.2.1 dX12_stands_135 rfl (lv_at hl 0 rfl) ?_
      refine ho_getR (a' := 46) C cf12 fM_124 hR aM_0 rfl dX12_stands_136 ?_
      refine lv_iload_n C.1 C.2.1 dX12_stands_139 rfl (lv_at hl 1 rfl) ?_
      obtain ⟨v1, e1, hi1, h⟩ := ldI_ok h
      refine hr_ild C hR aM_46 hi1 e1 dX12_stands_140 ?_
      obtain ⟨S2, e2, hi2, h⟩ := stI_ok h
      refine hr_ist C hR aM_46 hi2 e2 dX12_stands_141 (fun H locs hR => ?_)
      obtain ⟨v3, e3, h⟩ := le1_ok h
      refine lv_iinc (v := v3) (lv' := [(1, .int v3), (0, .ref (E.2.1 0))]) C.1 C.2.1 dX12_stands_142 hl (k := 1) rfl (by rw [e3]; rfl) (by decide) rfl (fun ls hl => ?_)
      refine lv_goto (tgt := 121) C.1 C.2.1 dX12_stands_145 (by decide) ?_
      exact ih v3 S2 h _ _ _ hR (lv_sub hl [1, 0] rfl)
def f_X12_stands_92 : Nat → Int32 → Hp → Option Hp
  | 0, _, _ => none
  | k + 1, x1, S => if (12 : Int32) ≤ x1 then f_X12_stands_121 5000 (0 : Int32) S else ldI S 44 24 x1 (fun v1 => stI S 44 24 ((12 : Int32) + x1) v1 (fun S2 => le1 (x1 + (1 : Int32)) (fun v3 => f_X12_stands_92 k v3 S2)))
set_option maxHeartbeats 4000000 in
set_option maxRecDepth 100000 in
theorem w_X12_stands_92 {p : Program} {l : Launch} {e : Env} {s : State} {m : MethodId} {args : Array Value} {below : List Frame} {meth : Method} {c : Code} {E : Ev} {S0 : Hp} {r : Hp} (C : ho_I p s m args meth c RX12 cX12_stands 2 none) :
    ∀ (k : Nat) (x1 : Int32) (S : Hp), f_X12_stands_92 k x1 S = some r → ho_G p l e s m args below meth c yM E S0 0 2 (none, r) 92 [(0, .ref (E.2.1 0)), (1, .int x1)] [] S := by
  intro k
  induction k with
  | zero =>
    intro x1 S h
    exact absurd (show (none : Option Hp) = some r from h) (by simp)
  | succ k ih =>
    intro x1 S h H locs ls hR hl
    rw [f_X12_stands_92] at h
    refine lv_iload_n C.1 C.2.1 dX12_stands_92 rfl (lv_at hl 1 rfl) ?_
    refine lv_bipush (v := (12 : Int32)) C.1 C.2.1 dX12_stands_93 (by decide) ?_
    refine lv_icmp_ge (tgt := 119) C.1 C.2.1 dX12_stands_95 (by decide) (fun hc => ?_) (fun hc => ?_)
    · replace h := if_t h hc
      refine lv_iconst (v := (0 : Int32)) C.1 C.2.1 dX12_stands_119 (by decide) ?_
      refine lv_istore_n (lv' := [(1, .int (0 : Int32)), (0, .ref (E.2.1 0))]) C.1 C.2.1 dX12_stands_120 rfl hl (by decide) rfl (fun ls hl => ?_)
      exact w_X12_stands_121 C 5000 (0 : Int32) S h _ _ _ hR (lv_sub hl [1, 0] rfl)
    · replace h := if_f h hc
      refine lv_aload_n C.1 C.2.1 dX12_stands_98 rfl (lv_at hl 0 rfl) ?_
      refine ho_getR (a' := 44) C cf12 fM_118 hR aM_0 rfl dX12_stands_99 ?_
      refine lv_bipush (v := (12 : Int32)) C.1 C.2.1 dX12_stands_102 (by decide) ?_
      refine lv_iload_n C.1 C.2.1 dX12_stands_104 rfl (lv_at hl 1 rfl) ?_
      refine lv_iadd C.1 C.2.1 dX12_stands_105 ?_
      refine lv_aload_n C.1 C.2.1 dX12_stands_106 rfl (lv_at hl 0 rfl) ?_
      refine ho_getR (a' := 44) C cf12 fM_118 hR aM_0 rfl dX12_stands_107 ?_
      refine lv_iload_n C.1 C.2.1 dX12_stands_110 rfl (lv_at hl 1 rfl) ?_
      obtain ⟨v1, e1, hi1, h⟩ := ldI_ok h
      refine hr_ild C hR aM_44 hi1 e1 dX12_stands_111 ?_
      obtain ⟨S2, e2, hi2, h⟩ := stI_ok h
      refine hr_ist C hR aM_44 hi2 e2 dX12_stands_112 (fun H locs hR => ?_)
      obtain ⟨v3, e3, h⟩ := le1_ok h
      refine lv_iinc (v := v3) (lv' := [(1, .int v3), (0, .ref (E.2.1 0))]) C.1 C.2.1 dX12_stands_113 hl (k := 1) rfl (by rw [e3]; rfl) (by decide) rfl (fun ls hl => ?_)
      refine lv_goto (tgt := 92) C.1 C.2.1 dX12_stands_116 (by decide) ?_
      exact ih v3 S2 h _ _ _ hR (lv_sub hl [1, 0] rfl)
def f_X12_stands_48 : Nat → Int32 → Hp → Option Hp
  | 0, _, _ => none
  | k + 1, x1, S => if (18 : Int32) ≤ x1 then f_X12_stands_92 5000 (0 : Int32) S else ldJ S 42 36 x1 (fun v1 => stJ S 42 36 ((18 : Int32) + x1) v1 (fun S2 => ldI S2 45 36 x1 (fun v3 => stI S2 45 36 ((18 : Int32) + x1) v3 (fun S4 => le1 (x1 + (1 : Int32)) (fun v5 => f_X12_stands_48 k v5 S4)))))
set_option maxHeartbeats 4000000 in
set_option maxRecDepth 100000 in
theorem w_X12_stands_48 {p : Program} {l : Launch} {e : Env} {s : State} {m : MethodId} {args : Array Value} {below : List Frame} {meth : Method} {c : Code} {E : Ev} {S0 : Hp} {r : Hp} (C : ho_I p s m args meth c RX12 cX12_stands 2 none) :
    ∀ (k : Nat) (x1 : Int32) (S : Hp), f_X12_stands_48 k x1 S = some r → ho_G p l e s m args below meth c yM E S0 0 2 (none, r) 48 [(0, .ref (E.2.1 0)), (1, .int x1)] [] S := by
  intro k
  induction k with
  | zero =>
    intro x1 S h
    exact absurd (show (none : Option Hp) = some r from h) (by simp)
  | succ k ih =>
    intro x1 S h H locs ls hR hl
    rw [f_X12_stands_48] at h
    refine lv_iload_n C.1 C.2.1 dX12_stands_48 rfl (lv_at hl 1 rfl) ?_
    refine lv_bipush (v := (18 : Int32)) C.1 C.2.1 dX12_stands_49 (by decide) ?_
    refine lv_icmp_ge (tgt := 90) C.1 C.2.1 dX12_stands_51 (by decide) (fun hc => ?_) (fun hc => ?_)
    · replace h := if_t h hc
      refine lv_iconst (v := (0 : Int32)) C.1 C.2.1 dX12_stands_90 (by decide) ?_
      refine lv_istore_n (lv' := [(1, .int (0 : Int32)), (0, .ref (E.2.1 0))]) C.1 C.2.1 dX12_stands_91 rfl hl (by decide) rfl (fun ls hl => ?_)
      exact w_X12_stands_92 C 5000 (0 : Int32) S h _ _ _ hR (lv_sub hl [1, 0] rfl)
    · replace h := if_f h hc
      refine lv_aload_n C.1 C.2.1 dX12_stands_54 rfl (lv_at hl 0 rfl) ?_
      refine ho_getR (a' := 42) C cf12 fM_111 hR aM_0 rfl dX12_stands_55 ?_
      refine lv_bipush (v := (18 : Int32)) C.1 C.2.1 dX12_stands_58 (by decide) ?_
      refine lv_iload_n C.1 C.2.1 dX12_stands_60 rfl (lv_at hl 1 rfl) ?_
      refine lv_iadd C.1 C.2.1 dX12_stands_61 ?_
      refine lv_aload_n C.1 C.2.1 dX12_stands_62 rfl (lv_at hl 0 rfl) ?_
      refine ho_getR (a' := 42) C cf12 fM_111 hR aM_0 rfl dX12_stands_63 ?_
      refine lv_iload_n C.1 C.2.1 dX12_stands_66 rfl (lv_at hl 1 rfl) ?_
      obtain ⟨v1, e1, hi1, h⟩ := ldJ_ok h
      refine hr_lld C hR aM_42 hi1 e1 dX12_stands_67 ?_
      obtain ⟨S2, e2, hi2, h⟩ := stJ_ok h
      refine hr_lst C hR aM_42 hi2 e2 dX12_stands_68 (fun H locs hR => ?_)
      refine lv_aload_n C.1 C.2.1 dX12_stands_69 rfl (lv_at hl 0 rfl) ?_
      refine ho_getR (a' := 45) C cf12 fM_121 hR aM_0 rfl dX12_stands_70 ?_
      refine lv_bipush (v := (18 : Int32)) C.1 C.2.1 dX12_stands_73 (by decide) ?_
      refine lv_iload_n C.1 C.2.1 dX12_stands_75 rfl (lv_at hl 1 rfl) ?_
      refine lv_iadd C.1 C.2.1 dX12_stands_76 ?_
      refine lv_aload_n C.1 C.2.1 dX12_stands_77 rfl (lv_at hl 0 rfl) ?_
      refine ho_getR (a' := 45) C cf12 fM_121 hR aM_0 rfl dX12_stands_78 ?_
      refine lv_iload_n C.1 C.2.1 dX12_stands_81 rfl (lv_at hl 1 rfl) ?_
      obtain ⟨v3, e3, hi3, h⟩ := ldI_ok h
      refine hr_ild C hR aM_45 hi3 e3 dX12_stands_82 ?_
      obtain ⟨S4, e4, hi4, h⟩ := stI_ok h
      refine hr_ist C hR aM_45 hi4 e4 dX12_stands_83 (fun H locs hR => ?_)
      obtain ⟨v5, e5, h⟩ := le1_ok h
      refine lv_iinc (v := v5) (lv' := [(1, .int v5), (0, .ref (E.2.1 0))]) C.1 C.2.1 dX12_stands_84 hl (k := 1) rfl (by rw [e5]; rfl) (by decide) rfl (fun ls hl => ?_)
      refine lv_goto (tgt := 48) C.1 C.2.1 dX12_stands_87 (by decide) ?_
      exact ih v5 S4 h _ _ _ hR (lv_sub hl [1, 0] rfl)
def f_X12_stands_7 : Nat → Int32 → Hp → Option Hp
  | 0, _, _ => none
  | k + 1, x1, S => if (3 : Int32) ≤ x1 then f_X12_stands_48 5000 (0 : Int32) S else ldI S 41 6 x1 (fun v1 => stI S 41 6 ((3 : Int32) + x1) v1 (fun S2 => ldI S2 43 6 x1 (fun v3 => stI S2 43 6 ((3 : Int32) + x1) v3 (fun S4 => le1 (x1 + (1 : Int32)) (fun v5 => f_X12_stands_7 k v5 S4)))))
set_option maxHeartbeats 4000000 in
set_option maxRecDepth 100000 in
theorem w_X12_stands_7 {p : Program} {l : Launch} {e : Env} {s : State} {m : MethodId} {args : Array Value} {below : List Frame} {meth : Method} {c : Code} {E : Ev} {S0 : Hp} {r : Hp} (C : ho_I p s m args meth c RX12 cX12_stands 2 none) :
    ∀ (k : Nat) (x1 : Int32) (S : Hp), f_X12_stands_7 k x1 S = some r → ho_G p l e s m args below meth c yM E S0 0 2 (none, r) 7 [(0, .ref (E.2.1 0)), (1, .int x1)] [] S := by
  intro k
  induction k with
  | zero =>
    intro x1 S h
    exact absurd (show (none : Option Hp) = some r from h) (by simp)
  | succ k ih =>
    intro x1 S h H locs ls hR hl
    rw [f_X12_stands_7] at h
    refine lv_iload_n C.1 C.2.1 dX12_stands_7 rfl (lv_at hl 1 rfl) ?_
    refine lv_iconst (v := (3 : Int32)) C.1 C.2.1 dX12_stands_8 (by decide) ?_
    refine lv_icmp_ge (tgt := 46) C.1 C.2.1 dX12_stands_9 (by decide) (fun hc => ?_) (fun hc => ?_)
    · replace h := if_t h hc
      refine lv_iconst (v := (0 : Int32)) C.1 C.2.1 dX12_stands_46 (by decide) ?_
      refine lv_istore_n (lv' := [(1, .int (0 : Int32)), (0, .ref (E.2.1 0))]) C.1 C.2.1 dX12_stands_47 rfl hl (by decide) rfl (fun ls hl => ?_)
      exact w_X12_stands_48 C 5000 (0 : Int32) S h _ _ _ hR (lv_sub hl [1, 0] rfl)
    · replace h := if_f h hc
      refine lv_aload_n C.1 C.2.1 dX12_stands_12 rfl (lv_at hl 0 rfl) ?_
      refine ho_getR (a' := 41) C cf12 fM_108 hR aM_0 rfl dX12_stands_13 ?_
      refine lv_iconst (v := (3 : Int32)) C.1 C.2.1 dX12_stands_16 (by decide) ?_
      refine lv_iload_n C.1 C.2.1 dX12_stands_17 rfl (lv_at hl 1 rfl) ?_
      refine lv_iadd C.1 C.2.1 dX12_stands_18 ?_
      refine lv_aload_n C.1 C.2.1 dX12_stands_19 rfl (lv_at hl 0 rfl) ?_
      refine ho_getR (a' := 41) C cf12 fM_108 hR aM_0 rfl dX12_stands_20 ?_
      refine lv_iload_n C.1 C.2.1 dX12_stands_23 rfl (lv_at hl 1 rfl) ?_
      obtain ⟨v1, e1, hi1, h⟩ := ldI_ok h
      refine hr_ild C hR aM_41 hi1 e1 dX12_stands_24 ?_
      obtain ⟨S2, e2, hi2, h⟩ := stI_ok h
      refine hr_ist C hR aM_41 hi2 e2 dX12_stands_25 (fun H locs hR => ?_)
      refine lv_aload_n C.1 C.2.1 dX12_stands_26 rfl (lv_at hl 0 rfl) ?_
      refine ho_getR (a' := 43) C cf12 fM_115 hR aM_0 rfl dX12_stands_27 ?_
      refine lv_iconst (v := (3 : Int32)) C.1 C.2.1 dX12_stands_30 (by decide) ?_
      refine lv_iload_n C.1 C.2.1 dX12_stands_31 rfl (lv_at hl 1 rfl) ?_
      refine lv_iadd C.1 C.2.1 dX12_stands_32 ?_
      refine lv_aload_n C.1 C.2.1 dX12_stands_33 rfl (lv_at hl 0 rfl) ?_
      refine ho_getR (a' := 43) C cf12 fM_115 hR aM_0 rfl dX12_stands_34 ?_
      refine lv_iload_n C.1 C.2.1 dX12_stands_37 rfl (lv_at hl 1 rfl) ?_
      obtain ⟨v3, e3, hi3, h⟩ := ldI_ok h
      refine hr_ild C hR aM_43 hi3 e3 dX12_stands_38 ?_
      obtain ⟨S4, e4, hi4, h⟩ := stI_ok h
      refine hr_ist C hR aM_43 hi4 e4 dX12_stands_39 (fun H locs hR => ?_)
      obtain ⟨v5, e5, h⟩ := le1_ok h
      refine lv_iinc (v := v5) (lv' := [(1, .int v5), (0, .ref (E.2.1 0))]) C.1 C.2.1 dX12_stands_40 hl (k := 1) rfl (by rw [e5]; rfl) (by decide) rfl (fun ls hl => ?_)
      refine lv_goto (tgt := 7) C.1 C.2.1 dX12_stands_43 (by decide) ?_
      exact ih v5 S4 h _ _ _ hR (lv_sub hl [1, 0] rfl)
def f_X12_stands (S : Hp) : Option Hp :=
  le1 (ho_sI S 0 52 (1 : Int32)) (fun S1 => f_X12_stands_7 5000 (0 : Int32) S1)
set_option maxHeartbeats 4000000 in
set_option maxRecDepth 100000 in
theorem c_X12_stands (l : Launch) (E : Ev) (S : Hp) (r : Hp) (h : f_X12_stands S = some r) : ho_M l yM E yX12_stands cX12_stands 2 none 0 [.ref (E.2.1 0)] S (none, r) := by
  refine ho_in (by decide) (Nat.le_of_ble_eq_true rfl) ?_
  intro p e s m args below meth c C hR ls hl
  have C : ho_I p s m args meth c RX12 cX12_stands 2 none := C
  have hl : lv_has ls 2 [(0, .ref (E.2.1 0))] := hl
  unfold f_X12_stands at h
  refine lv_aload_n C.1 C.2.1 dX12_stands_0 rfl (lv_at hl 0 rfl) ?_
  refine lv_iconst (v := (1 : Int32)) C.1 C.2.1 dX12_stands_1 (by decide) ?_
  obtain ⟨S1, e1, h⟩ := le1_ok h
  refine hr_putZ C cf12 fM_397 hR aM_0 (Or.inr rfl) e1 dX12_stands_2 (fun H locs hR => ?_)
  refine lv_iconst (v := (0 : Int32)) C.1 C.2.1 dX12_stands_5 (by decide) ?_
  refine lv_istore_n (lv' := [(1, .int (0 : Int32)), (0, .ref (E.2.1 0))]) C.1 C.2.1 dX12_stands_6 rfl hl (by decide) rfl (fun ls hl => ?_)
  exact w_X12_stands_7 C 5000 (0 : Int32) S1 h _ _ _ hR (lv_sub hl [1, 0] rfl)
theorem dX12_crown_0 : decode cX12_crown 0 = .ok (.aload_n 0, 1) := by decide +kernel
theorem dX12_crown_1 : decode cX12_crown 1 = .ok (.aload_n 0, 1) := by decide +kernel
theorem dX12_crown_2 : decode cX12_crown 2 = .ok (.getfield 261, 3) := by decide +kernel
theorem dX12_crown_5 : decode cX12_crown 5 = .ok (.putfield 273, 3) := by decide +kernel
theorem dX12_crown_8 : decode cX12_crown 8 = .ok (.aload_n 0, 1) := by decide +kernel
theorem dX12_crown_9 : decode cX12_crown 9 = .ok (.iconst 0, 1) := by decide +kernel
theorem dX12_crown_10 : decode cX12_crown 10 = .ok (.putfield 261, 3) := by decide +kernel
theorem dX12_crown_13 : decode cX12_crown 13 = .ok (.aload_n 0, 1) := by decide +kernel
theorem dX12_crown_14 : decode cX12_crown 14 = .ok (.iconst 0, 1) := by decide +kernel
theorem dX12_crown_15 : decode cX12_crown 15 = .ok (.putfield 270, 3) := by decide +kernel
theorem dX12_crown_18 : decode cX12_crown 18 = .ok (.aload_n 0, 1) := by decide +kernel
theorem dX12_crown_19 : decode cX12_crown 19 = .ok (.iconst (-1), 1) := by decide +kernel
theorem dX12_crown_20 : decode cX12_crown 20 = .ok (.putfield 284, 3) := by decide +kernel
theorem dX12_crown_23 : decode cX12_crown 23 = .ok (.aload_n 0, 1) := by decide +kernel
theorem dX12_crown_24 : decode cX12_crown 24 = .ok (.iconst 0, 1) := by decide +kernel
theorem dX12_crown_25 : decode cX12_crown 25 = .ok (.putfield 264, 3) := by decide +kernel
theorem dX12_crown_28 : decode cX12_crown 28 = .ok (.aload_n 0, 1) := by decide +kernel
theorem dX12_crown_29 : decode cX12_crown 29 = .ok (.iconst (-1), 1) := by decide +kernel
theorem dX12_crown_30 : decode cX12_crown 30 = .ok (.putfield 267, 3) := by decide +kernel
theorem dX12_crown_33 : decode cX12_crown 33 = .ok (.aload_n 0, 1) := by decide +kernel
theorem dX12_crown_34 : decode cX12_crown 34 = .ok (.iconst 0, 1) := by decide +kernel
theorem dX12_crown_35 : decode cX12_crown 35 = .ok (.putfield 367, 3) := by decide +kernel
theorem dX12_crown_38 : decode cX12_crown 38 = .ok (.iconst 0, 1) := by decide +kernel
theorem dX12_crown_39 : decode cX12_crown 39 = .ok (.istore_n 1, 1) := by decide +kernel
theorem dX12_crown_40 : decode cX12_crown 40 = .ok (.iload_n 1, 1) := by decide +kernel
theorem dX12_crown_41 : decode cX12_crown 41 = .ok (.iconst 3, 1) := by decide +kernel
theorem dX12_crown_42 : decode cX12_crown 42 = .ok (.if_icmp .ge 16, 3) := by decide +kernel
theorem dX12_crown_45 : decode cX12_crown 45 = .ok (.aload_n 0, 1) := by decide +kernel
theorem dX12_crown_46 : decode cX12_crown 46 = .ok (.getfield 108, 3) := by decide +kernel
theorem dX12_crown_49 : decode cX12_crown 49 = .ok (.iload_n 1, 1) := by decide +kernel
theorem dX12_crown_50 : decode cX12_crown 50 = .ok (.iconst 0, 1) := by decide +kernel
theorem dX12_crown_51 : decode cX12_crown 51 = .ok (.iastore, 1) := by decide +kernel
theorem dX12_crown_52 : decode cX12_crown 52 = .ok (.iinc 1 1, 3) := by decide +kernel
theorem dX12_crown_55 : decode cX12_crown 55 = .ok (.goto (-15), 3) := by decide +kernel
theorem dX12_crown_58 : decode cX12_crown 58 = .ok (.aload_n 0, 1) := by decide +kernel
theorem dX12_crown_59 : decode cX12_crown 59 = .ok (.getfield 130, 3) := by decide +kernel
theorem dX12_crown_62 : decode cX12_crown 62 = .ok (.iconst 0, 1) := by decide +kernel
theorem dX12_crown_63 : decode cX12_crown 63 = .ok (.iconst (-1), 1) := by decide +kernel
theorem dX12_crown_64 : decode cX12_crown 64 = .ok (.iastore, 1) := by decide +kernel
theorem dX12_crown_65 : decode cX12_crown 65 = .ok (.aload_n 0, 1) := by decide +kernel
theorem dX12_crown_66 : decode cX12_crown 66 = .ok (.getfield 130, 3) := by decide +kernel
theorem dX12_crown_69 : decode cX12_crown 69 = .ok (.iconst 1, 1) := by decide +kernel
theorem dX12_crown_70 : decode cX12_crown 70 = .ok (.iconst (-1), 1) := by decide +kernel
theorem dX12_crown_71 : decode cX12_crown 71 = .ok (.iastore, 1) := by decide +kernel
theorem dX12_crown_72 : decode cX12_crown 72 = .ok (.aload_n 0, 1) := by decide +kernel
theorem dX12_crown_73 : decode cX12_crown 73 = .ok (.getfield 127, 3) := by decide +kernel
theorem dX12_crown_76 : decode cX12_crown 76 = .ok (.iconst 0, 1) := by decide +kernel
theorem dX12_crown_77 : decode cX12_crown 77 = .ok (.bipush 50, 2) := by decide +kernel
theorem dX12_crown_79 : decode cX12_crown 79 = .ok (.iastore, 1) := by decide +kernel
theorem dX12_crown_80 : decode cX12_crown 80 = .ok (.aload_n 0, 1) := by decide +kernel
theorem dX12_crown_81 : decode cX12_crown 81 = .ok (.getfield 127, 3) := by decide +kernel
theorem dX12_crown_84 : decode cX12_crown 84 = .ok (.iconst 1, 1) := by decide +kernel
theorem dX12_crown_85 : decode cX12_crown 85 = .ok (.iconst 0, 1) := by decide +kernel
theorem dX12_crown_86 : decode cX12_crown 86 = .ok (.iastore, 1) := by decide +kernel
theorem dX12_crown_87 : decode cX12_crown 87 = .ok (.aload_n 0, 1) := by decide +kernel
theorem dX12_crown_88 : decode cX12_crown 88 = .ok (.invokevirtual 385, 3) := by decide +kernel
theorem dX12_crown_91 : decode cX12_crown 91 = .ok (.aload_n 0, 1) := by decide +kernel
theorem dX12_crown_92 : decode cX12_crown 92 = .ok (.iconst 1, 1) := by decide +kernel
theorem dX12_crown_93 : decode cX12_crown 93 = .ok (.putfield 370, 3) := by decide +kernel
theorem dX12_crown_96 : decode cX12_crown 96 = .ok (.aload_n 0, 1) := by decide +kernel
theorem dX12_crown_97 : decode cX12_crown 97 = .ok (.getfield 264, 3) := by decide +kernel
theorem dX12_crown_100 : decode cX12_crown 100 = .ok (.ifCond .ne 18, 3) := by decide +kernel
theorem dX12_crown_103 : decode cX12_crown 103 = .ok (.aload_n 0, 1) := by decide +kernel
theorem dX12_crown_104 : decode cX12_crown 104 = .ok (.invokevirtual 276, 3) := by decide +kernel
theorem dX12_crown_107 : decode cX12_crown 107 = .ok (.iconst (-1), 1) := by decide +kernel
theorem dX12_crown_108 : decode cX12_crown 108 = .ok (.if_icmp .eq 10, 3) := by decide +kernel
theorem dX12_crown_111 : decode cX12_crown 111 = .ok (.aload_n 0, 1) := by decide +kernel
theorem dX12_crown_112 : decode cX12_crown 112 = .ok (.invokevirtual 388, 3) := by decide +kernel
theorem dX12_crown_115 : decode cX12_crown 115 = .ok (.goto (-19), 3) := by decide +kernel
theorem dX12_crown_118 : decode cX12_crown 118 = .ok (.aload_n 0, 1) := by decide +kernel
theorem dX12_crown_119 : decode cX12_crown 119 = .ok (.aload_n 0, 1) := by decide +kernel
theorem dX12_crown_120 : decode cX12_crown 120 = .ok (.getfield 264, 3) := by decide +kernel
theorem dX12_crown_123 : decode cX12_crown 123 = .ok (.putfield 391, 3) := by decide +kernel
theorem dX12_crown_126 : decode cX12_crown 126 = .ok (.aload_n 0, 1) := by decide +kernel
theorem dX12_crown_127 : decode cX12_crown 127 = .ok (.aload_n 0, 1) := by decide +kernel
theorem dX12_crown_128 : decode cX12_crown 128 = .ok (.getfield 267, 3) := by decide +kernel
theorem dX12_crown_131 : decode cX12_crown 131 = .ok (.putfield 13, 3) := by decide +kernel
theorem dX12_crown_134 : decode cX12_crown 134 = .ok (.aload_n 0, 1) := by decide +kernel
theorem dX12_crown_135 : decode cX12_crown 135 = .ok (.getfield 264, 3) := by decide +kernel
theorem dX12_crown_138 : decode cX12_crown 138 = .ok (.ifCond .eq 15, 3) := by decide +kernel
theorem dX12_crown_141 : decode cX12_crown 141 = .ok (.aload_n 0, 1) := by decide +kernel
theorem dX12_crown_142 : decode cX12_crown 142 = .ok (.getfield 17, 3) := by decide +kernel
theorem dX12_crown_145 : decode cX12_crown 145 = .ok (.iconst 1, 1) := by decide +kernel
theorem dX12_crown_146 : decode cX12_crown 146 = .ok (.dup2, 1) := by decide +kernel
theorem dX12_crown_147 : decode cX12_crown 147 = .ok (.iaload, 1) := by decide +kernel
theorem dX12_crown_148 : decode cX12_crown 148 = .ok (.iconst 1, 1) := by decide +kernel
theorem dX12_crown_149 : decode cX12_crown 149 = .ok (.iadd, 1) := by decide +kernel
theorem dX12_crown_150 : decode cX12_crown 150 = .ok (.iastore, 1) := by decide +kernel
theorem dX12_crown_151 : decode cX12_crown 151 = .ok (.iconst (-1), 1) := by decide +kernel
theorem dX12_crown_152 : decode cX12_crown 152 = .ok (.ireturn, 1) := by decide +kernel
theorem dX12_crown_153 : decode cX12_crown 153 = .ok (.aload_n 0, 1) := by decide +kernel
theorem dX12_crown_154 : decode cX12_crown 154 = .ok (.invokevirtual 394, 3) := by decide +kernel
theorem dX12_crown_157 : decode cX12_crown 157 = .ok (.aload_n 0, 1) := by decide +kernel
theorem dX12_crown_158 : decode cX12_crown 158 = .ok (.getfield 370, 3) := by decide +kernel
theorem dX12_crown_161 : decode cX12_crown 161 = .ok (.ireturn, 1) := by decide +kernel
def f_X12_crown_118 (S : Hp) : Option (Int32 × Hp) :=
  le1 (ho_sI S 0 7 (S.1 0 5)) (fun S1 => le1 (ho_sI S1 0 8 (S1.1 0 6)) (fun S2 => if (S2.1 0 5) = 0 then ob (f_X12_stands S2) (fun S3 => some ((S3.1 0 51), S3)) else ldI S2 10 6 (1 : Int32) (fun v4 => stI S2 10 6 (1 : Int32) (v4 + (1 : Int32)) (fun S5 => some ((-1 : Int32), S5)))))
set_option maxHeartbeats 4000000 in
set_option maxRecDepth 100000 in
theorem w_X12_crown_118 {p : Program} {l : Launch} {e : Env} {s : State} {m : MethodId} {args : Array Value} {below : List Frame} {meth : Method} {c : Code} {E : Ev} {S0 : Hp} {r : (Int32 × Hp)} (C : ho_I p s m args meth c RX12 cX12_crown 2 (some .int)) :
    ∀ (S : Hp), f_X12_crown_118 S = some r → ho_G p l e s m args below meth c yM E S0 9 2 (some (.int r.1), r.2) 118 [(0, .ref (E.2.1 0))] [] S := by
  intro S h H locs ls hR hl
  unfold f_X12_crown_118 at h
  refine lv_aload_n C.1 C.2.1 dX12_crown_118 rfl (lv_at hl 0 rfl) ?_
  refine lv_aload_n C.1 C.2.1 dX12_crown_119 rfl (lv_at hl 0 rfl) ?_
  refine ho_getI C cf12 fM_264 hR aM_0 dX12_crown_120 ?_
  obtain ⟨S1, e1, h⟩ := le1_ok h
  refine hr_putI C cf12 fM_391 hR aM_0 e1 dX12_crown_123 (fun H locs hR => ?_)
  refine lv_aload_n C.1 C.2.1 dX12_crown_126 rfl (lv_at hl 0 rfl) ?_
  refine lv_aload_n C.1 C.2.1 dX12_crown_127 rfl (lv_at hl 0 rfl) ?_
  refine ho_getI C cf12 fM_267 hR aM_0 dX12_crown_128 ?_
  obtain ⟨S2, e2, h⟩ := le1_ok h
  refine hr_putI C cf12 fM_13 hR aM_0 e2 dX12_crown_131 (fun H locs hR => ?_)
  refine lv_aload_n C.1 C.2.1 dX12_crown_134 rfl (lv_at hl 0 rfl) ?_
  refine ho_getI C cf12 fM_264 hR aM_0 dX12_crown_135 ?_
  refine lv_if_eq (tgt := 153) C.1 C.2.1 dX12_crown_138 (by decide) (fun hc => ?_) (fun hc => ?_)
  · replace h := if_t h hc
    refine lv_aload_n C.1 C.2.1 dX12_crown_153 rfl (lv_at hl 0 rfl) ?_
    obtain ⟨S3, h3, h⟩ := ob_ok h
    refine hr_Vv (S' := S3) (As := []) (rest := []) C cf12 (c_X12_stands l E _ _ h3) yv_X12_stands lk_RX12_394 rfl aM_0 rfl rfl hl.1 (Nat.le_of_ble_eq_true rfl) (by decide) (by decide) hR (ho_A hR) dX12_crown_154 (fun H locs hR => ?_)
    refine lv_aload_n C.1 C.2.1 dX12_crown_157 rfl (lv_at hl 0 rfl) ?_
    refine ho_getI C cf12 fM_370 hR aM_0 dX12_crown_158 ?_
    exact ho_iret C hR h dX12_crown_161
  · replace h := if_f h hc
    refine lv_aload_n C.1 C.2.1 dX12_crown_141 rfl (lv_at hl 0 rfl) ?_
    refine ho_getR (a' := 10) C cf12 fM_17 hR aM_0 rfl dX12_crown_142 ?_
    refine lv_iconst (v := (1 : Int32)) C.1 C.2.1 dX12_crown_145 (by decide) ?_
    refine lv_dup2_11 C.1 C.2.1 dX12_crown_146 rfl rfl ?_
    obtain ⟨v4, e4, hi4, h⟩ := ldI_ok h
    refine hr_ild C hR aM_10 hi4 e4 dX12_crown_147 ?_
    refine lv_iconst (v := (1 : Int32)) C.1 C.2.1 dX12_crown_148 (by decide) ?_
    refine lv_iadd C.1 C.2.1 dX12_crown_149 ?_
    obtain ⟨S5, e5, hi5, h⟩ := stI_ok h
    refine hr_ist C hR aM_10 hi5 e5 dX12_crown_150 (fun H locs hR => ?_)
    refine lv_iconst (v := (-1 : Int32)) C.1 C.2.1 dX12_crown_151 (by decide) ?_
    exact ho_iret C hR h dX12_crown_152
def f_X12_crown_96 : Nat → Hp → Option (Int32 × Hp)
  | 0, _ => none
  | k + 1, S => if (S.1 0 5) = 0 then ob2 (f_X12_look0 S) (fun r1 S1 => if r1 = (-1 : Int32) then f_X12_crown_118 S1 else ob (f_X12_statementTold S1) (fun S2 => f_X12_crown_96 k S2)) else f_X12_crown_118 S
set_option maxHeartbeats 4000000 in
set_option maxRecDepth 100000 in
theorem w_X12_crown_96 {p : Program} {l : Launch} {e : Env} {s : State} {m : MethodId} {args : Array Value} {below : List Frame} {meth : Method} {c : Code} {E : Ev} {S0 : Hp} {r : (Int32 × Hp)} (C : ho_I p s m args meth c RX12 cX12_crown 2 (some .int)) :
    ∀ (k : Nat) (S : Hp), f_X12_crown_96 k S = some r → ho_G p l e s m args below meth c yM E S0 9 2 (some (.int r.1), r.2) 96 [(0, .ref (E.2.1 0))] [] S := by
  intro k
  induction k with
  | zero =>
    intro S h
    exact absurd (show (none : Option (Int32 × Hp)) = some r from h) (by simp)
  | succ k ih =>
    intro S h H locs ls hR hl
    rw [f_X12_crown_96] at h
    refine lv_aload_n C.1 C.2.1 dX12_crown_96 rfl (lv_at hl 0 rfl) ?_
    refine ho_getI C cf12 fM_264 hR aM_0 dX12_crown_97 ?_
    refine lv_if_ne (tgt := 118) C.1 C.2.1 dX12_crown_100 (by decide) (fun hc => ?_) (fun hc => ?_)
    · replace h := if_f h hc
      exact w_X12_crown_118 C S h _ _ _ hR (lv_sub hl [0] rfl)
    · replace h := if_t h hc
      refine lv_aload_n C.1 C.2.1 dX12_crown_103 rfl (lv_at hl 0 rfl) ?_
      obtain ⟨r1, S1, h1, h⟩ := ob2_ok h
      refine hr_Vi (v := r1) (S' := S1) (As := []) (rest := []) C cf12 (c_X12_look0 l E _ _ h1) yv_X12_look0 lk_RX12_276 rfl aM_0 rfl rfl hl.1 (Nat.le_of_ble_eq_true rfl) (by decide) (by decide) hR (ho_A hR) dX12_crown_104 (fun H locs hR => ?_)
      refine lv_iconst (v := (-1 : Int32)) C.1 C.2.1 dX12_crown_107 (by decide) ?_
      refine lv_icmp_eq (tgt := 118) C.1 C.2.1 dX12_crown_108 (by decide) (fun hc => ?_) (fun hc => ?_)
      · replace h := if_t h hc
        exact w_X12_crown_118 C S1 h _ _ _ hR (lv_sub hl [0] rfl)
      · replace h := if_f h hc
        refine lv_aload_n C.1 C.2.1 dX12_crown_111 rfl (lv_at hl 0 rfl) ?_
        obtain ⟨S2, h2, h⟩ := ob_ok h
        refine hr_Vv (S' := S2) (As := []) (rest := []) C cf12 (c_X12_statementTold l E _ _ h2) yv_X12_statementTold lk_RX12_388 rfl aM_0 rfl rfl hl.1 (Nat.le_of_ble_eq_true rfl) (by decide) (by decide) hR (ho_A hR) dX12_crown_112 (fun H locs hR => ?_)
        refine lv_goto (tgt := 96) C.1 C.2.1 dX12_crown_115 (by decide) ?_
        exact ih S2 h _ _ _ hR (lv_sub hl [0] rfl)
def f_X12_crown_40 : Nat → Int32 → Hp → Option (Int32 × Hp)
  | 0, _, _ => none
  | k + 1, x1, S => if (3 : Int32) ≤ x1 then stI S 48 4 (0 : Int32) (-1 : Int32) (fun S1 => stI S1 48 4 (1 : Int32) (-1 : Int32) (fun S2 => stI S2 47 4 (0 : Int32) (50 : Int32) (fun S3 => stI S3 47 4 (1 : Int32) (0 : Int32) (fun S4 => ob (f_X12_chestTold S4) (fun S5 => le1 (ho_sI S5 0 51 (1 : Int32)) (fun S6 => f_X12_crown_96 5000 S6)))))) else stI S 41 6 x1 (0 : Int32) (fun S7 => le1 (x1 + (1 : Int32)) (fun v8 => f_X12_crown_40 k v8 S7))
set_option maxHeartbeats 4000000 in
set_option maxRecDepth 100000 in
theorem w_X12_crown_40 {p : Program} {l : Launch} {e : Env} {s : State} {m : MethodId} {args : Array Value} {below : List Frame} {meth : Method} {c : Code} {E : Ev} {S0 : Hp} {r : (Int32 × Hp)} (C : ho_I p s m args meth c RX12 cX12_crown 2 (some .int)) :
    ∀ (k : Nat) (x1 : Int32) (S : Hp), f_X12_crown_40 k x1 S = some r → ho_G p l e s m args below meth c yM E S0 9 2 (some (.int r.1), r.2) 40 [(0, .ref (E.2.1 0)), (1, .int x1)] [] S := by
  intro k
  induction k with
  | zero =>
    intro x1 S h
    exact absurd (show (none : Option (Int32 × Hp)) = some r from h) (by simp)
  | succ k ih =>
    intro x1 S h H locs ls hR hl
    rw [f_X12_crown_40] at h
    refine lv_iload_n C.1 C.2.1 dX12_crown_40 rfl (lv_at hl 1 rfl) ?_
    refine lv_iconst (v := (3 : Int32)) C.1 C.2.1 dX12_crown_41 (by decide) ?_
    refine lv_icmp_ge (tgt := 58) C.1 C.2.1 dX12_crown_42 (by decide) (fun hc => ?_) (fun hc => ?_)
    · replace h := if_t h hc
      refine lv_aload_n C.1 C.2.1 dX12_crown_58 rfl (lv_at hl 0 rfl) ?_
      refine ho_getR (a' := 48) C cf12 fM_130 hR aM_0 rfl dX12_crown_59 ?_
      refine lv_iconst (v := (0 : Int32)) C.1 C.2.1 dX12_crown_62 (by decide) ?_
      refine lv_iconst (v := (-1 : Int32)) C.1 C.2.1 dX12_crown_63 (by decide) ?_
      obtain ⟨S1, e1, hi1, h⟩ := stI_ok h
      refine hr_ist C hR aM_48 hi1 e1 dX12_crown_64 (fun H locs hR => ?_)
      refine lv_aload_n C.1 C.2.1 dX12_crown_65 rfl (lv_at hl 0 rfl) ?_
      refine ho_getR (a' := 48) C cf12 fM_130 hR aM_0 rfl dX12_crown_66 ?_
      refine lv_iconst (v := (1 : Int32)) C.1 C.2.1 dX12_crown_69 (by decide) ?_
      refine lv_iconst (v := (-1 : Int32)) C.1 C.2.1 dX12_crown_70 (by decide) ?_
      obtain ⟨S2, e2, hi2, h⟩ := stI_ok h
      refine hr_ist C hR aM_48 hi2 e2 dX12_crown_71 (fun H locs hR => ?_)
      refine lv_aload_n C.1 C.2.1 dX12_crown_72 rfl (lv_at hl 0 rfl) ?_
      refine ho_getR (a' := 47) C cf12 fM_127 hR aM_0 rfl dX12_crown_73 ?_
      refine lv_iconst (v := (0 : Int32)) C.1 C.2.1 dX12_crown_76 (by decide) ?_
      refine lv_bipush (v := (50 : Int32)) C.1 C.2.1 dX12_crown_77 (by decide) ?_
      obtain ⟨S3, e3, hi3, h⟩ := stI_ok h
      refine hr_ist C hR aM_47 hi3 e3 dX12_crown_79 (fun H locs hR => ?_)
      refine lv_aload_n C.1 C.2.1 dX12_crown_80 rfl (lv_at hl 0 rfl) ?_
      refine ho_getR (a' := 47) C cf12 fM_127 hR aM_0 rfl dX12_crown_81 ?_
      refine lv_iconst (v := (1 : Int32)) C.1 C.2.1 dX12_crown_84 (by decide) ?_
      refine lv_iconst (v := (0 : Int32)) C.1 C.2.1 dX12_crown_85 (by decide) ?_
      obtain ⟨S4, e4, hi4, h⟩ := stI_ok h
      refine hr_ist C hR aM_47 hi4 e4 dX12_crown_86 (fun H locs hR => ?_)
      refine lv_aload_n C.1 C.2.1 dX12_crown_87 rfl (lv_at hl 0 rfl) ?_
      obtain ⟨S5, h5, h⟩ := ob_ok h
      refine hr_Vv (S' := S5) (As := []) (rest := []) C cf12 (c_X12_chestTold l E _ _ h5) yv_X12_chestTold lk_RX12_385 rfl aM_0 rfl rfl hl.1 (Nat.le_of_ble_eq_true rfl) (by decide) (by decide) hR (ho_A hR) dX12_crown_88 (fun H locs hR => ?_)
      refine lv_aload_n C.1 C.2.1 dX12_crown_91 rfl (lv_at hl 0 rfl) ?_
      refine lv_iconst (v := (1 : Int32)) C.1 C.2.1 dX12_crown_92 (by decide) ?_
      obtain ⟨S6, e6, h⟩ := le1_ok h
      refine hr_putI C cf12 fM_370 hR aM_0 e6 dX12_crown_93 (fun H locs hR => ?_)
      exact w_X12_crown_96 C 5000 S6 h _ _ _ hR (lv_sub hl [0] rfl)
    · replace h := if_f h hc
      refine lv_aload_n C.1 C.2.1 dX12_crown_45 rfl (lv_at hl 0 rfl) ?_
      refine ho_getR (a' := 41) C cf12 fM_108 hR aM_0 rfl dX12_crown_46 ?_
      refine lv_iload_n C.1 C.2.1 dX12_crown_49 rfl (lv_at hl 1 rfl) ?_
      refine lv_iconst (v := (0 : Int32)) C.1 C.2.1 dX12_crown_50 (by decide) ?_
      obtain ⟨S7, e7, hi7, h⟩ := stI_ok h
      refine hr_ist C hR aM_41 hi7 e7 dX12_crown_51 (fun H locs hR => ?_)
      obtain ⟨v8, e8, h⟩ := le1_ok h
      refine lv_iinc (v := v8) (lv' := [(1, .int v8), (0, .ref (E.2.1 0))]) C.1 C.2.1 dX12_crown_52 hl (k := 1) rfl (by rw [e8]; rfl) (by decide) rfl (fun ls hl => ?_)
      refine lv_goto (tgt := 40) C.1 C.2.1 dX12_crown_55 (by decide) ?_
      exact ih v8 S7 h _ _ _ hR (lv_sub hl [1, 0] rfl)
def f_X12_crown (S : Hp) : Option (Int32 × Hp) :=
  le1 (ho_sI S 0 3 (S.1 0 1)) (fun S1 => le1 (ho_sI S1 0 1 (0 : Int32)) (fun S2 => le1 (ho_sI S2 0 2 (0 : Int32)) (fun S3 => le1 (ho_sI S3 0 4 (-1 : Int32)) (fun S4 => le1 (ho_sI S4 0 5 (0 : Int32)) (fun S5 => le1 (ho_sI S5 0 6 (-1 : Int32)) (fun S6 => le1 (ho_sI S6 0 50 (0 : Int32)) (fun S7 => f_X12_crown_40 5000 (0 : Int32) S7)))))))
set_option maxHeartbeats 4000000 in
set_option maxRecDepth 100000 in
theorem c_X12_crown (l : Launch) (E : Ev) (S : Hp) (r : (Int32 × Hp)) (h : f_X12_crown S = some r) : ho_M l yM E yX12_crown cX12_crown 2 (some .int) 9 [.ref (E.2.1 0)] S (some (.int r.1), r.2) := by
  refine ho_in (by decide) (Nat.le_of_ble_eq_true rfl) ?_
  intro p e s m args below meth c C hR ls hl
  have C : ho_I p s m args meth c RX12 cX12_crown 2 (some .int) := C
  have hl : lv_has ls 2 [(0, .ref (E.2.1 0))] := hl
  unfold f_X12_crown at h
  refine lv_aload_n C.1 C.2.1 dX12_crown_0 rfl (lv_at hl 0 rfl) ?_
  refine lv_aload_n C.1 C.2.1 dX12_crown_1 rfl (lv_at hl 0 rfl) ?_
  refine ho_getI C cf12 fM_261 hR aM_0 dX12_crown_2 ?_
  obtain ⟨S1, e1, h⟩ := le1_ok h
  refine hr_putI C cf12 fM_273 hR aM_0 e1 dX12_crown_5 (fun H locs hR => ?_)
  refine lv_aload_n C.1 C.2.1 dX12_crown_8 rfl (lv_at hl 0 rfl) ?_
  refine lv_iconst (v := (0 : Int32)) C.1 C.2.1 dX12_crown_9 (by decide) ?_
  obtain ⟨S2, e2, h⟩ := le1_ok h
  refine hr_putI C cf12 fM_261 hR aM_0 e2 dX12_crown_10 (fun H locs hR => ?_)
  refine lv_aload_n C.1 C.2.1 dX12_crown_13 rfl (lv_at hl 0 rfl) ?_
  refine lv_iconst (v := (0 : Int32)) C.1 C.2.1 dX12_crown_14 (by decide) ?_
  obtain ⟨S3, e3, h⟩ := le1_ok h
  refine hr_putI C cf12 fM_270 hR aM_0 e3 dX12_crown_15 (fun H locs hR => ?_)
  refine lv_aload_n C.1 C.2.1 dX12_crown_18 rfl (lv_at hl 0 rfl) ?_
  refine lv_iconst (v := (-1 : Int32)) C.1 C.2.1 dX12_crown_19 (by decide) ?_
  obtain ⟨S4, e4, h⟩ := le1_ok h
  refine hr_putI C cf12 fM_284 hR aM_0 e4 dX12_crown_20 (fun H locs hR => ?_)
  refine lv_aload_n C.1 C.2.1 dX12_crown_23 rfl (lv_at hl 0 rfl) ?_
  refine lv_iconst (v := (0 : Int32)) C.1 C.2.1 dX12_crown_24 (by decide) ?_
  obtain ⟨S5, e5, h⟩ := le1_ok h
  refine hr_putI C cf12 fM_264 hR aM_0 e5 dX12_crown_25 (fun H locs hR => ?_)
  refine lv_aload_n C.1 C.2.1 dX12_crown_28 rfl (lv_at hl 0 rfl) ?_
  refine lv_iconst (v := (-1 : Int32)) C.1 C.2.1 dX12_crown_29 (by decide) ?_
  obtain ⟨S6, e6, h⟩ := le1_ok h
  refine hr_putI C cf12 fM_267 hR aM_0 e6 dX12_crown_30 (fun H locs hR => ?_)
  refine lv_aload_n C.1 C.2.1 dX12_crown_33 rfl (lv_at hl 0 rfl) ?_
  refine lv_iconst (v := (0 : Int32)) C.1 C.2.1 dX12_crown_34 (by decide) ?_
  obtain ⟨S7, e7, h⟩ := le1_ok h
  refine hr_putI C cf12 fM_367 hR aM_0 e7 dX12_crown_35 (fun H locs hR => ?_)
  refine lv_iconst (v := (0 : Int32)) C.1 C.2.1 dX12_crown_38 (by decide) ?_
  refine lv_istore_n (lv' := [(1, .int (0 : Int32)), (0, .ref (E.2.1 0))]) C.1 C.2.1 dX12_crown_39 rfl hl (by decide) rfl (fun ls hl => ?_)
  exact w_X12_crown_40 C 5000 (0 : Int32) S7 h _ _ _ hR (lv_sub hl [1, 0] rfl)
theorem dX12_fault_0 : decode cX12_fault 0 = .ok (.iload_n 1, 1) := by decide +kernel
theorem dX12_fault_1 : decode cX12_fault 1 = .ok (.ifCond .ne 10, 3) := by decide +kernel
theorem dX12_fault_4 : decode cX12_fault 4 = .ok (.aload_n 0, 1) := by decide +kernel
theorem dX12_fault_5 : decode cX12_fault 5 = .ok (.getfield 391, 3) := by decide +kernel
theorem dX12_fault_8 : decode cX12_fault 8 = .ok (.goto 16, 3) := by decide +kernel
theorem dX12_fault_11 : decode cX12_fault 11 = .ok (.iload_n 1, 1) := by decide +kernel
theorem dX12_fault_12 : decode cX12_fault 12 = .ok (.iconst 1, 1) := by decide +kernel
theorem dX12_fault_13 : decode cX12_fault 13 = .ok (.if_icmp .ne 10, 3) := by decide +kernel
theorem dX12_fault_16 : decode cX12_fault 16 = .ok (.aload_n 0, 1) := by decide +kernel
theorem dX12_fault_17 : decode cX12_fault 17 = .ok (.getfield 13, 3) := by decide +kernel
theorem dX12_fault_20 : decode cX12_fault 20 = .ok (.goto 4, 3) := by decide +kernel
theorem dX12_fault_23 : decode cX12_fault 23 = .ok (.iconst (-1), 1) := by decide +kernel
theorem dX12_fault_24 : decode cX12_fault 24 = .ok (.ireturn, 1) := by decide +kernel
def f_X12_fault (x1 : Int32) (S : Hp) : Option (Int32 × Hp) :=
  if x1 = 0 then some ((S.1 0 7), S) else if x1 = (1 : Int32) then some ((S.1 0 8), S) else some ((-1 : Int32), S)
set_option maxHeartbeats 4000000 in
set_option maxRecDepth 100000 in
theorem c_X12_fault (l : Launch) (E : Ev) (x1 : Int32) (S : Hp) (r : (Int32 × Hp)) (h : f_X12_fault x1 S = some r) : ho_M l yM E yX12_fault cX12_fault 2 (some .int) 0 [.ref (E.2.1 0), .int x1] S (some (.int r.1), r.2) := by
  refine ho_in (by decide) (Nat.le_of_ble_eq_true rfl) ?_
  intro p e s m args below meth c C hR ls hl
  have C : ho_I p s m args meth c RX12 cX12_fault 2 (some .int) := C
  have hl : lv_has ls 2 [(0, .ref (E.2.1 0)), (1, .int x1)] := hl
  unfold f_X12_fault at h
  refine lv_iload_n C.1 C.2.1 dX12_fault_0 rfl (lv_at hl 1 rfl) ?_
  refine lv_if_ne (tgt := 11) C.1 C.2.1 dX12_fault_1 (by decide) (fun hc => ?_) (fun hc => ?_)
  · replace h := if_f h hc
    refine lv_iload_n C.1 C.2.1 dX12_fault_11 rfl (lv_at hl 1 rfl) ?_
    refine lv_iconst (v := (1 : Int32)) C.1 C.2.1 dX12_fault_12 (by decide) ?_
    refine lv_icmp_ne (tgt := 23) C.1 C.2.1 dX12_fault_13 (by decide) (fun hc => ?_) (fun hc => ?_)
    · replace h := if_f h hc
      refine lv_iconst (v := (-1 : Int32)) C.1 C.2.1 dX12_fault_23 (by decide) ?_
      exact ho_iret C hR h dX12_fault_24
    · replace h := if_t h hc
      refine lv_aload_n C.1 C.2.1 dX12_fault_16 rfl (lv_at hl 0 rfl) ?_
      refine ho_getI C cf12 fM_13 hR aM_0 dX12_fault_17 ?_
      refine lv_goto (tgt := 24) C.1 C.2.1 dX12_fault_20 (by decide) ?_
      exact ho_iret C hR h dX12_fault_24
  · replace h := if_t h hc
    refine lv_aload_n C.1 C.2.1 dX12_fault_4 rfl (lv_at hl 0 rfl) ?_
    refine ho_getI C cf12 fM_391 hR aM_0 dX12_fault_5 ?_
    refine lv_goto (tgt := 24) C.1 C.2.1 dX12_fault_8 (by decide) ?_
    exact ho_iret C hR h dX12_fault_24
theorem dX12_provinceMany_0 : decode cX12_provinceMany 0 = .ok (.aload_n 0, 1) := by decide +kernel
theorem dX12_provinceMany_1 : decode cX12_provinceMany 1 = .ok (.getfield 108, 3) := by decide +kernel
theorem dX12_provinceMany_4 : decode cX12_provinceMany 4 = .ok (.iconst 3, 1) := by decide +kernel
theorem dX12_provinceMany_5 : decode cX12_provinceMany 5 = .ok (.iaload, 1) := by decide +kernel
theorem dX12_provinceMany_6 : decode cX12_provinceMany 6 = .ok (.ireturn, 1) := by decide +kernel
def f_X12_provinceMany (S : Hp) : Option (Int32 × Hp) :=
  ldI S 41 6 (3 : Int32) (fun v1 => some (v1, S))
set_option maxHeartbeats 4000000 in
set_option maxRecDepth 100000 in
theorem c_X12_provinceMany (l : Launch) (E : Ev) (S : Hp) (r : (Int32 × Hp)) (h : f_X12_provinceMany S = some r) : ho_M l yM E yX12_provinceMany cX12_provinceMany 1 (some .int) 0 [.ref (E.2.1 0)] S (some (.int r.1), r.2) := by
  refine ho_in (by decide) (Nat.le_of_ble_eq_true rfl) ?_
  intro p e s m args below meth c C hR ls hl
  have C : ho_I p s m args meth c RX12 cX12_provinceMany 1 (some .int) := C
  have hl : lv_has ls 1 [(0, .ref (E.2.1 0))] := hl
  unfold f_X12_provinceMany at h
  refine lv_aload_n C.1 C.2.1 dX12_provinceMany_0 rfl (lv_at hl 0 rfl) ?_
  refine ho_getR (a' := 41) C cf12 fM_108 hR aM_0 rfl dX12_provinceMany_1 ?_
  refine lv_iconst (v := (3 : Int32)) C.1 C.2.1 dX12_provinceMany_4 (by decide) ?_
  obtain ⟨v1, e1, hi1, h⟩ := ldI_ok h
  refine hr_ild C hR aM_41 hi1 e1 dX12_provinceMany_5 ?_
  exact ho_iret C hR h dX12_provinceMany_6
theorem dX12_trickMany_0 : decode cX12_trickMany 0 = .ok (.aload_n 0, 1) := by decide +kernel
theorem dX12_trickMany_1 : decode cX12_trickMany 1 = .ok (.getfield 108, 3) := by decide +kernel
theorem dX12_trickMany_4 : decode cX12_trickMany 4 = .ok (.iconst 4, 1) := by decide +kernel
theorem dX12_trickMany_5 : decode cX12_trickMany 5 = .ok (.iaload, 1) := by decide +kernel
theorem dX12_trickMany_6 : decode cX12_trickMany 6 = .ok (.ireturn, 1) := by decide +kernel
def f_X12_trickMany (S : Hp) : Option (Int32 × Hp) :=
  ldI S 41 6 (4 : Int32) (fun v1 => some (v1, S))
set_option maxHeartbeats 4000000 in
set_option maxRecDepth 100000 in
theorem c_X12_trickMany (l : Launch) (E : Ev) (S : Hp) (r : (Int32 × Hp)) (h : f_X12_trickMany S = some r) : ho_M l yM E yX12_trickMany cX12_trickMany 1 (some .int) 0 [.ref (E.2.1 0)] S (some (.int r.1), r.2) := by
  refine ho_in (by decide) (Nat.le_of_ble_eq_true rfl) ?_
  intro p e s m args below meth c C hR ls hl
  have C : ho_I p s m args meth c RX12 cX12_trickMany 1 (some .int) := C
  have hl : lv_has ls 1 [(0, .ref (E.2.1 0))] := hl
  unfold f_X12_trickMany at h
  refine lv_aload_n C.1 C.2.1 dX12_trickMany_0 rfl (lv_at hl 0 rfl) ?_
  refine ho_getR (a' := 41) C cf12 fM_108 hR aM_0 rfl dX12_trickMany_1 ?_
  refine lv_iconst (v := (4 : Int32)) C.1 C.2.1 dX12_trickMany_4 (by decide) ?_
  obtain ⟨v1, e1, hi1, h⟩ := ldI_ok h
  refine hr_ild C hR aM_41 hi1 e1 dX12_trickMany_5 ?_
  exact ho_iret C hR h dX12_trickMany_6
theorem dX12_watcherMany_0 : decode cX12_watcherMany 0 = .ok (.aload_n 0, 1) := by decide +kernel
theorem dX12_watcherMany_1 : decode cX12_watcherMany 1 = .ok (.getfield 108, 3) := by decide +kernel
theorem dX12_watcherMany_4 : decode cX12_watcherMany 4 = .ok (.iconst 5, 1) := by decide +kernel
theorem dX12_watcherMany_5 : decode cX12_watcherMany 5 = .ok (.iaload, 1) := by decide +kernel
theorem dX12_watcherMany_6 : decode cX12_watcherMany 6 = .ok (.ireturn, 1) := by decide +kernel
def f_X12_watcherMany (S : Hp) : Option (Int32 × Hp) :=
  ldI S 41 6 (5 : Int32) (fun v1 => some (v1, S))
set_option maxHeartbeats 4000000 in
set_option maxRecDepth 100000 in
theorem c_X12_watcherMany (l : Launch) (E : Ev) (S : Hp) (r : (Int32 × Hp)) (h : f_X12_watcherMany S = some r) : ho_M l yM E yX12_watcherMany cX12_watcherMany 1 (some .int) 0 [.ref (E.2.1 0)] S (some (.int r.1), r.2) := by
  refine ho_in (by decide) (Nat.le_of_ble_eq_true rfl) ?_
  intro p e s m args below meth c C hR ls hl
  have C : ho_I p s m args meth c RX12 cX12_watcherMany 1 (some .int) := C
  have hl : lv_has ls 1 [(0, .ref (E.2.1 0))] := hl
  unfold f_X12_watcherMany at h
  refine lv_aload_n C.1 C.2.1 dX12_watcherMany_0 rfl (lv_at hl 0 rfl) ?_
  refine ho_getR (a' := 41) C cf12 fM_108 hR aM_0 rfl dX12_watcherMany_1 ?_
  refine lv_iconst (v := (5 : Int32)) C.1 C.2.1 dX12_watcherMany_4 (by decide) ?_
  obtain ⟨v1, e1, hi1, h⟩ := ldI_ok h
  refine hr_ild C hR aM_41 hi1 e1 dX12_watcherMany_5 ?_
  exact ho_iret C hR h dX12_watcherMany_6
theorem dX12_isProvince_0 : decode cX12_isProvince 0 = .ok (.iload_n 1, 1) := by decide +kernel
theorem dX12_isProvince_1 : decode cX12_isProvince 1 = .ok (.i2l, 1) := by decide +kernel
theorem dX12_isProvince_2 : decode cX12_isProvince 2 = .ok (.lconst 0, 1) := by decide +kernel
theorem dX12_isProvince_3 : decode cX12_isProvince 3 = .ok (.aload_n 0, 1) := by decide +kernel
theorem dX12_isProvince_4 : decode cX12_isProvince 4 = .ok (.invokevirtual 407, 3) := by decide +kernel
theorem dX12_isProvince_7 : decode cX12_isProvince 7 = .ok (.iconst 1, 1) := by decide +kernel
theorem dX12_isProvince_8 : decode cX12_isProvince 8 = .ok (.isub, 1) := by decide +kernel
theorem dX12_isProvince_9 : decode cX12_isProvince 9 = .ok (.i2l, 1) := by decide +kernel
theorem dX12_isProvince_10 : decode cX12_isProvince 10 = .ok (.invokestatic 304, 3) := by decide +kernel
theorem dX12_isProvince_13 : decode cX12_isProvince 13 = .ok (.ireturn, 1) := by decide +kernel
def f_X12_isProvince (x1 : Int32) (S : Hp) : Option (Int32 × Hp) :=
  ob2 (f_X12_provinceMany S) (fun r1 S1 => ob2 (f_X12_isIn (x1.toInt64) (0 : Int64) ((r1 - (1 : Int32)).toInt64) S1) (fun r2 S2 => tr r2 (some (r2, S2))))
set_option maxHeartbeats 4000000 in
set_option maxRecDepth 100000 in
theorem c_X12_isProvince (l : Launch) (E : Ev) (x1 : Int32) (S : Hp) (r : (Int32 × Hp)) (h : f_X12_isProvince x1 S = some r) : ho_M l yM E yX12_isProvince cX12_isProvince 2 (some .boolean) 1 [.ref (E.2.1 0), .int x1] S (some (.int r.1), r.2) := by
  refine ho_in (by decide) (Nat.le_of_ble_eq_true rfl) ?_
  intro p e s m args below meth c C hR ls hl
  have C : ho_I p s m args meth c RX12 cX12_isProvince 2 (some .boolean) := C
  have hl : lv_has ls 2 [(0, .ref (E.2.1 0)), (1, .int x1)] := hl
  unfold f_X12_isProvince at h
  refine lv_iload_n C.1 C.2.1 dX12_isProvince_0 rfl (lv_at hl 1 rfl) ?_
  refine lv_i2l (v := (x1.toInt64)) C.1 C.2.1 dX12_isProvince_1 rfl ?_
  refine lv_lconst (v := (0 : Int64)) C.1 C.2.1 dX12_isProvince_2 (by decide) ?_
  refine lv_aload_n C.1 C.2.1 dX12_isProvince_3 rfl (lv_at hl 0 rfl) ?_
  obtain ⟨r1, S1, h1, h⟩ := ob2_ok h
  refine hr_Vi (v := r1) (S' := S1) (As := []) (rest := [.long (0 : Int64), .long (x1.toInt64)]) C cf12 (c_X12_provinceMany l E _ _ h1) yv_X12_provinceMany lk_RX12_407 rfl aM_0 rfl rfl hl.1 (Nat.le_of_ble_eq_true rfl) (by decide) (by decide) hR (ho_A hR) dX12_isProvince_4 (fun H locs hR => ?_)
  refine lv_iconst (v := (1 : Int32)) C.1 C.2.1 dX12_isProvince_7 (by decide) ?_
  refine lv_isub C.1 C.2.1 dX12_isProvince_8 ?_
  refine lv_i2l (v := ((r1 - (1 : Int32)).toInt64)) C.1 C.2.1 dX12_isProvince_9 rfl ?_
  obtain ⟨r2, S2, h2, h⟩ := ob2_ok h
  refine hr_Si (v := r2) (S' := S2) (As := [.long (x1.toInt64), .long (0 : Int64), .long ((r1 - (1 : Int32)).toInt64)]) (rest := []) C (c_X12_isIn l E (x1.toInt64) (0 : Int64) ((r1 - (1 : Int32)).toInt64) _ _ h2) ys_X12_isIn lk_RX12_304 rfl rfl hl.1 (Nat.le_of_ble_eq_true rfl) (by decide) (by decide) hR (ho_A hR) dX12_isProvince_10 (fun H locs hR => ?_)
  obtain ⟨hz, h⟩ := tr_ok h
  exact ho_zret C hR hz h dX12_isProvince_13
theorem dX12_isTrick_0 : decode cX12_isTrick 0 = .ok (.iload_n 1, 1) := by decide +kernel
theorem dX12_isTrick_1 : decode cX12_isTrick 1 = .ok (.i2l, 1) := by decide +kernel
theorem dX12_isTrick_2 : decode cX12_isTrick 2 = .ok (.lconst 0, 1) := by decide +kernel
theorem dX12_isTrick_3 : decode cX12_isTrick 3 = .ok (.aload_n 0, 1) := by decide +kernel
theorem dX12_isTrick_4 : decode cX12_isTrick 4 = .ok (.invokevirtual 410, 3) := by decide +kernel
theorem dX12_isTrick_7 : decode cX12_isTrick 7 = .ok (.iconst 1, 1) := by decide +kernel
theorem dX12_isTrick_8 : decode cX12_isTrick 8 = .ok (.isub, 1) := by decide +kernel
theorem dX12_isTrick_9 : decode cX12_isTrick 9 = .ok (.i2l, 1) := by decide +kernel
theorem dX12_isTrick_10 : decode cX12_isTrick 10 = .ok (.invokestatic 304, 3) := by decide +kernel
theorem dX12_isTrick_13 : decode cX12_isTrick 13 = .ok (.ireturn, 1) := by decide +kernel
def f_X12_isTrick (x1 : Int32) (S : Hp) : Option (Int32 × Hp) :=
  ob2 (f_X12_trickMany S) (fun r1 S1 => ob2 (f_X12_isIn (x1.toInt64) (0 : Int64) ((r1 - (1 : Int32)).toInt64) S1) (fun r2 S2 => tr r2 (some (r2, S2))))
set_option maxHeartbeats 4000000 in
set_option maxRecDepth 100000 in
theorem c_X12_isTrick (l : Launch) (E : Ev) (x1 : Int32) (S : Hp) (r : (Int32 × Hp)) (h : f_X12_isTrick x1 S = some r) : ho_M l yM E yX12_isTrick cX12_isTrick 2 (some .boolean) 1 [.ref (E.2.1 0), .int x1] S (some (.int r.1), r.2) := by
  refine ho_in (by decide) (Nat.le_of_ble_eq_true rfl) ?_
  intro p e s m args below meth c C hR ls hl
  have C : ho_I p s m args meth c RX12 cX12_isTrick 2 (some .boolean) := C
  have hl : lv_has ls 2 [(0, .ref (E.2.1 0)), (1, .int x1)] := hl
  unfold f_X12_isTrick at h
  refine lv_iload_n C.1 C.2.1 dX12_isTrick_0 rfl (lv_at hl 1 rfl) ?_
  refine lv_i2l (v := (x1.toInt64)) C.1 C.2.1 dX12_isTrick_1 rfl ?_
  refine lv_lconst (v := (0 : Int64)) C.1 C.2.1 dX12_isTrick_2 (by decide) ?_
  refine lv_aload_n C.1 C.2.1 dX12_isTrick_3 rfl (lv_at hl 0 rfl) ?_
  obtain ⟨r1, S1, h1, h⟩ := ob2_ok h
  refine hr_Vi (v := r1) (S' := S1) (As := []) (rest := [.long (0 : Int64), .long (x1.toInt64)]) C cf12 (c_X12_trickMany l E _ _ h1) yv_X12_trickMany lk_RX12_410 rfl aM_0 rfl rfl hl.1 (Nat.le_of_ble_eq_true rfl) (by decide) (by decide) hR (ho_A hR) dX12_isTrick_4 (fun H locs hR => ?_)
  refine lv_iconst (v := (1 : Int32)) C.1 C.2.1 dX12_isTrick_7 (by decide) ?_
  refine lv_isub C.1 C.2.1 dX12_isTrick_8 ?_
  refine lv_i2l (v := ((r1 - (1 : Int32)).toInt64)) C.1 C.2.1 dX12_isTrick_9 rfl ?_
  obtain ⟨r2, S2, h2, h⟩ := ob2_ok h
  refine hr_Si (v := r2) (S' := S2) (As := [.long (x1.toInt64), .long (0 : Int64), .long ((r1 - (1 : Int32)).toInt64)]) (rest := []) C (c_X12_isIn l E (x1.toInt64) (0 : Int64) ((r1 - (1 : Int32)).toInt64) _ _ h2) ys_X12_isIn lk_RX12_304 rfl rfl hl.1 (Nat.le_of_ble_eq_true rfl) (by decide) (by decide) hR (ho_A hR) dX12_isTrick_10 (fun H locs hR => ?_)
  obtain ⟨hz, h⟩ := tr_ok h
  exact ho_zret C hR hz h dX12_isTrick_13
theorem dX12_isWatcher_0 : decode cX12_isWatcher 0 = .ok (.iload_n 1, 1) := by decide +kernel
theorem dX12_isWatcher_1 : decode cX12_isWatcher 1 = .ok (.i2l, 1) := by decide +kernel
theorem dX12_isWatcher_2 : decode cX12_isWatcher 2 = .ok (.lconst 0, 1) := by decide +kernel
theorem dX12_isWatcher_3 : decode cX12_isWatcher 3 = .ok (.aload_n 0, 1) := by decide +kernel
theorem dX12_isWatcher_4 : decode cX12_isWatcher 4 = .ok (.invokevirtual 413, 3) := by decide +kernel
theorem dX12_isWatcher_7 : decode cX12_isWatcher 7 = .ok (.iconst 1, 1) := by decide +kernel
theorem dX12_isWatcher_8 : decode cX12_isWatcher 8 = .ok (.isub, 1) := by decide +kernel
theorem dX12_isWatcher_9 : decode cX12_isWatcher 9 = .ok (.i2l, 1) := by decide +kernel
theorem dX12_isWatcher_10 : decode cX12_isWatcher 10 = .ok (.invokestatic 304, 3) := by decide +kernel
theorem dX12_isWatcher_13 : decode cX12_isWatcher 13 = .ok (.ireturn, 1) := by decide +kernel
def f_X12_isWatcher (x1 : Int32) (S : Hp) : Option (Int32 × Hp) :=
  ob2 (f_X12_watcherMany S) (fun r1 S1 => ob2 (f_X12_isIn (x1.toInt64) (0 : Int64) ((r1 - (1 : Int32)).toInt64) S1) (fun r2 S2 => tr r2 (some (r2, S2))))
set_option maxHeartbeats 4000000 in
set_option maxRecDepth 100000 in
theorem c_X12_isWatcher (l : Launch) (E : Ev) (x1 : Int32) (S : Hp) (r : (Int32 × Hp)) (h : f_X12_isWatcher x1 S = some r) : ho_M l yM E yX12_isWatcher cX12_isWatcher 2 (some .boolean) 1 [.ref (E.2.1 0), .int x1] S (some (.int r.1), r.2) := by
  refine ho_in (by decide) (Nat.le_of_ble_eq_true rfl) ?_
  intro p e s m args below meth c C hR ls hl
  have C : ho_I p s m args meth c RX12 cX12_isWatcher 2 (some .boolean) := C
  have hl : lv_has ls 2 [(0, .ref (E.2.1 0)), (1, .int x1)] := hl
  unfold f_X12_isWatcher at h
  refine lv_iload_n C.1 C.2.1 dX12_isWatcher_0 rfl (lv_at hl 1 rfl) ?_
  refine lv_i2l (v := (x1.toInt64)) C.1 C.2.1 dX12_isWatcher_1 rfl ?_
  refine lv_lconst (v := (0 : Int64)) C.1 C.2.1 dX12_isWatcher_2 (by decide) ?_
  refine lv_aload_n C.1 C.2.1 dX12_isWatcher_3 rfl (lv_at hl 0 rfl) ?_
  obtain ⟨r1, S1, h1, h⟩ := ob2_ok h
  refine hr_Vi (v := r1) (S' := S1) (As := []) (rest := [.long (0 : Int64), .long (x1.toInt64)]) C cf12 (c_X12_watcherMany l E _ _ h1) yv_X12_watcherMany lk_RX12_413 rfl aM_0 rfl rfl hl.1 (Nat.le_of_ble_eq_true rfl) (by decide) (by decide) hR (ho_A hR) dX12_isWatcher_4 (fun H locs hR => ?_)
  refine lv_iconst (v := (1 : Int32)) C.1 C.2.1 dX12_isWatcher_7 (by decide) ?_
  refine lv_isub C.1 C.2.1 dX12_isWatcher_8 ?_
  refine lv_i2l (v := ((r1 - (1 : Int32)).toInt64)) C.1 C.2.1 dX12_isWatcher_9 rfl ?_
  obtain ⟨r2, S2, h2, h⟩ := ob2_ok h
  refine hr_Si (v := r2) (S' := S2) (As := [.long (x1.toInt64), .long (0 : Int64), .long ((r1 - (1 : Int32)).toInt64)]) (rest := []) C (c_X12_isIn l E (x1.toInt64) (0 : Int64) ((r1 - (1 : Int32)).toInt64) _ _ h2) ys_X12_isIn lk_RX12_304 rfl rfl hl.1 (Nat.le_of_ble_eq_true rfl) (by decide) (by decide) hR (ho_A hR) dX12_isWatcher_10 (fun H locs hR => ?_)
  obtain ⟨hz, h⟩ := tr_ok h
  exact ho_zret C hR hz h dX12_isWatcher_13
theorem dX12_timesOf_0 : decode cX12_timesOf 0 = .ok (.aload_n 0, 1) := by decide +kernel
theorem dX12_timesOf_1 : decode cX12_timesOf 1 = .ok (.getfield 139, 3) := by decide +kernel
theorem dX12_timesOf_4 : decode cX12_timesOf 4 = .ok (.bipush 9, 2) := by decide +kernel
theorem dX12_timesOf_6 : decode cX12_timesOf 6 = .ok (.iload_n 1, 1) := by decide +kernel
theorem dX12_timesOf_7 : decode cX12_timesOf 7 = .ok (.iadd, 1) := by decide +kernel
theorem dX12_timesOf_8 : decode cX12_timesOf 8 = .ok (.iaload, 1) := by decide +kernel
theorem dX12_timesOf_9 : decode cX12_timesOf 9 = .ok (.ireturn, 1) := by decide +kernel
def f_X12_timesOf (x1 : Int32) (S : Hp) : Option (Int32 × Hp) :=
  ldI S 55 117 ((9 : Int32) + x1) (fun v1 => some (v1, S))
set_option maxHeartbeats 4000000 in
set_option maxRecDepth 100000 in
theorem c_X12_timesOf (l : Launch) (E : Ev) (x1 : Int32) (S : Hp) (r : (Int32 × Hp)) (h : f_X12_timesOf x1 S = some r) : ho_M l yM E yX12_timesOf cX12_timesOf 2 (some .int) 0 [.ref (E.2.1 0), .int x1] S (some (.int r.1), r.2) := by
  refine ho_in (by decide) (Nat.le_of_ble_eq_true rfl) ?_
  intro p e s m args below meth c C hR ls hl
  have C : ho_I p s m args meth c RX12 cX12_timesOf 2 (some .int) := C
  have hl : lv_has ls 2 [(0, .ref (E.2.1 0)), (1, .int x1)] := hl
  unfold f_X12_timesOf at h
  refine lv_aload_n C.1 C.2.1 dX12_timesOf_0 rfl (lv_at hl 0 rfl) ?_
  refine ho_getR (a' := 55) C cf12 fM_139 hR aM_0 rfl dX12_timesOf_1 ?_
  refine lv_bipush (v := (9 : Int32)) C.1 C.2.1 dX12_timesOf_4 (by decide) ?_
  refine lv_iload_n C.1 C.2.1 dX12_timesOf_6 rfl (lv_at hl 1 rfl) ?_
  refine lv_iadd C.1 C.2.1 dX12_timesOf_7 ?_
  obtain ⟨v1, e1, hi1, h⟩ := ldI_ok h
  refine hr_ild C hR aM_55 hi1 e1 dX12_timesOf_8 ?_
  exact ho_iret C hR h dX12_timesOf_9
theorem dX12_knownOf_0 : decode cX12_knownOf 0 = .ok (.aload_n 0, 1) := by decide +kernel
theorem dX12_knownOf_1 : decode cX12_knownOf 1 = .ok (.getfield 139, 3) := by decide +kernel
theorem dX12_knownOf_4 : decode cX12_knownOf 4 = .ok (.bipush 15, 2) := by decide +kernel
theorem dX12_knownOf_6 : decode cX12_knownOf 6 = .ok (.iload_n 1, 1) := by decide +kernel
theorem dX12_knownOf_7 : decode cX12_knownOf 7 = .ok (.iadd, 1) := by decide +kernel
theorem dX12_knownOf_8 : decode cX12_knownOf 8 = .ok (.iaload, 1) := by decide +kernel
theorem dX12_knownOf_9 : decode cX12_knownOf 9 = .ok (.ireturn, 1) := by decide +kernel
def f_X12_knownOf (x1 : Int32) (S : Hp) : Option (Int32 × Hp) :=
  ldI S 55 117 ((15 : Int32) + x1) (fun v1 => some (v1, S))
set_option maxHeartbeats 4000000 in
set_option maxRecDepth 100000 in
theorem c_X12_knownOf (l : Launch) (E : Ev) (x1 : Int32) (S : Hp) (r : (Int32 × Hp)) (h : f_X12_knownOf x1 S = some r) : ho_M l yM E yX12_knownOf cX12_knownOf 2 (some .int) 0 [.ref (E.2.1 0), .int x1] S (some (.int r.1), r.2) := by
  refine ho_in (by decide) (Nat.le_of_ble_eq_true rfl) ?_
  intro p e s m args below meth c C hR ls hl
  have C : ho_I p s m args meth c RX12 cX12_knownOf 2 (some .int) := C
  have hl : lv_has ls 2 [(0, .ref (E.2.1 0)), (1, .int x1)] := hl
  unfold f_X12_knownOf at h
  refine lv_aload_n C.1 C.2.1 dX12_knownOf_0 rfl (lv_at hl 0 rfl) ?_
  refine ho_getR (a' := 55) C cf12 fM_139 hR aM_0 rfl dX12_knownOf_1 ?_
  refine lv_bipush (v := (15 : Int32)) C.1 C.2.1 dX12_knownOf_4 (by decide) ?_
  refine lv_iload_n C.1 C.2.1 dX12_knownOf_6 rfl (lv_at hl 1 rfl) ?_
  refine lv_iadd C.1 C.2.1 dX12_knownOf_7 ?_
  obtain ⟨v1, e1, hi1, h⟩ := ldI_ok h
  refine hr_ild C hR aM_55 hi1 e1 dX12_knownOf_8 ?_
  exact ho_iret C hR h dX12_knownOf_9
theorem dX12_seatOf_0 : decode cX12_seatOf 0 = .ok (.aload_n 0, 1) := by decide +kernel
theorem dX12_seatOf_1 : decode cX12_seatOf 1 = .ok (.getfield 139, 3) := by decide +kernel
theorem dX12_seatOf_4 : decode cX12_seatOf 4 = .ok (.bipush 21, 2) := by decide +kernel
theorem dX12_seatOf_6 : decode cX12_seatOf 6 = .ok (.iload_n 1, 1) := by decide +kernel
theorem dX12_seatOf_7 : decode cX12_seatOf 7 = .ok (.iadd, 1) := by decide +kernel
theorem dX12_seatOf_8 : decode cX12_seatOf 8 = .ok (.iaload, 1) := by decide +kernel
theorem dX12_seatOf_9 : decode cX12_seatOf 9 = .ok (.ireturn, 1) := by decide +kernel
def f_X12_seatOf (x1 : Int32) (S : Hp) : Option (Int32 × Hp) :=
  ldI S 55 117 ((21 : Int32) + x1) (fun v1 => some (v1, S))
set_option maxHeartbeats 4000000 in
set_option maxRecDepth 100000 in
theorem c_X12_seatOf (l : Launch) (E : Ev) (x1 : Int32) (S : Hp) (r : (Int32 × Hp)) (h : f_X12_seatOf x1 S = some r) : ho_M l yM E yX12_seatOf cX12_seatOf 2 (some .int) 0 [.ref (E.2.1 0), .int x1] S (some (.int r.1), r.2) := by
  refine ho_in (by decide) (Nat.le_of_ble_eq_true rfl) ?_
  intro p e s m args below meth c C hR ls hl
  have C : ho_I p s m args meth c RX12 cX12_seatOf 2 (some .int) := C
  have hl : lv_has ls 2 [(0, .ref (E.2.1 0)), (1, .int x1)] := hl
  unfold f_X12_seatOf at h
  refine lv_aload_n C.1 C.2.1 dX12_seatOf_0 rfl (lv_at hl 0 rfl) ?_
  refine ho_getR (a' := 55) C cf12 fM_139 hR aM_0 rfl dX12_seatOf_1 ?_
  refine lv_bipush (v := (21 : Int32)) C.1 C.2.1 dX12_seatOf_4 (by decide) ?_
  refine lv_iload_n C.1 C.2.1 dX12_seatOf_6 rfl (lv_at hl 1 rfl) ?_
  refine lv_iadd C.1 C.2.1 dX12_seatOf_7 ?_
  obtain ⟨v1, e1, hi1, h⟩ := ldI_ok h
  refine hr_ild C hR aM_55 hi1 e1 dX12_seatOf_8 ?_
  exact ho_iret C hR h dX12_seatOf_9
theorem dX12_qPuts_0 : decode cX12_qPuts 0 = .ok (.aload_n 0, 1) := by decide +kernel
theorem dX12_qPuts_1 : decode cX12_qPuts 1 = .ok (.getfield 255, 3) := by decide +kernel
theorem dX12_qPuts_4 : decode cX12_qPuts 4 = .ok (.aload_n 0, 1) := by decide +kernel
theorem dX12_qPuts_5 : decode cX12_qPuts 5 = .ok (.getfield 416, 3) := by decide +kernel
theorem dX12_qPuts_8 : decode cX12_qPuts 8 = .ok (.lload_n 1, 1) := by decide +kernel
theorem dX12_qPuts_9 : decode cX12_qPuts 9 = .ok (.lastore, 1) := by decide +kernel
theorem dX12_qPuts_10 : decode cX12_qPuts 10 = .ok (.aload_n 0, 1) := by decide +kernel
theorem dX12_qPuts_11 : decode cX12_qPuts 11 = .ok (.dup, 1) := by decide +kernel
theorem dX12_qPuts_12 : decode cX12_qPuts 12 = .ok (.getfield 416, 3) := by decide +kernel
theorem dX12_qPuts_15 : decode cX12_qPuts 15 = .ok (.iconst 1, 1) := by decide +kernel
theorem dX12_qPuts_16 : decode cX12_qPuts 16 = .ok (.iadd, 1) := by decide +kernel
theorem dX12_qPuts_17 : decode cX12_qPuts 17 = .ok (.putfield 416, 3) := by decide +kernel
theorem dX12_qPuts_20 : decode cX12_qPuts 20 = .ok (.return_, 1) := by decide +kernel
def f_X12_qPuts (x1 : Int64) (S : Hp) : Option Hp :=
  stJ S 106 1700 (S.1 0 106) x1 (fun S1 => le1 (ho_sI S1 0 106 ((S1.1 0 106) + (1 : Int32))) (fun S2 => some S2))
set_option maxHeartbeats 4000000 in
set_option maxRecDepth 100000 in
theorem c_X12_qPuts (l : Launch) (E : Ev) (x1 : Int64) (S : Hp) (r : Hp) (h : f_X12_qPuts x1 S = some r) : ho_M l yM E yX12_qPuts cX12_qPuts 3 none 0 [.ref (E.2.1 0), .long x1] S (none, r) := by
  refine ho_in (by decide) (Nat.le_of_ble_eq_true rfl) ?_
  intro p e s m args below meth c C hR ls hl
  have C : ho_I p s m args meth c RX12 cX12_qPuts 3 none := C
  have hl : lv_has ls 3 [(0, .ref (E.2.1 0)), (1, .long x1)] := hl
  unfold f_X12_qPuts at h
  refine lv_aload_n C.1 C.2.1 dX12_qPuts_0 rfl (lv_at hl 0 rfl) ?_
  refine ho_getR (a' := 106) C cf12 fM_255 hR aM_0 rfl dX12_qPuts_1 ?_
  refine lv_aload_n C.1 C.2.1 dX12_qPuts_4 rfl (lv_at hl 0 rfl) ?_
  refine ho_getI C cf12 fM_416 hR aM_0 dX12_qPuts_5 ?_
  refine lv_lload_n C.1 C.2.1 dX12_qPuts_8 rfl (lv_at hl 1 rfl) ?_
  obtain ⟨S1, e1, hi1, h⟩ := stJ_ok h
  refine hr_lst C hR aM_106 hi1 e1 dX12_qPuts_9 (fun H locs hR => ?_)
  refine lv_aload_n C.1 C.2.1 dX12_qPuts_10 rfl (lv_at hl 0 rfl) ?_
  refine lv_dup C.1 C.2.1 dX12_qPuts_11 rfl ?_
  refine ho_getI C cf12 fM_416 hR aM_0 dX12_qPuts_12 ?_
  refine lv_iconst (v := (1 : Int32)) C.1 C.2.1 dX12_qPuts_15 (by decide) ?_
  refine lv_iadd C.1 C.2.1 dX12_qPuts_16 ?_
  obtain ⟨S2, e2, h⟩ := le1_ok h
  refine hr_putI C cf12 fM_416 hR aM_0 e2 dX12_qPuts_17 (fun H locs hR => ?_)
  exact ho_vret C hR h dX12_qPuts_20
theorem dX12_qPartOf_0 : decode cX12_qPartOf 0 = .ok (.iload_n 1, 1) := by decide +kernel
theorem dX12_qPartOf_1 : decode cX12_qPartOf 1 = .ok (.tableswitch 139 0 9 #[55, 68, 75, 83, 89, 95, 108, 116, 119, 126], 55) := by decide +kernel
theorem dX12_qPartOf_56 : decode cX12_qPartOf 56 = .ok (.aload_n 0, 1) := by decide +kernel
theorem dX12_qPartOf_57 : decode cX12_qPartOf 57 = .ok (.getfield 121, 3) := by decide +kernel
theorem dX12_qPartOf_60 : decode cX12_qPartOf 60 = .ok (.bipush 20, 2) := by decide +kernel
theorem dX12_qPartOf_62 : decode cX12_qPartOf 62 = .ok (.iconst 3, 1) := by decide +kernel
theorem dX12_qPartOf_63 : decode cX12_qPartOf 63 = .ok (.iload_n 2, 1) := by decide +kernel
theorem dX12_qPartOf_64 : decode cX12_qPartOf 64 = .ok (.imul, 1) := by decide +kernel
theorem dX12_qPartOf_65 : decode cX12_qPartOf 65 = .ok (.iadd, 1) := by decide +kernel
theorem dX12_qPartOf_66 : decode cX12_qPartOf 66 = .ok (.iaload, 1) := by decide +kernel
theorem dX12_qPartOf_67 : decode cX12_qPartOf 67 = .ok (.i2l, 1) := by decide +kernel
theorem dX12_qPartOf_68 : decode cX12_qPartOf 68 = .ok (.lreturn, 1) := by decide +kernel
theorem dX12_qPartOf_69 : decode cX12_qPartOf 69 = .ok (.aload_n 0, 1) := by decide +kernel
theorem dX12_qPartOf_70 : decode cX12_qPartOf 70 = .ok (.iload_n 2, 1) := by decide +kernel
theorem dX12_qPartOf_71 : decode cX12_qPartOf 71 = .ok (.invokevirtual 536, 3) := by decide +kernel
theorem dX12_qPartOf_74 : decode cX12_qPartOf 74 = .ok (.i2l, 1) := by decide +kernel
theorem dX12_qPartOf_75 : decode cX12_qPartOf 75 = .ok (.lreturn, 1) := by decide +kernel
theorem dX12_qPartOf_76 : decode cX12_qPartOf 76 = .ok (.aload_n 0, 1) := by decide +kernel
theorem dX12_qPartOf_77 : decode cX12_qPartOf 77 = .ok (.getfield 139, 3) := by decide +kernel
theorem dX12_qPartOf_80 : decode cX12_qPartOf 80 = .ok (.iconst 0, 1) := by decide +kernel
theorem dX12_qPartOf_81 : decode cX12_qPartOf 81 = .ok (.iaload, 1) := by decide +kernel
theorem dX12_qPartOf_82 : decode cX12_qPartOf 82 = .ok (.i2l, 1) := by decide +kernel
theorem dX12_qPartOf_83 : decode cX12_qPartOf 83 = .ok (.lreturn, 1) := by decide +kernel
theorem dX12_qPartOf_84 : decode cX12_qPartOf 84 = .ok (.aload_n 0, 1) := by decide +kernel
theorem dX12_qPartOf_85 : decode cX12_qPartOf 85 = .ok (.getfield 430, 3) := by decide +kernel
theorem dX12_qPartOf_88 : decode cX12_qPartOf 88 = .ok (.i2l, 1) := by decide +kernel
theorem dX12_qPartOf_89 : decode cX12_qPartOf 89 = .ok (.lreturn, 1) := by decide +kernel
theorem dX12_qPartOf_90 : decode cX12_qPartOf 90 = .ok (.aload_n 0, 1) := by decide +kernel
theorem dX12_qPartOf_91 : decode cX12_qPartOf 91 = .ok (.getfield 433, 3) := by decide +kernel
theorem dX12_qPartOf_94 : decode cX12_qPartOf 94 = .ok (.i2l, 1) := by decide +kernel
theorem dX12_qPartOf_95 : decode cX12_qPartOf 95 = .ok (.lreturn, 1) := by decide +kernel
theorem dX12_qPartOf_96 : decode cX12_qPartOf 96 = .ok (.aload_n 0, 1) := by decide +kernel
theorem dX12_qPartOf_97 : decode cX12_qPartOf 97 = .ok (.getfield 121, 3) := by decide +kernel
theorem dX12_qPartOf_100 : decode cX12_qPartOf 100 = .ok (.bipush 18, 2) := by decide +kernel
theorem dX12_qPartOf_102 : decode cX12_qPartOf 102 = .ok (.iconst 3, 1) := by decide +kernel
theorem dX12_qPartOf_103 : decode cX12_qPartOf 103 = .ok (.iload_n 2, 1) := by decide +kernel
theorem dX12_qPartOf_104 : decode cX12_qPartOf 104 = .ok (.imul, 1) := by decide +kernel
theorem dX12_qPartOf_105 : decode cX12_qPartOf 105 = .ok (.iadd, 1) := by decide +kernel
theorem dX12_qPartOf_106 : decode cX12_qPartOf 106 = .ok (.iaload, 1) := by decide +kernel
theorem dX12_qPartOf_107 : decode cX12_qPartOf 107 = .ok (.i2l, 1) := by decide +kernel
theorem dX12_qPartOf_108 : decode cX12_qPartOf 108 = .ok (.lreturn, 1) := by decide +kernel
theorem dX12_qPartOf_109 : decode cX12_qPartOf 109 = .ok (.aload_n 0, 1) := by decide +kernel
theorem dX12_qPartOf_110 : decode cX12_qPartOf 110 = .ok (.getfield 139, 3) := by decide +kernel
theorem dX12_qPartOf_113 : decode cX12_qPartOf 113 = .ok (.iconst 2, 1) := by decide +kernel
theorem dX12_qPartOf_114 : decode cX12_qPartOf 114 = .ok (.iaload, 1) := by decide +kernel
theorem dX12_qPartOf_115 : decode cX12_qPartOf 115 = .ok (.i2l, 1) := by decide +kernel
theorem dX12_qPartOf_116 : decode cX12_qPartOf 116 = .ok (.lreturn, 1) := by decide +kernel
theorem dX12_qPartOf_117 : decode cX12_qPartOf 117 = .ok (.iload_n 2, 1) := by decide +kernel
theorem dX12_qPartOf_118 : decode cX12_qPartOf 118 = .ok (.i2l, 1) := by decide +kernel
theorem dX12_qPartOf_119 : decode cX12_qPartOf 119 = .ok (.lreturn, 1) := by decide +kernel
theorem dX12_qPartOf_120 : decode cX12_qPartOf 120 = .ok (.aload_n 0, 1) := by decide +kernel
theorem dX12_qPartOf_121 : decode cX12_qPartOf 121 = .ok (.iload_n 2, 1) := by decide +kernel
theorem dX12_qPartOf_122 : decode cX12_qPartOf 122 = .ok (.invokevirtual 449, 3) := by decide +kernel
theorem dX12_qPartOf_125 : decode cX12_qPartOf 125 = .ok (.i2l, 1) := by decide +kernel
theorem dX12_qPartOf_126 : decode cX12_qPartOf 126 = .ok (.lreturn, 1) := by decide +kernel
theorem dX12_qPartOf_127 : decode cX12_qPartOf 127 = .ok (.aload_n 0, 1) := by decide +kernel
theorem dX12_qPartOf_128 : decode cX12_qPartOf 128 = .ok (.getfield 145, 3) := by decide +kernel
theorem dX12_qPartOf_131 : decode cX12_qPartOf 131 = .ok (.bipush 6, 2) := by decide +kernel
theorem dX12_qPartOf_133 : decode cX12_qPartOf 133 = .ok (.iload_n 2, 1) := by decide +kernel
theorem dX12_qPartOf_134 : decode cX12_qPartOf 134 = .ok (.imul, 1) := by decide +kernel
theorem dX12_qPartOf_135 : decode cX12_qPartOf 135 = .ok (.iconst 5, 1) := by decide +kernel
theorem dX12_qPartOf_136 : decode cX12_qPartOf 136 = .ok (.iadd, 1) := by decide +kernel
theorem dX12_qPartOf_137 : decode cX12_qPartOf 137 = .ok (.iaload, 1) := by decide +kernel
theorem dX12_qPartOf_138 : decode cX12_qPartOf 138 = .ok (.i2l, 1) := by decide +kernel
theorem dX12_qPartOf_139 : decode cX12_qPartOf 139 = .ok (.lreturn, 1) := by decide +kernel
theorem dX12_qPartOf_140 : decode cX12_qPartOf 140 = .ok (.aload_n 0, 1) := by decide +kernel
theorem dX12_qPartOf_141 : decode cX12_qPartOf 141 = .ok (.getfield 139, 3) := by decide +kernel
theorem dX12_qPartOf_144 : decode cX12_qPartOf 144 = .ok (.iconst 3, 1) := by decide +kernel
theorem dX12_qPartOf_145 : decode cX12_qPartOf 145 = .ok (.aload_n 0, 1) := by decide +kernel
theorem dX12_qPartOf_146 : decode cX12_qPartOf 146 = .ok (.getfield 121, 3) := by decide +kernel
theorem dX12_qPartOf_149 : decode cX12_qPartOf 149 = .ok (.bipush 19, 2) := by decide +kernel
theorem dX12_qPartOf_151 : decode cX12_qPartOf 151 = .ok (.iconst 3, 1) := by decide +kernel
theorem dX12_qPartOf_152 : decode cX12_qPartOf 152 = .ok (.iload_n 2, 1) := by decide +kernel
theorem dX12_qPartOf_153 : decode cX12_qPartOf 153 = .ok (.imul, 1) := by decide +kernel
theorem dX12_qPartOf_154 : decode cX12_qPartOf 154 = .ok (.iadd, 1) := by decide +kernel
theorem dX12_qPartOf_155 : decode cX12_qPartOf 155 = .ok (.iaload, 1) := by decide +kernel
theorem dX12_qPartOf_156 : decode cX12_qPartOf 156 = .ok (.iadd, 1) := by decide +kernel
theorem dX12_qPartOf_157 : decode cX12_qPartOf 157 = .ok (.iaload, 1) := by decide +kernel
theorem dX12_qPartOf_158 : decode cX12_qPartOf 158 = .ok (.i2l, 1) := by decide +kernel
theorem dX12_qPartOf_159 : decode cX12_qPartOf 159 = .ok (.lreturn, 1) := by decide +kernel
def f_X12_qPartOf (x1 : Int32) (x2 : Int32) (S : Hp) : Option (Int64 × Hp) :=
  if x1 = (0 : Int32) then ldI S 45 36 ((20 : Int32) + ((3 : Int32) * x2)) (fun v1 => some ((v1.toInt64), S)) else if x1 = (1 : Int32) then ob2 (f_X12_timesOf x2 S) (fun r2 S2 => some ((r2.toInt64), S2)) else if x1 = (2 : Int32) then ldI S 55 117 (0 : Int32) (fun v3 => some ((v3.toInt64), S)) else if x1 = (3 : Int32) then some (((S.1 0 56).toInt64), S) else if x1 = (4 : Int32) then some (((S.1 0 57).toInt64), S) else if x1 = (5 : Int32) then ldI S 45 36 ((18 : Int32) + ((3 : Int32) * x2)) (fun v4 => some ((v4.toInt64), S)) else if x1 = (6 : Int32) then ldI S 55 117 (2 : Int32) (fun v5 => some ((v5.toInt64), S)) else if x1 = (7 : Int32) then some ((x2.toInt64), S) else if x1 = (8 : Int32) then ob2 (f_X12_knownOf x2 S) (fun r6 S6 => some ((r6.toInt64), S6)) else if x1 = (9 : Int32) then ldI S 59 36 (((6 : Int32) * x2) + (5 : Int32)) (fun v7 => some ((v7.toInt64), S)) else ldI S 45 36 ((19 : Int32) + ((3 : Int32) * x2)) (fun v8 => ldI S 55 117 ((3 : Int32) + v8) (fun v9 => some ((v9.toInt64), S)))
set_option maxHeartbeats 4000000 in
set_option maxRecDepth 100000 in
theorem c_X12_qPartOf (l : Launch) (E : Ev) (x1 : Int32) (x2 : Int32) (S : Hp) (r : (Int64 × Hp)) (h : f_X12_qPartOf x1 x2 S = some r) : ho_M l yM E yX12_qPartOf cX12_qPartOf 3 (some .long) 1 [.ref (E.2.1 0), .int x1, .int x2] S (some (.long r.1), r.2) := by
  refine ho_in (by decide) (Nat.le_of_ble_eq_true rfl) ?_
  intro p e s m args below meth c C hR ls hl
  have C : ho_I p s m args meth c RX12 cX12_qPartOf 3 (some .long) := C
  have hl : lv_has ls 3 [(0, .ref (E.2.1 0)), (1, .int x1), (2, .int x2)] := hl
  unfold f_X12_qPartOf at h
  refine lv_iload_n C.1 C.2.1 dX12_qPartOf_0 rfl (lv_at hl 1 rfl) ?_
  by_cases hc0 : x1 = (0 : Int32)
  · replace h := if_t h hc0
    have hx : (x1).toInt = 0 := by rw [hc0]; decide
    refine lv_tableIn (off := 55) (tgt := 56) C.1 C.2.1 dX12_qPartOf_1 (by rw [hx]; decide) (by rw [hx]; decide) (by rw [hx]; decide) (by decide) ?_
    refine lv_aload_n C.1 C.2.1 dX12_qPartOf_56 rfl (lv_at hl 0 rfl) ?_
    refine ho_getR (a' := 45) C cf12 fM_121 hR aM_0 rfl dX12_qPartOf_57 ?_
    refine lv_bipush (v := (20 : Int32)) C.1 C.2.1 dX12_qPartOf_60 (by decide) ?_
    refine lv_iconst (v := (3 : Int32)) C.1 C.2.1 dX12_qPartOf_62 (by decide) ?_
    refine lv_iload_n C.1 C.2.1 dX12_qPartOf_63 rfl (lv_at hl 2 rfl) ?_
    refine lv_imul C.1 C.2.1 dX12_qPartOf_64 ?_
    refine lv_iadd C.1 C.2.1 dX12_qPartOf_65 ?_
    obtain ⟨v1, e1, hi1, h⟩ := ldI_ok h
    refine hr_ild C hR aM_45 hi1 e1 dX12_qPartOf_66 ?_
    refine lv_i2l (v := (v1.toInt64)) C.1 C.2.1 dX12_qPartOf_67 rfl ?_
    exact ho_lret C hR h dX12_qPartOf_68
  · replace h := if_f h hc0
    by_cases hc1 : x1 = (1 : Int32)
    · replace h := if_t h hc1
      have hx : (x1).toInt = 1 := by rw [hc1]; decide
      refine lv_tableIn (off := 68) (tgt := 69) C.1 C.2.1 dX12_qPartOf_1 (by rw [hx]; decide) (by rw [hx]; decide) (by rw [hx]; decide) (by decide) ?_
      refine lv_aload_n C.1 C.2.1 dX12_qPartOf_69 rfl (lv_at hl 0 rfl) ?_
      refine lv_iload_n C.1 C.2.1 dX12_qPartOf_70 rfl (lv_at hl 2 rfl) ?_
      obtain ⟨r2, S2, h2, h⟩ := ob2_ok h
      refine hr_Vi (v := r2) (S' := S2) (As := [.int x2]) (rest := []) C cf12 (c_X12_timesOf l E x2 _ _ h2) yv_X12_timesOf lk_RX12_536 rfl aM_0 rfl rfl hl.1 (Nat.le_of_ble_eq_true rfl) (by decide) (by decide) hR (ho_A hR) dX12_qPartOf_71 (fun H locs hR => ?_)
      refine lv_i2l (v := (r2.toInt64)) C.1 C.2.1 dX12_qPartOf_74 rfl ?_
      exact ho_lret C hR h dX12_qPartOf_75
    · replace h := if_f h hc1
      by_cases hc2 : x1 = (2 : Int32)
      · replace h := if_t h hc2
        have hx : (x1).toInt = 2 := by rw [hc2]; decide
        refine lv_tableIn (off := 75) (tgt := 76) C.1 C.2.1 dX12_qPartOf_1 (by rw [hx]; decide) (by rw [hx]; decide) (by rw [hx]; decide) (by decide) ?_
        refine lv_aload_n C.1 C.2.1 dX12_qPartOf_76 rfl (lv_at hl 0 rfl) ?_
        refine ho_getR (a' := 55) C cf12 fM_139 hR aM_0 rfl dX12_qPartOf_77 ?_
        refine lv_iconst (v := (0 : Int32)) C.1 C.2.1 dX12_qPartOf_80 (by decide) ?_
        obtain ⟨v3, e3, hi3, h⟩ := ldI_ok h
        refine hr_ild C hR aM_55 hi3 e3 dX12_qPartOf_81 ?_
        refine lv_i2l (v := (v3.toInt64)) C.1 C.2.1 dX12_qPartOf_82 rfl ?_
        exact ho_lret C hR h dX12_qPartOf_83
      · replace h := if_f h hc2
        by_cases hc3 : x1 = (3 : Int32)
        · replace h := if_t h hc3
          have hx : (x1).toInt = 3 := by rw [hc3]; decide
          refine lv_tableIn (off := 83) (tgt := 84) C.1 C.2.1 dX12_qPartOf_1 (by rw [hx]; decide) (by rw [hx]; decide) (by rw [hx]; decide) (by decide) ?_
          refine lv_aload_n C.1 C.2.1 dX12_qPartOf_84 rfl (lv_at hl 0 rfl) ?_
          refine ho_getI C cf12 fM_430 hR aM_0 dX12_qPartOf_85 ?_
          refine lv_i2l (v := ((S.1 0 56).toInt64)) C.1 C.2.1 dX12_qPartOf_88 rfl ?_
          exact ho_lret C hR h dX12_qPartOf_89
        · replace h := if_f h hc3
          by_cases hc4 : x1 = (4 : Int32)
          · replace h := if_t h hc4
            have hx : (x1).toInt = 4 := by rw [hc4]; decide
            refine lv_tableIn (off := 89) (tgt := 90) C.1 C.2.1 dX12_qPartOf_1 (by rw [hx]; decide) (by rw [hx]; decide) (by rw [hx]; decide) (by decide) ?_
            refine lv_aload_n C.1 C.2.1 dX12_qPartOf_90 rfl (lv_at hl 0 rfl) ?_
            refine ho_getI C cf12 fM_433 hR aM_0 dX12_qPartOf_91 ?_
            refine lv_i2l (v := ((S.1 0 57).toInt64)) C.1 C.2.1 dX12_qPartOf_94 rfl ?_
            exact ho_lret C hR h dX12_qPartOf_95
          · replace h := if_f h hc4
            by_cases hc5 : x1 = (5 : Int32)
            · replace h := if_t h hc5
              have hx : (x1).toInt = 5 := by rw [hc5]; decide
              refine lv_tableIn (off := 95) (tgt := 96) C.1 C.2.1 dX12_qPartOf_1 (by rw [hx]; decide) (by rw [hx]; decide) (by rw [hx]; decide) (by decide) ?_
              refine lv_aload_n C.1 C.2.1 dX12_qPartOf_96 rfl (lv_at hl 0 rfl) ?_
              refine ho_getR (a' := 45) C cf12 fM_121 hR aM_0 rfl dX12_qPartOf_97 ?_
              refine lv_bipush (v := (18 : Int32)) C.1 C.2.1 dX12_qPartOf_100 (by decide) ?_
              refine lv_iconst (v := (3 : Int32)) C.1 C.2.1 dX12_qPartOf_102 (by decide) ?_
              refine lv_iload_n C.1 C.2.1 dX12_qPartOf_103 rfl (lv_at hl 2 rfl) ?_
              refine lv_imul C.1 C.2.1 dX12_qPartOf_104 ?_
              refine lv_iadd C.1 C.2.1 dX12_qPartOf_105 ?_
              obtain ⟨v4, e4, hi4, h⟩ := ldI_ok h
              refine hr_ild C hR aM_45 hi4 e4 dX12_qPartOf_106 ?_
              refine lv_i2l (v := (v4.toInt64)) C.1 C.2.1 dX12_qPartOf_107 rfl ?_
              exact ho_lret C hR h dX12_qPartOf_108
            · replace h := if_f h hc5
              by_cases hc6 : x1 = (6 : Int32)
              · replace h := if_t h hc6
                have hx : (x1).toInt = 6 := by rw [hc6]; decide
                refine lv_tableIn (off := 108) (tgt := 109) C.1 C.2.1 dX12_qPartOf_1 (by rw [hx]; decide) (by rw [hx]; decide) (by rw [hx]; decide) (by decide) ?_
                refine lv_aload_n C.1 C.2.1 dX12_qPartOf_109 rfl (lv_at hl 0 rfl) ?_
                refine ho_getR (a' := 55) C cf12 fM_139 hR aM_0 rfl dX12_qPartOf_110 ?_
                refine lv_iconst (v := (2 : Int32)) C.1 C.2.1 dX12_qPartOf_113 (by decide) ?_
                obtain ⟨v5, e5, hi5, h⟩ := ldI_ok h
                refine hr_ild C hR aM_55 hi5 e5 dX12_qPartOf_114 ?_
                refine lv_i2l (v := (v5.toInt64)) C.1 C.2.1 dX12_qPartOf_115 rfl ?_
                exact ho_lret C hR h dX12_qPartOf_116
              · replace h := if_f h hc6
                by_cases hc7 : x1 = (7 : Int32)
                · replace h := if_t h hc7
                  have hx : (x1).toInt = 7 := by rw [hc7]; decide
                  refine lv_tableIn (off := 116) (tgt := 117) C.1 C.2.1 dX12_qPartOf_1 (by rw [hx]; decide) (by rw [hx]; decide) (by rw [hx]; decide) (by decide) ?_
                  refine lv_iload_n C.1 C.2.1 dX12_qPartOf_117 rfl (lv_at hl 2 rfl) ?_
                  refine lv_i2l (v := (x2.toInt64)) C.1 C.2.1 dX12_qPartOf_118 rfl ?_
                  exact ho_lret C hR h dX12_qPartOf_119
                · replace h := if_f h hc7
                  by_cases hc8 : x1 = (8 : Int32)
                  · replace h := if_t h hc8
                    have hx : (x1).toInt = 8 := by rw [hc8]; decide
                    refine lv_tableIn (off := 119) (tgt := 120) C.1 C.2.1 dX12_qPartOf_1 (by rw [hx]; decide) (by rw [hx]; decide) (by rw [hx]; decide) (by decide) ?_
                    refine lv_aload_n C.1 C.2.1 dX12_qPartOf_120 rfl (lv_at hl 0 rfl) ?_
                    refine lv_iload_n C.1 C.2.1 dX12_qPartOf_121 rfl (lv_at hl 2 rfl) ?_
                    obtain ⟨r6, S6, h6, h⟩ := ob2_ok h
                    refine hr_Vi (v := r6) (S' := S6) (As := [.int x2]) (rest := []) C cf12 (c_X12_knownOf l E x2 _ _ h6) yv_X12_knownOf lk_RX12_449 rfl aM_0 rfl rfl hl.1 (Nat.le_of_ble_eq_true rfl) (by decide) (by decide) hR (ho_A hR) dX12_qPartOf_122 (fun H locs hR => ?_)
                    refine lv_i2l (v := (r6.toInt64)) C.1 C.2.1 dX12_qPartOf_125 rfl ?_
                    exact ho_lret C hR h dX12_qPartOf_126
                  · replace h := if_f h hc8
                    by_cases hc9 : x1 = (9 : Int32)
                    · replace h := if_t h hc9
                      have hx : (x1).toInt = 9 := by rw [hc9]; decide
                      refine lv_tableIn (off := 126) (tgt := 127) C.1 C.2.1 dX12_qPartOf_1 (by rw [hx]; decide) (by rw [hx]; decide) (by rw [hx]; decide) (by decide) ?_
                      refine lv_aload_n C.1 C.2.1 dX12_qPartOf_127 rfl (lv_at hl 0 rfl) ?_
                      refine ho_getR (a' := 59) C cf12 fM_145 hR aM_0 rfl dX12_qPartOf_128 ?_
                      refine lv_bipush (v := (6 : Int32)) C.1 C.2.1 dX12_qPartOf_131 (by decide) ?_
                      refine lv_iload_n C.1 C.2.1 dX12_qPartOf_133 rfl (lv_at hl 2 rfl) ?_
                      refine lv_imul C.1 C.2.1 dX12_qPartOf_134 ?_
                      refine lv_iconst (v := (5 : Int32)) C.1 C.2.1 dX12_qPartOf_135 (by decide) ?_
                      refine lv_iadd C.1 C.2.1 dX12_qPartOf_136 ?_
                      obtain ⟨v7, e7, hi7, h⟩ := ldI_ok h
                      refine hr_ild C hR aM_59 hi7 e7 dX12_qPartOf_137 ?_
                      refine lv_i2l (v := (v7.toInt64)) C.1 C.2.1 dX12_qPartOf_138 rfl ?_
                      exact ho_lret C hR h dX12_qPartOf_139
                    · replace h := if_f h hc9
                      have hx0 := lv_neT hc0 (a := 0) (by decide)
                      have hx1 := lv_neT hc1 (a := 1) (by decide)
                      have hx2 := lv_neT hc2 (a := 2) (by decide)
                      have hx3 := lv_neT hc3 (a := 3) (by decide)
                      have hx4 := lv_neT hc4 (a := 4) (by decide)
                      have hx5 := lv_neT hc5 (a := 5) (by decide)
                      have hx6 := lv_neT hc6 (a := 6) (by decide)
                      have hx7 := lv_neT hc7 (a := 7) (by decide)
                      have hx8 := lv_neT hc8 (a := 8) (by decide)
                      have hx9 := lv_neT hc9 (a := 9) (by decide)
                      refine lv_tableOut (tgt := 140) C.1 C.2.1 dX12_qPartOf_1 (by omega) (by decide) ?_
                      refine lv_aload_n C.1 C.2.1 dX12_qPartOf_140 rfl (lv_at hl 0 rfl) ?_
                      refine ho_getR (a' := 55) C cf12 fM_139 hR aM_0 rfl dX12_qPartOf_141 ?_
                      refine lv_iconst (v := (3 : Int32)) C.1 C.2.1 dX12_qPartOf_144 (by decide) ?_
                      refine lv_aload_n C.1 C.2.1 dX12_qPartOf_145 rfl (lv_at hl 0 rfl) ?_
                      refine ho_getR (a' := 45) C cf12 fM_121 hR aM_0 rfl dX12_qPartOf_146 ?_
                      refine lv_bipush (v := (19 : Int32)) C.1 C.2.1 dX12_qPartOf_149 (by decide) ?_
                      refine lv_iconst (v := (3 : Int32)) C.1 C.2.1 dX12_qPartOf_151 (by decide) ?_
                      refine lv_iload_n C.1 C.2.1 dX12_qPartOf_152 rfl (lv_at hl 2 rfl) ?_
                      refine lv_imul C.1 C.2.1 dX12_qPartOf_153 ?_
                      refine lv_iadd C.1 C.2.1 dX12_qPartOf_154 ?_
                      obtain ⟨v8, e8, hi8, h⟩ := ldI_ok h
                      refine hr_ild C hR aM_45 hi8 e8 dX12_qPartOf_155 ?_
                      refine lv_iadd C.1 C.2.1 dX12_qPartOf_156 ?_
                      obtain ⟨v9, e9, hi9, h⟩ := ldI_ok h
                      refine hr_ild C hR aM_55 hi9 e9 dX12_qPartOf_157 ?_
                      refine lv_i2l (v := (v9.toInt64)) C.1 C.2.1 dX12_qPartOf_158 rfl ?_
                      exact ho_lret C hR h dX12_qPartOf_159
theorem dX12_qClip_0 : decode cX12_qClip 0 = .ok (.lload_n 0, 1) := by decide +kernel
theorem dX12_qClip_1 : decode cX12_qClip 1 = .ok (.ldc2_w 661, 3) := by decide +kernel
theorem dX12_qClip_4 : decode cX12_qClip 4 = .ok (.lcmp, 1) := by decide +kernel
theorem dX12_qClip_5 : decode cX12_qClip 5 = .ok (.ifCond .le 9, 3) := by decide +kernel
theorem dX12_qClip_8 : decode cX12_qClip 8 = .ok (.ldc2_w 661, 3) := by decide +kernel
theorem dX12_qClip_11 : decode cX12_qClip 11 = .ok (.goto 18, 3) := by decide +kernel
theorem dX12_qClip_14 : decode cX12_qClip 14 = .ok (.lload_n 0, 1) := by decide +kernel
theorem dX12_qClip_15 : decode cX12_qClip 15 = .ok (.ldc2_w 663, 3) := by decide +kernel
theorem dX12_qClip_18 : decode cX12_qClip 18 = .ok (.lcmp, 1) := by decide +kernel
theorem dX12_qClip_19 : decode cX12_qClip 19 = .ok (.ifCond .ge 9, 3) := by decide +kernel
theorem dX12_qClip_22 : decode cX12_qClip 22 = .ok (.ldc2_w 663, 3) := by decide +kernel
theorem dX12_qClip_25 : decode cX12_qClip 25 = .ok (.goto 4, 3) := by decide +kernel
theorem dX12_qClip_28 : decode cX12_qClip 28 = .ok (.lload_n 0, 1) := by decide +kernel
theorem dX12_qClip_29 : decode cX12_qClip 29 = .ok (.lreturn, 1) := by decide +kernel
def f_X12_qClip (x0 : Int64) (S : Hp) : Option (Int64 × Hp) :=
  if (lg_cmp x0 (1000000 : Int64)) ≤ 0 then if 0 ≤ (lg_cmp x0 (-1000000 : Int64)) then some (x0, S) else some ((-1000000 : Int64), S) else some ((1000000 : Int64), S)
set_option maxHeartbeats 4000000 in
set_option maxRecDepth 100000 in
theorem c_X12_qClip (l : Launch) (E : Ev) (x0 : Int64) (S : Hp) (r : (Int64 × Hp)) (h : f_X12_qClip x0 S = some r) : ho_M l yM E yX12_qClip cX12_qClip 2 (some .long) 0 [.long x0] S (some (.long r.1), r.2) := by
  refine ho_in (by decide) (Nat.le_of_ble_eq_true rfl) ?_
  intro p e s m args below meth c C hR ls hl
  have C : ho_I p s m args meth c RX12 cX12_qClip 2 (some .long) := C
  have hl : lv_has ls 2 [(0, .long x0)] := hl
  unfold f_X12_qClip at h
  refine lv_lload_n C.1 C.2.1 dX12_qClip_0 rfl (lv_at hl 0 rfl) ?_
  refine lv_ldc2 (v := (1000000 : Int64)) C.1 C.2.1 C.2.2.2.2.1 (C.2.2.2.2.2.1 _ kc_RX12_661) dX12_qClip_1 ?_
  refine W.lcmp C.1 C.2.1 dX12_qClip_4 ?_
  refine lv_if_le (tgt := 14) C.1 C.2.1 dX12_qClip_5 (by decide) (fun hc => ?_) (fun hc => ?_)
  · replace h := if_t h hc
    refine lv_lload_n C.1 C.2.1 dX12_qClip_14 rfl (lv_at hl 0 rfl) ?_
    refine lv_ldc2 (v := (-1000000 : Int64)) C.1 C.2.1 C.2.2.2.2.1 (C.2.2.2.2.2.1 _ kc_RX12_663) dX12_qClip_15 ?_
    refine W.lcmp C.1 C.2.1 dX12_qClip_18 ?_
    refine lv_if_ge (tgt := 28) C.1 C.2.1 dX12_qClip_19 (by decide) (fun hc => ?_) (fun hc => ?_)
    · replace h := if_t h hc
      refine lv_lload_n C.1 C.2.1 dX12_qClip_28 rfl (lv_at hl 0 rfl) ?_
      exact ho_lret C hR h dX12_qClip_29
    · replace h := if_f h hc
      refine lv_ldc2 (v := (-1000000 : Int64)) C.1 C.2.1 C.2.2.2.2.1 (C.2.2.2.2.2.1 _ kc_RX12_663) dX12_qClip_22 ?_
      refine lv_goto (tgt := 29) C.1 C.2.1 dX12_qClip_25 (by decide) ?_
      exact ho_lret C hR h dX12_qClip_29
  · replace h := if_f h hc
    refine lv_ldc2 (v := (1000000 : Int64)) C.1 C.2.1 C.2.2.2.2.1 (C.2.2.2.2.2.1 _ kc_RX12_661) dX12_qClip_8 ?_
    refine lv_goto (tgt := 29) C.1 C.2.1 dX12_qClip_11 (by decide) ?_
    exact ho_lret C hR h dX12_qClip_29
theorem dX12_qFloor_0 : decode cX12_qFloor 0 = .ok (.lload_n 2, 1) := by decide +kernel
theorem dX12_qFloor_1 : decode cX12_qFloor 1 = .ok (.lconst 0, 1) := by decide +kernel
theorem dX12_qFloor_2 : decode cX12_qFloor 2 = .ok (.lcmp, 1) := by decide +kernel
theorem dX12_qFloor_3 : decode cX12_qFloor 3 = .ok (.ifCond .ne 5, 3) := by decide +kernel
theorem dX12_qFloor_6 : decode cX12_qFloor 6 = .ok (.lconst 0, 1) := by decide +kernel
theorem dX12_qFloor_7 : decode cX12_qFloor 7 = .ok (.lreturn, 1) := by decide +kernel
theorem dX12_qFloor_8 : decode cX12_qFloor 8 = .ok (.lload_n 0, 1) := by decide +kernel
theorem dX12_qFloor_9 : decode cX12_qFloor 9 = .ok (.lload_n 2, 1) := by decide +kernel
theorem dX12_qFloor_10 : decode cX12_qFloor 10 = .ok (.ldiv, 1) := by decide +kernel
theorem dX12_qFloor_11 : decode cX12_qFloor 11 = .ok (.lstore 4, 2) := by decide +kernel
theorem dX12_qFloor_13 : decode cX12_qFloor 13 = .ok (.lload_n 0, 1) := by decide +kernel
theorem dX12_qFloor_14 : decode cX12_qFloor 14 = .ok (.lload_n 2, 1) := by decide +kernel
theorem dX12_qFloor_15 : decode cX12_qFloor 15 = .ok (.lrem, 1) := by decide +kernel
theorem dX12_qFloor_16 : decode cX12_qFloor 16 = .ok (.lconst 0, 1) := by decide +kernel
theorem dX12_qFloor_17 : decode cX12_qFloor 17 = .ok (.lcmp, 1) := by decide +kernel
theorem dX12_qFloor_18 : decode cX12_qFloor 18 = .ok (.ifCond .eq 35, 3) := by decide +kernel
theorem dX12_qFloor_21 : decode cX12_qFloor 21 = .ok (.lload_n 0, 1) := by decide +kernel
theorem dX12_qFloor_22 : decode cX12_qFloor 22 = .ok (.lconst 0, 1) := by decide +kernel
theorem dX12_qFloor_23 : decode cX12_qFloor 23 = .ok (.lcmp, 1) := by decide +kernel
theorem dX12_qFloor_24 : decode cX12_qFloor 24 = .ok (.ifCond .ge 7, 3) := by decide +kernel
theorem dX12_qFloor_27 : decode cX12_qFloor 27 = .ok (.iconst 1, 1) := by decide +kernel
theorem dX12_qFloor_28 : decode cX12_qFloor 28 = .ok (.goto 4, 3) := by decide +kernel
theorem dX12_qFloor_31 : decode cX12_qFloor 31 = .ok (.iconst 0, 1) := by decide +kernel
theorem dX12_qFloor_32 : decode cX12_qFloor 32 = .ok (.lload_n 2, 1) := by decide +kernel
theorem dX12_qFloor_33 : decode cX12_qFloor 33 = .ok (.lconst 0, 1) := by decide +kernel
theorem dX12_qFloor_34 : decode cX12_qFloor 34 = .ok (.lcmp, 1) := by decide +kernel
theorem dX12_qFloor_35 : decode cX12_qFloor 35 = .ok (.ifCond .ge 7, 3) := by decide +kernel
theorem dX12_qFloor_38 : decode cX12_qFloor 38 = .ok (.iconst 1, 1) := by decide +kernel
theorem dX12_qFloor_39 : decode cX12_qFloor 39 = .ok (.goto 4, 3) := by decide +kernel
theorem dX12_qFloor_42 : decode cX12_qFloor 42 = .ok (.iconst 0, 1) := by decide +kernel
theorem dX12_qFloor_43 : decode cX12_qFloor 43 = .ok (.if_icmp .eq 10, 3) := by decide +kernel
theorem dX12_qFloor_46 : decode cX12_qFloor 46 = .ok (.lload 4, 2) := by decide +kernel
theorem dX12_qFloor_48 : decode cX12_qFloor 48 = .ok (.lconst 1, 1) := by decide +kernel
theorem dX12_qFloor_49 : decode cX12_qFloor 49 = .ok (.lsub, 1) := by decide +kernel
theorem dX12_qFloor_50 : decode cX12_qFloor 50 = .ok (.goto 5, 3) := by decide +kernel
theorem dX12_qFloor_53 : decode cX12_qFloor 53 = .ok (.lload 4, 2) := by decide +kernel
theorem dX12_qFloor_55 : decode cX12_qFloor 55 = .ok (.lreturn, 1) := by decide +kernel
def f_X12_qFloor_43 (x4 : Int64) (z0 : Int32) (z1 : Int32) (S : Hp) : Option (Int64 × Hp) :=
  if z0 = z1 then some (x4, S) else some ((x4 - (1 : Int64)), S)
set_option maxHeartbeats 4000000 in
set_option maxRecDepth 100000 in
theorem w_X12_qFloor_43 {p : Program} {l : Launch} {e : Env} {s : State} {m : MethodId} {args : Array Value} {below : List Frame} {meth : Method} {c : Code} {E : Ev} {S0 : Hp} {r : (Int64 × Hp)} (C : ho_I p s m args meth c RX12 cX12_qFloor 6 (some .long)) :
    ∀ (x4 : Int64) (z0 : Int32) (z1 : Int32) (S : Hp), f_X12_qFloor_43 x4 z0 z1 S = some r → ho_G p l e s m args below meth c yM E S0 0 6 (some (.long r.1), r.2) 43 [(4, .long x4)] [.int z1, .int z0] S := by
  intro x4 z0 z1 S h H locs ls hR hl
  unfold f_X12_qFloor_43 at h
  refine lv_icmp_eq (tgt := 53) C.1 C.2.1 dX12_qFloor_43 (by decide) (fun hc => ?_) (fun hc => ?_)
  · replace h := if_t h hc
    refine lv_lload C.1 C.2.1 dX12_qFloor_53 (lv_at hl 0 rfl) ?_
    exact ho_lret C hR h dX12_qFloor_55
  · replace h := if_f h hc
    refine lv_lload C.1 C.2.1 dX12_qFloor_46 (lv_at hl 0 rfl) ?_
    refine lv_lconst (v := (1 : Int64)) C.1 C.2.1 dX12_qFloor_48 (by decide) ?_
    refine lv_lsub C.1 C.2.1 dX12_qFloor_49 ?_
    refine lv_goto (tgt := 55) C.1 C.2.1 dX12_qFloor_50 (by decide) ?_
    exact ho_lret C hR h dX12_qFloor_55
def f_X12_qFloor_32 (x2 : Int64) (x4 : Int64) (z0 : Int32) (S : Hp) : Option (Int64 × Hp) :=
  if 0 ≤ (lg_cmp x2 (0 : Int64)) then f_X12_qFloor_43 x4 z0 (0 : Int32) S else f_X12_qFloor_43 x4 z0 (1 : Int32) S
set_option maxHeartbeats 4000000 in
set_option maxRecDepth 100000 in
theorem w_X12_qFloor_32 {p : Program} {l : Launch} {e : Env} {s : State} {m : MethodId} {args : Array Value} {below : List Frame} {meth : Method} {c : Code} {E : Ev} {S0 : Hp} {r : (Int64 × Hp)} (C : ho_I p s m args meth c RX12 cX12_qFloor 6 (some .long)) :
    ∀ (x2 : Int64) (x4 : Int64) (z0 : Int32) (S : Hp), f_X12_qFloor_32 x2 x4 z0 S = some r → ho_G p l e s m args below meth c yM E S0 0 6 (some (.long r.1), r.2) 32 [(2, .long x2), (4, .long x4)] [.int z0] S := by
  intro x2 x4 z0 S h H locs ls hR hl
  unfold f_X12_qFloor_32 at h
  refine lv_lload_n C.1 C.2.1 dX12_qFloor_32 rfl (lv_at hl 0 rfl) ?_
  refine lv_lconst (v := (0 : Int64)) C.1 C.2.1 dX12_qFloor_33 (by decide) ?_
  refine W.lcmp C.1 C.2.1 dX12_qFloor_34 ?_
  refine lv_if_ge (tgt := 42) C.1 C.2.1 dX12_qFloor_35 (by decide) (fun hc => ?_) (fun hc => ?_)
  · replace h := if_t h hc
    refine lv_iconst (v := (0 : Int32)) C.1 C.2.1 dX12_qFloor_42 (by decide) ?_
    exact w_X12_qFloor_43 C x4 z0 (0 : Int32) S h _ _ _ hR (lv_sub hl [1] rfl)
  · replace h := if_f h hc
    refine lv_iconst (v := (1 : Int32)) C.1 C.2.1 dX12_qFloor_38 (by decide) ?_
    refine lv_goto (tgt := 43) C.1 C.2.1 dX12_qFloor_39 (by decide) ?_
    exact w_X12_qFloor_43 C x4 z0 (1 : Int32) S h _ _ _ hR (lv_sub hl [1] rfl)
def f_X12_qFloor (x0 : Int64) (x2 : Int64) (S : Hp) : Option (Int64 × Hp) :=
  if (lg_cmp x2 (0 : Int64)) = 0 then some ((0 : Int64), S) else nzl x2 (le1 (x0 / x2) (fun v2 => nzl x2 (if (lg_cmp (x0 - x0 / x2 * x2) (0 : Int64)) = 0 then some (v2, S) else if 0 ≤ (lg_cmp x0 (0 : Int64)) then f_X12_qFloor_32 x2 v2 (0 : Int32) S else f_X12_qFloor_32 x2 v2 (1 : Int32) S)))
set_option maxHeartbeats 4000000 in
set_option maxRecDepth 100000 in
theorem c_X12_qFloor (l : Launch) (E : Ev) (x0 : Int64) (x2 : Int64) (S : Hp) (r : (Int64 × Hp)) (h : f_X12_qFloor x0 x2 S = some r) : ho_M l yM E yX12_qFloor cX12_qFloor 6 (some .long) 0 [.long x0, .long x2] S (some (.long r.1), r.2) := by
  refine ho_in (by decide) (Nat.le_of_ble_eq_true rfl) ?_
  intro p e s m args below meth c C hR ls hl
  have C : ho_I p s m args meth c RX12 cX12_qFloor 6 (some .long) := C
  have hl : lv_has ls 6 [(0, .long x0), (2, .long x2)] := hl
  unfold f_X12_qFloor at h
  refine lv_lload_n C.1 C.2.1 dX12_qFloor_0 rfl (lv_at hl 1 rfl) ?_
  refine lv_lconst (v := (0 : Int64)) C.1 C.2.1 dX12_qFloor_1 (by decide) ?_
  refine W.lcmp C.1 C.2.1 dX12_qFloor_2 ?_
  refine lv_if_ne (tgt := 8) C.1 C.2.1 dX12_qFloor_3 (by decide) (fun hc => ?_) (fun hc => ?_)
  · replace h := if_f h hc
    refine lv_lload_n C.1 C.2.1 dX12_qFloor_8 rfl (lv_at hl 0 rfl) ?_
    refine lv_lload_n C.1 C.2.1 dX12_qFloor_9 rfl (lv_at hl 1 rfl) ?_
    obtain ⟨hz1, h⟩ := nzl_ok h
    refine lv_ldiv C.1 C.2.1 dX12_qFloor_10 hz1 ?_
    refine lv_topl (fun v2 e2 => ?_)
    replace h := le1_at e2 h
    refine lv_lstore (lv' := [(4, .long v2), (0, .long x0), (2, .long x2)]) C.1 C.2.1 dX12_qFloor_11 hl (by decide) rfl (fun ls hl => ?_)
    refine lv_lload_n C.1 C.2.1 dX12_qFloor_13 rfl (lv_at hl 1 rfl) ?_
    refine lv_lload_n C.1 C.2.1 dX12_qFloor_14 rfl (lv_at hl 2 rfl) ?_
    obtain ⟨hz3, h⟩ := nzl_ok h
    refine lv_lrem C.1 C.2.1 dX12_qFloor_15 hz3 ?_
    refine lv_lconst (v := (0 : Int64)) C.1 C.2.1 dX12_qFloor_16 (by decide) ?_
    refine W.lcmp C.1 C.2.1 dX12_qFloor_17 ?_
    refine lv_if_eq (tgt := 53) C.1 C.2.1 dX12_qFloor_18 (by decide) (fun hc => ?_) (fun hc => ?_)
    · replace h := if_t h hc
      refine lv_lload C.1 C.2.1 dX12_qFloor_53 (lv_at hl 0 rfl) ?_
      exact ho_lret C hR h dX12_qFloor_55
    · replace h := if_f h hc
      refine lv_lload_n C.1 C.2.1 dX12_qFloor_21 rfl (lv_at hl 1 rfl) ?_
      refine lv_lconst (v := (0 : Int64)) C.1 C.2.1 dX12_qFloor_22 (by decide) ?_
      refine W.lcmp C.1 C.2.1 dX12_qFloor_23 ?_
      refine lv_if_ge (tgt := 31) C.1 C.2.1 dX12_qFloor_24 (by decide) (fun hc => ?_) (fun hc => ?_)
      · replace h := if_t h hc
        refine lv_iconst (v := (0 : Int32)) C.1 C.2.1 dX12_qFloor_31 (by decide) ?_
        exact w_X12_qFloor_32 C x2 v2 (0 : Int32) S h _ _ _ hR (lv_sub hl [2, 0] rfl)
      · replace h := if_f h hc
        refine lv_iconst (v := (1 : Int32)) C.1 C.2.1 dX12_qFloor_27 (by decide) ?_
        refine lv_goto (tgt := 32) C.1 C.2.1 dX12_qFloor_28 (by decide) ?_
        exact w_X12_qFloor_32 C x2 v2 (1 : Int32) S h _ _ _ hR (lv_sub hl [2, 0] rfl)
  · replace h := if_t h hc
    refine lv_lconst (v := (0 : Int64)) C.1 C.2.1 dX12_qFloor_6 (by decide) ?_
    exact ho_lret C hR h dX12_qFloor_7
theorem dX12_qJoins_0 : decode cX12_qJoins 0 = .ok (.aload_n 0, 1) := by decide +kernel
theorem dX12_qJoins_1 : decode cX12_qJoins 1 = .ok (.getfield 255, 3) := by decide +kernel
theorem dX12_qJoins_4 : decode cX12_qJoins 4 = .ok (.aload_n 0, 1) := by decide +kernel
theorem dX12_qJoins_5 : decode cX12_qJoins 5 = .ok (.getfield 416, 3) := by decide +kernel
theorem dX12_qJoins_8 : decode cX12_qJoins 8 = .ok (.iconst 1, 1) := by decide +kernel
theorem dX12_qJoins_9 : decode cX12_qJoins 9 = .ok (.isub, 1) := by decide +kernel
theorem dX12_qJoins_10 : decode cX12_qJoins 10 = .ok (.laload, 1) := by decide +kernel
theorem dX12_qJoins_11 : decode cX12_qJoins 11 = .ok (.lstore_n 2, 1) := by decide +kernel
theorem dX12_qJoins_12 : decode cX12_qJoins 12 = .ok (.aload_n 0, 1) := by decide +kernel
theorem dX12_qJoins_13 : decode cX12_qJoins 13 = .ok (.getfield 255, 3) := by decide +kernel
theorem dX12_qJoins_16 : decode cX12_qJoins 16 = .ok (.aload_n 0, 1) := by decide +kernel
theorem dX12_qJoins_17 : decode cX12_qJoins 17 = .ok (.getfield 416, 3) := by decide +kernel
theorem dX12_qJoins_20 : decode cX12_qJoins 20 = .ok (.iconst 2, 1) := by decide +kernel
theorem dX12_qJoins_21 : decode cX12_qJoins 21 = .ok (.isub, 1) := by decide +kernel
theorem dX12_qJoins_22 : decode cX12_qJoins 22 = .ok (.laload, 1) := by decide +kernel
theorem dX12_qJoins_23 : decode cX12_qJoins 23 = .ok (.lstore 4, 2) := by decide +kernel
theorem dX12_qJoins_25 : decode cX12_qJoins 25 = .ok (.aload_n 0, 1) := by decide +kernel
theorem dX12_qJoins_26 : decode cX12_qJoins 26 = .ok (.dup, 1) := by decide +kernel
theorem dX12_qJoins_27 : decode cX12_qJoins 27 = .ok (.getfield 416, 3) := by decide +kernel
theorem dX12_qJoins_30 : decode cX12_qJoins 30 = .ok (.iconst 2, 1) := by decide +kernel
theorem dX12_qJoins_31 : decode cX12_qJoins 31 = .ok (.isub, 1) := by decide +kernel
theorem dX12_qJoins_32 : decode cX12_qJoins 32 = .ok (.putfield 416, 3) := by decide +kernel
theorem dX12_qJoins_35 : decode cX12_qJoins 35 = .ok (.iload_n 1, 1) := by decide +kernel
theorem dX12_qJoins_36 : decode cX12_qJoins 36 = .ok (.tableswitch 219 1 10 #[56, 70, 84, 98, 111, 131, 151, 170, 189, 208], 56) := by decide +kernel
theorem dX12_qJoins_92 : decode cX12_qJoins 92 = .ok (.aload_n 0, 1) := by decide +kernel
theorem dX12_qJoins_93 : decode cX12_qJoins 93 = .ok (.lload 4, 2) := by decide +kernel
theorem dX12_qJoins_95 : decode cX12_qJoins 95 = .ok (.lload_n 2, 1) := by decide +kernel
theorem dX12_qJoins_96 : decode cX12_qJoins 96 = .ok (.ladd, 1) := by decide +kernel
theorem dX12_qJoins_97 : decode cX12_qJoins 97 = .ok (.invokestatic 665, 3) := by decide +kernel
theorem dX12_qJoins_100 : decode cX12_qJoins 100 = .ok (.invokevirtual 419, 3) := by decide +kernel
theorem dX12_qJoins_103 : decode cX12_qJoins 103 = .ok (.goto 170, 3) := by decide +kernel
theorem dX12_qJoins_106 : decode cX12_qJoins 106 = .ok (.aload_n 0, 1) := by decide +kernel
theorem dX12_qJoins_107 : decode cX12_qJoins 107 = .ok (.lload 4, 2) := by decide +kernel
theorem dX12_qJoins_109 : decode cX12_qJoins 109 = .ok (.lload_n 2, 1) := by decide +kernel
theorem dX12_qJoins_110 : decode cX12_qJoins 110 = .ok (.lsub, 1) := by decide +kernel
theorem dX12_qJoins_111 : decode cX12_qJoins 111 = .ok (.invokestatic 665, 3) := by decide +kernel
theorem dX12_qJoins_114 : decode cX12_qJoins 114 = .ok (.invokevirtual 419, 3) := by decide +kernel
theorem dX12_qJoins_117 : decode cX12_qJoins 117 = .ok (.goto 156, 3) := by decide +kernel
theorem dX12_qJoins_120 : decode cX12_qJoins 120 = .ok (.aload_n 0, 1) := by decide +kernel
theorem dX12_qJoins_121 : decode cX12_qJoins 121 = .ok (.lload 4, 2) := by decide +kernel
theorem dX12_qJoins_123 : decode cX12_qJoins 123 = .ok (.lload_n 2, 1) := by decide +kernel
theorem dX12_qJoins_124 : decode cX12_qJoins 124 = .ok (.lmul, 1) := by decide +kernel
theorem dX12_qJoins_125 : decode cX12_qJoins 125 = .ok (.invokestatic 665, 3) := by decide +kernel
theorem dX12_qJoins_128 : decode cX12_qJoins 128 = .ok (.invokevirtual 419, 3) := by decide +kernel
theorem dX12_qJoins_131 : decode cX12_qJoins 131 = .ok (.goto 142, 3) := by decide +kernel
theorem dX12_qJoins_134 : decode cX12_qJoins 134 = .ok (.aload_n 0, 1) := by decide +kernel
theorem dX12_qJoins_135 : decode cX12_qJoins 135 = .ok (.lload 4, 2) := by decide +kernel
theorem dX12_qJoins_137 : decode cX12_qJoins 137 = .ok (.lload_n 2, 1) := by decide +kernel
theorem dX12_qJoins_138 : decode cX12_qJoins 138 = .ok (.invokestatic 669, 3) := by decide +kernel
theorem dX12_qJoins_141 : decode cX12_qJoins 141 = .ok (.invokevirtual 419, 3) := by decide +kernel
theorem dX12_qJoins_144 : decode cX12_qJoins 144 = .ok (.goto 129, 3) := by decide +kernel
theorem dX12_qJoins_147 : decode cX12_qJoins 147 = .ok (.aload_n 0, 1) := by decide +kernel
theorem dX12_qJoins_148 : decode cX12_qJoins 148 = .ok (.lload 4, 2) := by decide +kernel
theorem dX12_qJoins_150 : decode cX12_qJoins 150 = .ok (.lload_n 2, 1) := by decide +kernel
theorem dX12_qJoins_151 : decode cX12_qJoins 151 = .ok (.lcmp, 1) := by decide +kernel
theorem dX12_qJoins_152 : decode cX12_qJoins 152 = .ok (.ifCond .ge 8, 3) := by decide +kernel
theorem dX12_qJoins_155 : decode cX12_qJoins 155 = .ok (.lload 4, 2) := by decide +kernel
theorem dX12_qJoins_157 : decode cX12_qJoins 157 = .ok (.goto 4, 3) := by decide +kernel
theorem dX12_qJoins_160 : decode cX12_qJoins 160 = .ok (.lload_n 2, 1) := by decide +kernel
theorem dX12_qJoins_161 : decode cX12_qJoins 161 = .ok (.invokevirtual 419, 3) := by decide +kernel
theorem dX12_qJoins_164 : decode cX12_qJoins 164 = .ok (.goto 109, 3) := by decide +kernel
theorem dX12_qJoins_167 : decode cX12_qJoins 167 = .ok (.aload_n 0, 1) := by decide +kernel
theorem dX12_qJoins_168 : decode cX12_qJoins 168 = .ok (.lload 4, 2) := by decide +kernel
theorem dX12_qJoins_170 : decode cX12_qJoins 170 = .ok (.lload_n 2, 1) := by decide +kernel
theorem dX12_qJoins_171 : decode cX12_qJoins 171 = .ok (.lcmp, 1) := by decide +kernel
theorem dX12_qJoins_172 : decode cX12_qJoins 172 = .ok (.ifCond .le 8, 3) := by decide +kernel
theorem dX12_qJoins_175 : decode cX12_qJoins 175 = .ok (.lload 4, 2) := by decide +kernel
theorem dX12_qJoins_177 : decode cX12_qJoins 177 = .ok (.goto 4, 3) := by decide +kernel
theorem dX12_qJoins_180 : decode cX12_qJoins 180 = .ok (.lload_n 2, 1) := by decide +kernel
theorem dX12_qJoins_181 : decode cX12_qJoins 181 = .ok (.invokevirtual 419, 3) := by decide +kernel
theorem dX12_qJoins_184 : decode cX12_qJoins 184 = .ok (.goto 89, 3) := by decide +kernel
theorem dX12_qJoins_187 : decode cX12_qJoins 187 = .ok (.aload_n 0, 1) := by decide +kernel
theorem dX12_qJoins_188 : decode cX12_qJoins 188 = .ok (.lload 4, 2) := by decide +kernel
theorem dX12_qJoins_190 : decode cX12_qJoins 190 = .ok (.lload_n 2, 1) := by decide +kernel
theorem dX12_qJoins_191 : decode cX12_qJoins 191 = .ok (.lcmp, 1) := by decide +kernel
theorem dX12_qJoins_192 : decode cX12_qJoins 192 = .ok (.ifCond .ge 7, 3) := by decide +kernel
theorem dX12_qJoins_195 : decode cX12_qJoins 195 = .ok (.lconst 1, 1) := by decide +kernel
theorem dX12_qJoins_196 : decode cX12_qJoins 196 = .ok (.goto 4, 3) := by decide +kernel
theorem dX12_qJoins_199 : decode cX12_qJoins 199 = .ok (.lconst 0, 1) := by decide +kernel
theorem dX12_qJoins_200 : decode cX12_qJoins 200 = .ok (.invokevirtual 419, 3) := by decide +kernel
theorem dX12_qJoins_203 : decode cX12_qJoins 203 = .ok (.goto 70, 3) := by decide +kernel
theorem dX12_qJoins_206 : decode cX12_qJoins 206 = .ok (.aload_n 0, 1) := by decide +kernel
theorem dX12_qJoins_207 : decode cX12_qJoins 207 = .ok (.lload 4, 2) := by decide +kernel
theorem dX12_qJoins_209 : decode cX12_qJoins 209 = .ok (.lload_n 2, 1) := by decide +kernel
theorem dX12_qJoins_210 : decode cX12_qJoins 210 = .ok (.lcmp, 1) := by decide +kernel
theorem dX12_qJoins_211 : decode cX12_qJoins 211 = .ok (.ifCond .le 7, 3) := by decide +kernel
theorem dX12_qJoins_214 : decode cX12_qJoins 214 = .ok (.lconst 1, 1) := by decide +kernel
theorem dX12_qJoins_215 : decode cX12_qJoins 215 = .ok (.goto 4, 3) := by decide +kernel
theorem dX12_qJoins_218 : decode cX12_qJoins 218 = .ok (.lconst 0, 1) := by decide +kernel
theorem dX12_qJoins_219 : decode cX12_qJoins 219 = .ok (.invokevirtual 419, 3) := by decide +kernel
theorem dX12_qJoins_222 : decode cX12_qJoins 222 = .ok (.goto 51, 3) := by decide +kernel
theorem dX12_qJoins_225 : decode cX12_qJoins 225 = .ok (.aload_n 0, 1) := by decide +kernel
theorem dX12_qJoins_226 : decode cX12_qJoins 226 = .ok (.lload 4, 2) := by decide +kernel
theorem dX12_qJoins_228 : decode cX12_qJoins 228 = .ok (.lload_n 2, 1) := by decide +kernel
theorem dX12_qJoins_229 : decode cX12_qJoins 229 = .ok (.lcmp, 1) := by decide +kernel
theorem dX12_qJoins_230 : decode cX12_qJoins 230 = .ok (.ifCond .ne 7, 3) := by decide +kernel
theorem dX12_qJoins_233 : decode cX12_qJoins 233 = .ok (.lconst 1, 1) := by decide +kernel
theorem dX12_qJoins_234 : decode cX12_qJoins 234 = .ok (.goto 4, 3) := by decide +kernel
theorem dX12_qJoins_237 : decode cX12_qJoins 237 = .ok (.lconst 0, 1) := by decide +kernel
theorem dX12_qJoins_238 : decode cX12_qJoins 238 = .ok (.invokevirtual 419, 3) := by decide +kernel
theorem dX12_qJoins_241 : decode cX12_qJoins 241 = .ok (.goto 32, 3) := by decide +kernel
theorem dX12_qJoins_244 : decode cX12_qJoins 244 = .ok (.aload_n 0, 1) := by decide +kernel
theorem dX12_qJoins_245 : decode cX12_qJoins 245 = .ok (.lload 4, 2) := by decide +kernel
theorem dX12_qJoins_247 : decode cX12_qJoins 247 = .ok (.lload_n 2, 1) := by decide +kernel
theorem dX12_qJoins_248 : decode cX12_qJoins 248 = .ok (.lmul, 1) := by decide +kernel
theorem dX12_qJoins_249 : decode cX12_qJoins 249 = .ok (.invokevirtual 419, 3) := by decide +kernel
theorem dX12_qJoins_252 : decode cX12_qJoins 252 = .ok (.goto 21, 3) := by decide +kernel
theorem dX12_qJoins_255 : decode cX12_qJoins 255 = .ok (.aload_n 0, 1) := by decide +kernel
theorem dX12_qJoins_256 : decode cX12_qJoins 256 = .ok (.lload 4, 2) := by decide +kernel
theorem dX12_qJoins_258 : decode cX12_qJoins 258 = .ok (.lload_n 2, 1) := by decide +kernel
theorem dX12_qJoins_259 : decode cX12_qJoins 259 = .ok (.ladd, 1) := by decide +kernel
theorem dX12_qJoins_260 : decode cX12_qJoins 260 = .ok (.lconst 0, 1) := by decide +kernel
theorem dX12_qJoins_261 : decode cX12_qJoins 261 = .ok (.lcmp, 1) := by decide +kernel
theorem dX12_qJoins_262 : decode cX12_qJoins 262 = .ok (.ifCond .le 7, 3) := by decide +kernel
theorem dX12_qJoins_265 : decode cX12_qJoins 265 = .ok (.lconst 1, 1) := by decide +kernel
theorem dX12_qJoins_266 : decode cX12_qJoins 266 = .ok (.goto 4, 3) := by decide +kernel
theorem dX12_qJoins_269 : decode cX12_qJoins 269 = .ok (.lconst 0, 1) := by decide +kernel
theorem dX12_qJoins_270 : decode cX12_qJoins 270 = .ok (.invokevirtual 419, 3) := by decide +kernel
theorem dX12_qJoins_273 : decode cX12_qJoins 273 = .ok (.return_, 1) := by decide +kernel
def f_X12_qJoins_161 (z1 : Int64) (S : Hp) : Option Hp :=
  ob (f_X12_qPuts z1 S) (fun S1 => some S1)
set_option maxHeartbeats 4000000 in
set_option maxRecDepth 100000 in
theorem w_X12_qJoins_161 {p : Program} {l : Launch} {e : Env} {s : State} {m : MethodId} {args : Array Value} {below : List Frame} {meth : Method} {c : Code} {E : Ev} {S0 : Hp} {r : Hp} (C : ho_I p s m args meth c RX12 cX12_qJoins 6 none) :
    ∀ (z1 : Int64) (S : Hp), f_X12_qJoins_161 z1 S = some r → ho_G p l e s m args below meth c yM E S0 1 6 (none, r) 161 [] [.long z1, .ref (E.2.1 0)] S := by
  intro z1 S h H locs ls hR hl
  unfold f_X12_qJoins_161 at h
  obtain ⟨S1, h1, h⟩ := ob_ok h
  refine hr_Vv (S' := S1) (As := [.long z1]) (rest := []) C cf12 (c_X12_qPuts l E z1 _ _ h1) yv_X12_qPuts lk_RX12_419 rfl aM_0 rfl rfl hl.1 (Nat.le_of_ble_eq_true rfl) (by decide) (by decide) hR (ho_A hR) dX12_qJoins_161 (fun H locs hR => ?_)
  refine lv_goto (tgt := 273) C.1 C.2.1 dX12_qJoins_164 (by decide) ?_
  exact ho_vret C hR h dX12_qJoins_273
def f_X12_qJoins_181 (z1 : Int64) (S : Hp) : Option Hp :=
  ob (f_X12_qPuts z1 S) (fun S1 => some S1)
set_option maxHeartbeats 4000000 in
set_option maxRecDepth 100000 in
theorem w_X12_qJoins_181 {p : Program} {l : Launch} {e : Env} {s : State} {m : MethodId} {args : Array Value} {below : List Frame} {meth : Method} {c : Code} {E : Ev} {S0 : Hp} {r : Hp} (C : ho_I p s m args meth c RX12 cX12_qJoins 6 none) :
    ∀ (z1 : Int64) (S : Hp), f_X12_qJoins_181 z1 S = some r → ho_G p l e s m args below meth c yM E S0 1 6 (none, r) 181 [] [.long z1, .ref (E.2.1 0)] S := by
  intro z1 S h H locs ls hR hl
  unfold f_X12_qJoins_181 at h
  obtain ⟨S1, h1, h⟩ := ob_ok h
  refine hr_Vv (S' := S1) (As := [.long z1]) (rest := []) C cf12 (c_X12_qPuts l E z1 _ _ h1) yv_X12_qPuts lk_RX12_419 rfl aM_0 rfl rfl hl.1 (Nat.le_of_ble_eq_true rfl) (by decide) (by decide) hR (ho_A hR) dX12_qJoins_181 (fun H locs hR => ?_)
  refine lv_goto (tgt := 273) C.1 C.2.1 dX12_qJoins_184 (by decide) ?_
  exact ho_vret C hR h dX12_qJoins_273
def f_X12_qJoins_200 (z1 : Int64) (S : Hp) : Option Hp :=
  ob (f_X12_qPuts z1 S) (fun S1 => some S1)
set_option maxHeartbeats 4000000 in
set_option maxRecDepth 100000 in
theorem w_X12_qJoins_200 {p : Program} {l : Launch} {e : Env} {s : State} {m : MethodId} {args : Array Value} {below : List Frame} {meth : Method} {c : Code} {E : Ev} {S0 : Hp} {r : Hp} (C : ho_I p s m args meth c RX12 cX12_qJoins 6 none) :
    ∀ (z1 : Int64) (S : Hp), f_X12_qJoins_200 z1 S = some r → ho_G p l e s m args below meth c yM E S0 1 6 (none, r) 200 [] [.long z1, .ref (E.2.1 0)] S := by
  intro z1 S h H locs ls hR hl
  unfold f_X12_qJoins_200 at h
  obtain ⟨S1, h1, h⟩ := ob_ok h
  refine hr_Vv (S' := S1) (As := [.long z1]) (rest := []) C cf12 (c_X12_qPuts l E z1 _ _ h1) yv_X12_qPuts lk_RX12_419 rfl aM_0 rfl rfl hl.1 (Nat.le_of_ble_eq_true rfl) (by decide) (by decide) hR (ho_A hR) dX12_qJoins_200 (fun H locs hR => ?_)
  refine lv_goto (tgt := 273) C.1 C.2.1 dX12_qJoins_203 (by decide) ?_
  exact ho_vret C hR h dX12_qJoins_273
def f_X12_qJoins_219 (z1 : Int64) (S : Hp) : Option Hp :=
  ob (f_X12_qPuts z1 S) (fun S1 => some S1)
set_option maxHeartbeats 4000000 in
set_option maxRecDepth 100000 in
theorem w_X12_qJoins_219 {p : Program} {l : Launch} {e : Env} {s : State} {m : MethodId} {args : Array Value} {below : List Frame} {meth : Method} {c : Code} {E : Ev} {S0 : Hp} {r : Hp} (C : ho_I p s m args meth c RX12 cX12_qJoins 6 none) :
    ∀ (z1 : Int64) (S : Hp), f_X12_qJoins_219 z1 S = some r → ho_G p l e s m args below meth c yM E S0 1 6 (none, r) 219 [] [.long z1, .ref (E.2.1 0)] S := by
  intro z1 S h H locs ls hR hl
  unfold f_X12_qJoins_219 at h
  obtain ⟨S1, h1, h⟩ := ob_ok h
  refine hr_Vv (S' := S1) (As := [.long z1]) (rest := []) C cf12 (c_X12_qPuts l E z1 _ _ h1) yv_X12_qPuts lk_RX12_419 rfl aM_0 rfl rfl hl.1 (Nat.le_of_ble_eq_true rfl) (by decide) (by decide) hR (ho_A hR) dX12_qJoins_219 (fun H locs hR => ?_)
  refine lv_goto (tgt := 273) C.1 C.2.1 dX12_qJoins_222 (by decide) ?_
  exact ho_vret C hR h dX12_qJoins_273
def f_X12_qJoins_238 (z1 : Int64) (S : Hp) : Option Hp :=
  ob (f_X12_qPuts z1 S) (fun S1 => some S1)
set_option maxHeartbeats 4000000 in
set_option maxRecDepth 100000 in
theorem w_X12_qJoins_238 {p : Program} {l : Launch} {e : Env} {s : State} {m : MethodId} {args : Array Value} {below : List Frame} {meth : Method} {c : Code} {E : Ev} {S0 : Hp} {r : Hp} (C : ho_I p s m args meth c RX12 cX12_qJoins 6 none) :
    ∀ (z1 : Int64) (S : Hp), f_X12_qJoins_238 z1 S = some r → ho_G p l e s m args below meth c yM E S0 1 6 (none, r) 238 [] [.long z1, .ref (E.2.1 0)] S := by
  intro z1 S h H locs ls hR hl
  unfold f_X12_qJoins_238 at h
  obtain ⟨S1, h1, h⟩ := ob_ok h
  refine hr_Vv (S' := S1) (As := [.long z1]) (rest := []) C cf12 (c_X12_qPuts l E z1 _ _ h1) yv_X12_qPuts lk_RX12_419 rfl aM_0 rfl rfl hl.1 (Nat.le_of_ble_eq_true rfl) (by decide) (by decide) hR (ho_A hR) dX12_qJoins_238 (fun H locs hR => ?_)
  refine lv_goto (tgt := 273) C.1 C.2.1 dX12_qJoins_241 (by decide) ?_
  exact ho_vret C hR h dX12_qJoins_273
def f_X12_qJoins_270 (z1 : Int64) (S : Hp) : Option Hp :=
  ob (f_X12_qPuts z1 S) (fun S1 => some S1)
set_option maxHeartbeats 4000000 in
set_option maxRecDepth 100000 in
theorem w_X12_qJoins_270 {p : Program} {l : Launch} {e : Env} {s : State} {m : MethodId} {args : Array Value} {below : List Frame} {meth : Method} {c : Code} {E : Ev} {S0 : Hp} {r : Hp} (C : ho_I p s m args meth c RX12 cX12_qJoins 6 none) :
    ∀ (z1 : Int64) (S : Hp), f_X12_qJoins_270 z1 S = some r → ho_G p l e s m args below meth c yM E S0 1 6 (none, r) 270 [] [.long z1, .ref (E.2.1 0)] S := by
  intro z1 S h H locs ls hR hl
  unfold f_X12_qJoins_270 at h
  obtain ⟨S1, h1, h⟩ := ob_ok h
  refine hr_Vv (S' := S1) (As := [.long z1]) (rest := []) C cf12 (c_X12_qPuts l E z1 _ _ h1) yv_X12_qPuts lk_RX12_419 rfl aM_0 rfl rfl hl.1 (Nat.le_of_ble_eq_true rfl) (by decide) (by decide) hR (ho_A hR) dX12_qJoins_270 (fun H locs hR => ?_)
  exact ho_vret C hR h dX12_qJoins_273
def f_X12_qJoins (x1 : Int32) (S : Hp) : Option Hp :=
  ldJ S 106 1700 ((S.1 0 106) - (1 : Int32)) (fun v1 => ldJ S 106 1700 ((S.1 0 106) - (2 : Int32)) (fun v2 => le1 (ho_sI S 0 106 ((S.1 0 106) - (2 : Int32))) (fun S3 => if x1 = (1 : Int32) then ob2 (f_X12_qClip (v2 + v1) S3) (fun r4 S4 => ob (f_X12_qPuts r4 S4) (fun S5 => some S5)) else if x1 = (2 : Int32) then ob2 (f_X12_qClip (v2 - v1) S3) (fun r6 S6 => ob (f_X12_qPuts r6 S6) (fun S7 => some S7)) else if x1 = (3 : Int32) then ob2 (f_X12_qClip (v2 * v1) S3) (fun r8 S8 => ob (f_X12_qPuts r8 S8) (fun S9 => some S9)) else if x1 = (4 : Int32) then ob2 (f_X12_qFloor v2 v1 S3) (fun r10 S10 => ob (f_X12_qPuts r10 S10) (fun S11 => some S11)) else if x1 = (5 : Int32) then if 0 ≤ (lg_cmp v2 v1) then f_X12_qJoins_161 v1 S3 else f_X12_qJoins_161 v2 S3 else if x1 = (6 : Int32) then if (lg_cmp v2 v1) ≤ 0 then f_X12_qJoins_181 v1 S3 else f_X12_qJoins_181 v2 S3 else if x1 = (7 : Int32) then if 0 ≤ (lg_cmp v2 v1) then f_X12_qJoins_200 (0 : Int64) S3 else f_X12_qJoins_200 (1 : Int64) S3 else if x1 = (8 : Int32) then if (lg_cmp v2 v1) ≤ 0 then f_X12_qJoins_219 (0 : Int64) S3 else f_X12_qJoins_219 (1 : Int64) S3 else if x1 = (9 : Int32) then if (lg_cmp v2 v1) = 0 then f_X12_qJoins_238 (1 : Int64) S3 else f_X12_qJoins_238 (0 : Int64) S3 else if x1 = (10 : Int32) then ob (f_X12_qPuts (v2 * v1) S3) (fun S12 => some S12) else if (lg_cmp (v2 + v1) (0 : Int64)) ≤ 0 then f_X12_qJoins_270 (0 : Int64) S3 else f_X12_qJoins_270 (1 : Int64) S3)))
set_option maxHeartbeats 4000000 in
set_option maxRecDepth 100000 in
theorem c_X12_qJoins (l : Launch) (E : Ev) (x1 : Int32) (S : Hp) (r : Hp) (h : f_X12_qJoins x1 S = some r) : ho_M l yM E yX12_qJoins cX12_qJoins 6 none 1 [.ref (E.2.1 0), .int x1] S (none, r) := by
  refine ho_in (by decide) (Nat.le_of_ble_eq_true rfl) ?_
  intro p e s m args below meth c C hR ls hl
  have C : ho_I p s m args meth c RX12 cX12_qJoins 6 none := C
  have hl : lv_has ls 6 [(0, .ref (E.2.1 0)), (1, .int x1)] := hl
  unfold f_X12_qJoins at h
  refine lv_aload_n C.1 C.2.1 dX12_qJoins_0 rfl (lv_at hl 0 rfl) ?_
  refine ho_getR (a' := 106) C cf12 fM_255 hR aM_0 rfl dX12_qJoins_1 ?_
  refine lv_aload_n C.1 C.2.1 dX12_qJoins_4 rfl (lv_at hl 0 rfl) ?_
  refine ho_getI C cf12 fM_416 hR aM_0 dX12_qJoins_5 ?_
  refine lv_iconst (v := (1 : Int32)) C.1 C.2.1 dX12_qJoins_8 (by decide) ?_
  refine lv_isub C.1 C.2.1 dX12_qJoins_9 ?_
  obtain ⟨v1, e1, hi1, h⟩ := ldJ_ok h
  refine hr_lld C hR aM_106 hi1 e1 dX12_qJoins_10 ?_
  refine lv_lstore_n (lv' := [(2, .long v1), (0, .ref (E.2.1 0)), (1, .int x1)]) C.1 C.2.1 dX12_qJoins_11 rfl hl (by decide) rfl (fun ls hl => ?_)
  refine lv_aload_n C.1 C.2.1 dX12_qJoins_12 rfl (lv_at hl 1 rfl) ?_
  refine ho_getR (a' := 106) C cf12 fM_255 hR aM_0 rfl dX12_qJoins_13 ?_
  refine lv_aload_n C.1 C.2.1 dX12_qJoins_16 rfl (lv_at hl 1 rfl) ?_
  refine ho_getI C cf12 fM_416 hR aM_0 dX12_qJoins_17 ?_
  refine lv_iconst (v := (2 : Int32)) C.1 C.2.1 dX12_qJoins_20 (by decide) ?_
  refine lv_isub C.1 C.2.1 dX12_qJoins_21 ?_
  obtain ⟨v2, e2, hi2, h⟩ := ldJ_ok h
  refine hr_lld C hR aM_106 hi2 e2 dX12_qJoins_22 ?_
  refine lv_lstore (lv' := [(4, .long v2), (2, .long v1), (0, .ref (E.2.1 0)), (1, .int x1)]) C.1 C.2.1 dX12_qJoins_23 hl (by decide) rfl (fun ls hl => ?_)
  refine lv_aload_n C.1 C.2.1 dX12_qJoins_25 rfl (lv_at hl 2 rfl) ?_
  refine lv_dup C.1 C.2.1 dX12_qJoins_26 rfl ?_
  refine ho_getI C cf12 fM_416 hR aM_0 dX12_qJoins_27 ?_
  refine lv_iconst (v := (2 : Int32)) C.1 C.2.1 dX12_qJoins_30 (by decide) ?_
  refine lv_isub C.1 C.2.1 dX12_qJoins_31 ?_
  obtain ⟨S3, e3, h⟩ := le1_ok h
  refine hr_putI C cf12 fM_416 hR aM_0 e3 dX12_qJoins_32 (fun H locs hR => ?_)
  refine lv_iload_n C.1 C.2.1 dX12_qJoins_35 rfl (lv_at hl 3 rfl) ?_
  by_cases hc0 : x1 = (1 : Int32)
  · replace h := if_t h hc0
    have hx : (x1).toInt = 1 := by rw [hc0]; decide
    refine lv_tableIn (off := 56) (tgt := 92) C.1 C.2.1 dX12_qJoins_36 (by rw [hx]; decide) (by rw [hx]; decide) (by rw [hx]; decide) (by decide) ?_
    refine lv_aload_n C.1 C.2.1 dX12_qJoins_92 rfl (lv_at hl 2 rfl) ?_
    refine lv_lload C.1 C.2.1 dX12_qJoins_93 (lv_at hl 0 rfl) ?_
    refine lv_lload_n C.1 C.2.1 dX12_qJoins_95 rfl (lv_at hl 1 rfl) ?_
    refine lv_ladd C.1 C.2.1 dX12_qJoins_96 ?_
    obtain ⟨r4, S4, h4, h⟩ := ob2_ok h
    refine hr_Sl (w := r4) (S' := S4) (As := [.long (v2 + v1)]) (rest := [.ref (E.2.1 0)]) C (c_X12_qClip l E (v2 + v1) _ _ h4) ys_X12_qClip lk_RX12_665 rfl rfl hl.1 (Nat.le_of_ble_eq_true rfl) (by decide) (by decide) hR (ho_A hR) dX12_qJoins_97 (fun H locs hR => ?_)
    obtain ⟨S5, h5, h⟩ := ob_ok h
    refine hr_Vv (S' := S5) (As := [.long r4]) (rest := []) C cf12 (c_X12_qPuts l E r4 _ _ h5) yv_X12_qPuts lk_RX12_419 rfl aM_0 rfl rfl hl.1 (Nat.le_of_ble_eq_true rfl) (by decide) (by decide) hR (ho_A hR) dX12_qJoins_100 (fun H locs hR => ?_)
    refine lv_goto (tgt := 273) C.1 C.2.1 dX12_qJoins_103 (by decide) ?_
    exact ho_vret C hR h dX12_qJoins_273
  · replace h := if_f h hc0
    by_cases hc1 : x1 = (2 : Int32)
    · replace h := if_t h hc1
      have hx : (x1).toInt = 2 := by rw [hc1]; decide
      refine lv_tableIn (off := 70) (tgt := 106) C.1 C.2.1 dX12_qJoins_36 (by rw [hx]; decide) (by rw [hx]; decide) (by rw [hx]; decide) (by decide) ?_
      refine lv_aload_n C.1 C.2.1 dX12_qJoins_106 rfl (lv_at hl 2 rfl) ?_
      refine lv_lload C.1 C.2.1 dX12_qJoins_107 (lv_at hl 0 rfl) ?_
      refine lv_lload_n C.1 C.2.1 dX12_qJoins_109 rfl (lv_at hl 1 rfl) ?_
      refine lv_lsub C.1 C.2.1 dX12_qJoins_110 ?_
      obtain ⟨r6, S6, h6, h⟩ := ob2_ok h
      refine hr_Sl (w := r6) (S' := S6) (As := [.long (v2 - v1)]) (rest := [.ref (E.2.1 0)]) C (c_X12_qClip l E (v2 - v1) _ _ h6) ys_X12_qClip lk_RX12_665 rfl rfl hl.1 (Nat.le_of_ble_eq_true rfl) (by decide) (by decide) hR (ho_A hR) dX12_qJoins_111 (fun H locs hR => ?_)
      obtain ⟨S7, h7, h⟩ := ob_ok h
      refine hr_Vv (S' := S7) (As := [.long r6]) (rest := []) C cf12 (c_X12_qPuts l E r6 _ _ h7) yv_X12_qPuts lk_RX12_419 rfl aM_0 rfl rfl hl.1 (Nat.le_of_ble_eq_true rfl) (by decide) (by decide) hR (ho_A hR) dX12_qJoins_114 (fun H locs hR => ?_)
      refine lv_goto (tgt := 273) C.1 C.2.1 dX12_qJoins_117 (by decide) ?_
      exact ho_vret C hR h dX12_qJoins_273
    · replace h := if_f h hc1
      by_cases hc2 : x1 = (3 : Int32)
      · replace h := if_t h hc2
        have hx : (x1).toInt = 3 := by rw [hc2]; decide
        refine lv_tableIn (off := 84) (tgt := 120) C.1 C.2.1 dX12_qJoins_36 (by rw [hx]; decide) (by rw [hx]; decide) (by rw [hx]; decide) (by decide) ?_
        refine lv_aload_n C.1 C.2.1 dX12_qJoins_120 rfl (lv_at hl 2 rfl) ?_
        refine lv_lload C.1 C.2.1 dX12_qJoins_121 (lv_at hl 0 rfl) ?_
        refine lv_lload_n C.1 C.2.1 dX12_qJoins_123 rfl (lv_at hl 1 rfl) ?_
        refine lv_lmul C.1 C.2.1 dX12_qJoins_124 ?_
        obtain ⟨r8, S8, h8, h⟩ := ob2_ok h
        refine hr_Sl (w := r8) (S' := S8) (As := [.long (v2 * v1)]) (rest := [.ref (E.2.1 0)]) C (c_X12_qClip l E (v2 * v1) _ _ h8) ys_X12_qClip lk_RX12_665 rfl rfl hl.1 (Nat.le_of_ble_eq_true rfl) (by decide) (by decide) hR (ho_A hR) dX12_qJoins_125 (fun H locs hR => ?_)
        obtain ⟨S9, h9, h⟩ := ob_ok h
        refine hr_Vv (S' := S9) (As := [.long r8]) (rest := []) C cf12 (c_X12_qPuts l E r8 _ _ h9) yv_X12_qPuts lk_RX12_419 rfl aM_0 rfl rfl hl.1 (Nat.le_of_ble_eq_true rfl) (by decide) (by decide) hR (ho_A hR) dX12_qJoins_128 (fun H locs hR => ?_)
        refine lv_goto (tgt := 273) C.1 C.2.1 dX12_qJoins_131 (by decide) ?_
        exact ho_vret C hR h dX12_qJoins_273
      · replace h := if_f h hc2
        by_cases hc3 : x1 = (4 : Int32)
        · replace h := if_t h hc3
          have hx : (x1).toInt = 4 := by rw [hc3]; decide
          refine lv_tableIn (off := 98) (tgt := 134) C.1 C.2.1 dX12_qJoins_36 (by rw [hx]; decide) (by rw [hx]; decide) (by rw [hx]; decide) (by decide) ?_
          refine lv_aload_n C.1 C.2.1 dX12_qJoins_134 rfl (lv_at hl 2 rfl) ?_
          refine lv_lload C.1 C.2.1 dX12_qJoins_135 (lv_at hl 0 rfl) ?_
          refine lv_lload_n C.1 C.2.1 dX12_qJoins_137 rfl (lv_at hl 1 rfl) ?_
          obtain ⟨r10, S10, h10, h⟩ := ob2_ok h
          refine hr_Sl (w := r10) (S' := S10) (As := [.long v2, .long v1]) (rest := [.ref (E.2.1 0)]) C (c_X12_qFloor l E v2 v1 _ _ h10) ys_X12_qFloor lk_RX12_669 rfl rfl hl.1 (Nat.le_of_ble_eq_true rfl) (by decide) (by decide) hR (ho_A hR) dX12_qJoins_138 (fun H locs hR => ?_)
          obtain ⟨S11, h11, h⟩ := ob_ok h
          refine hr_Vv (S' := S11) (As := [.long r10]) (rest := []) C cf12 (c_X12_qPuts l E r10 _ _ h11) yv_X12_qPuts lk_RX12_419 rfl aM_0 rfl rfl hl.1 (Nat.le_of_ble_eq_true rfl) (by decide) (by decide) hR (ho_A hR) dX12_qJoins_141 (fun H locs hR => ?_)
          refine lv_goto (tgt := 273) C.1 C.2.1 dX12_qJoins_144 (by decide) ?_
          exact ho_vret C hR h dX12_qJoins_273
        · replace h := if_f h hc3
          by_cases hc4 : x1 = (5 : Int32)
          · replace h := if_t h hc4
            have hx : (x1).toInt = 5 := by rw [hc4]; decide
            refine lv_tableIn (off := 111) (tgt := 147) C.1 C.2.1 dX12_qJoins_36 (by rw [hx]; decide) (by rw [hx]; decide) (by rw [hx]; decide) (by decide) ?_
            refine lv_aload_n C.1 C.2.1 dX12_qJoins_147 rfl (lv_at hl 2 rfl) ?_
            refine lv_lload C.1 C.2.1 dX12_qJoins_148 (lv_at hl 0 rfl) ?_
            refine lv_lload_n C.1 C.2.1 dX12_qJoins_150 rfl (lv_at hl 1 rfl) ?_
            refine W.lcmp C.1 C.2.1 dX12_qJoins_151 ?_
            refine lv_if_ge (tgt := 160) C.1 C.2.1 dX12_qJoins_152 (by decide) (fun hc => ?_) (fun hc => ?_)
            · replace h := if_t h hc
              refine lv_lload_n C.1 C.2.1 dX12_qJoins_160 rfl (lv_at hl 1 rfl) ?_
              exact w_X12_qJoins_161 C v1 S3 h _ _ _ hR (lv_sub hl [] rfl)
            · replace h := if_f h hc
              refine lv_lload C.1 C.2.1 dX12_qJoins_155 (lv_at hl 0 rfl) ?_
              refine lv_goto (tgt := 161) C.1 C.2.1 dX12_qJoins_157 (by decide) ?_
              exact w_X12_qJoins_161 C v2 S3 h _ _ _ hR (lv_sub hl [] rfl)
          · replace h := if_f h hc4
            by_cases hc5 : x1 = (6 : Int32)
            · replace h := if_t h hc5
              have hx : (x1).toInt = 6 := by rw [hc5]; decide
              refine lv_tableIn (off := 131) (tgt := 167) C.1 C.2.1 dX12_qJoins_36 (by rw [hx]; decide) (by rw [hx]; decide) (by rw [hx]; decide) (by decide) ?_
              refine lv_aload_n C.1 C.2.1 dX12_qJoins_167 rfl (lv_at hl 2 rfl) ?_
              refine lv_lload C.1 C.2.1 dX12_qJoins_168 (lv_at hl 0 rfl) ?_
              refine lv_lload_n C.1 C.2.1 dX12_qJoins_170 rfl (lv_at hl 1 rfl) ?_
              refine W.lcmp C.1 C.2.1 dX12_qJoins_171 ?_
              refine lv_if_le (tgt := 180) C.1 C.2.1 dX12_qJoins_172 (by decide) (fun hc => ?_) (fun hc => ?_)
              · replace h := if_t h hc
                refine lv_lload_n C.1 C.2.1 dX12_qJoins_180 rfl (lv_at hl 1 rfl) ?_
                exact w_X12_qJoins_181 C v1 S3 h _ _ _ hR (lv_sub hl [] rfl)
              · replace h := if_f h hc
                refine lv_lload C.1 C.2.1 dX12_qJoins_175 (lv_at hl 0 rfl) ?_
                refine lv_goto (tgt := 181) C.1 C.2.1 dX12_qJoins_177 (by decide) ?_
                exact w_X12_qJoins_181 C v2 S3 h _ _ _ hR (lv_sub hl [] rfl)
            · replace h := if_f h hc5
              by_cases hc6 : x1 = (7 : Int32)
              · replace h := if_t h hc6
                have hx : (x1).toInt = 7 := by rw [hc6]; decide
                refine lv_tableIn (off := 151) (tgt := 187) C.1 C.2.1 dX12_qJoins_36 (by rw [hx]; decide) (by rw [hx]; decide) (by rw [hx]; decide) (by decide) ?_
                refine lv_aload_n C.1 C.2.1 dX12_qJoins_187 rfl (lv_at hl 2 rfl) ?_
                refine lv_lload C.1 C.2.1 dX12_qJoins_188 (lv_at hl 0 rfl) ?_
                refine lv_lload_n C.1 C.2.1 dX12_qJoins_190 rfl (lv_at hl 1 rfl) ?_
                refine W.lcmp C.1 C.2.1 dX12_qJoins_191 ?_
                refine lv_if_ge (tgt := 199) C.1 C.2.1 dX12_qJoins_192 (by decide) (fun hc => ?_) (fun hc => ?_)
                · replace h := if_t h hc
                  refine lv_lconst (v := (0 : Int64)) C.1 C.2.1 dX12_qJoins_199 (by decide) ?_
                  exact w_X12_qJoins_200 C (0 : Int64) S3 h _ _ _ hR (lv_sub hl [] rfl)
                · replace h := if_f h hc
                  refine lv_lconst (v := (1 : Int64)) C.1 C.2.1 dX12_qJoins_195 (by decide) ?_
                  refine lv_goto (tgt := 200) C.1 C.2.1 dX12_qJoins_196 (by decide) ?_
                  exact w_X12_qJoins_200 C (1 : Int64) S3 h _ _ _ hR (lv_sub hl [] rfl)
              · replace h := if_f h hc6
                by_cases hc7 : x1 = (8 : Int32)
                · replace h := if_t h hc7
                  have hx : (x1).toInt = 8 := by rw [hc7]; decide
                  refine lv_tableIn (off := 170) (tgt := 206) C.1 C.2.1 dX12_qJoins_36 (by rw [hx]; decide) (by rw [hx]; decide) (by rw [hx]; decide) (by decide) ?_
                  refine lv_aload_n C.1 C.2.1 dX12_qJoins_206 rfl (lv_at hl 2 rfl) ?_
                  refine lv_lload C.1 C.2.1 dX12_qJoins_207 (lv_at hl 0 rfl) ?_
                  refine lv_lload_n C.1 C.2.1 dX12_qJoins_209 rfl (lv_at hl 1 rfl) ?_
                  refine W.lcmp C.1 C.2.1 dX12_qJoins_210 ?_
                  refine lv_if_le (tgt := 218) C.1 C.2.1 dX12_qJoins_211 (by decide) (fun hc => ?_) (fun hc => ?_)
                  · replace h := if_t h hc
                    refine lv_lconst (v := (0 : Int64)) C.1 C.2.1 dX12_qJoins_218 (by decide) ?_
                    exact w_X12_qJoins_219 C (0 : Int64) S3 h _ _ _ hR (lv_sub hl [] rfl)
                  · replace h := if_f h hc
                    refine lv_lconst (v := (1 : Int64)) C.1 C.2.1 dX12_qJoins_214 (by decide) ?_
                    refine lv_goto (tgt := 219) C.1 C.2.1 dX12_qJoins_215 (by decide) ?_
                    exact w_X12_qJoins_219 C (1 : Int64) S3 h _ _ _ hR (lv_sub hl [] rfl)
                · replace h := if_f h hc7
                  by_cases hc8 : x1 = (9 : Int32)
                  · replace h := if_t h hc8
                    have hx : (x1).toInt = 9 := by rw [hc8]; decide
                    refine lv_tableIn (off := 189) (tgt := 225) C.1 C.2.1 dX12_qJoins_36 (by rw [hx]; decide) (by rw [hx]; decide) (by rw [hx]; decide) (by decide) ?_
                    refine lv_aload_n C.1 C.2.1 dX12_qJoins_225 rfl (lv_at hl 2 rfl) ?_
                    refine lv_lload C.1 C.2.1 dX12_qJoins_226 (lv_at hl 0 rfl) ?_
                    refine lv_lload_n C.1 C.2.1 dX12_qJoins_228 rfl (lv_at hl 1 rfl) ?_
                    refine W.lcmp C.1 C.2.1 dX12_qJoins_229 ?_
                    refine lv_if_ne (tgt := 237) C.1 C.2.1 dX12_qJoins_230 (by decide) (fun hc => ?_) (fun hc => ?_)
                    · replace h := if_f h hc
                      refine lv_lconst (v := (0 : Int64)) C.1 C.2.1 dX12_qJoins_237 (by decide) ?_
                      exact w_X12_qJoins_238 C (0 : Int64) S3 h _ _ _ hR (lv_sub hl [] rfl)
                    · replace h := if_t h hc
                      refine lv_lconst (v := (1 : Int64)) C.1 C.2.1 dX12_qJoins_233 (by decide) ?_
                      refine lv_goto (tgt := 238) C.1 C.2.1 dX12_qJoins_234 (by decide) ?_
                      exact w_X12_qJoins_238 C (1 : Int64) S3 h _ _ _ hR (lv_sub hl [] rfl)
                  · replace h := if_f h hc8
                    by_cases hc9 : x1 = (10 : Int32)
                    · replace h := if_t h hc9
                      have hx : (x1).toInt = 10 := by rw [hc9]; decide
                      refine lv_tableIn (off := 208) (tgt := 244) C.1 C.2.1 dX12_qJoins_36 (by rw [hx]; decide) (by rw [hx]; decide) (by rw [hx]; decide) (by decide) ?_
                      refine lv_aload_n C.1 C.2.1 dX12_qJoins_244 rfl (lv_at hl 2 rfl) ?_
                      refine lv_lload C.1 C.2.1 dX12_qJoins_245 (lv_at hl 0 rfl) ?_
                      refine lv_lload_n C.1 C.2.1 dX12_qJoins_247 rfl (lv_at hl 1 rfl) ?_
                      refine lv_lmul C.1 C.2.1 dX12_qJoins_248 ?_
                      obtain ⟨S12, h12, h⟩ := ob_ok h
                      refine hr_Vv (S' := S12) (As := [.long (v2 * v1)]) (rest := []) C cf12 (c_X12_qPuts l E (v2 * v1) _ _ h12) yv_X12_qPuts lk_RX12_419 rfl aM_0 rfl rfl hl.1 (Nat.le_of_ble_eq_true rfl) (by decide) (by decide) hR (ho_A hR) dX12_qJoins_249 (fun H locs hR => ?_)
                      refine lv_goto (tgt := 273) C.1 C.2.1 dX12_qJoins_252 (by decide) ?_
                      exact ho_vret C hR h dX12_qJoins_273
                    · replace h := if_f h hc9
                      have hx0 := lv_neT hc0 (a := 1) (by decide)
                      have hx1 := lv_neT hc1 (a := 2) (by decide)
                      have hx2 := lv_neT hc2 (a := 3) (by decide)
                      have hx3 := lv_neT hc3 (a := 4) (by decide)
                      have hx4 := lv_neT hc4 (a := 5) (by decide)
                      have hx5 := lv_neT hc5 (a := 6) (by decide)
                      have hx6 := lv_neT hc6 (a := 7) (by decide)
                      have hx7 := lv_neT hc7 (a := 8) (by decide)
                      have hx8 := lv_neT hc8 (a := 9) (by decide)
                      have hx9 := lv_neT hc9 (a := 10) (by decide)
                      refine lv_tableOut (tgt := 255) C.1 C.2.1 dX12_qJoins_36 (by omega) (by decide) ?_
                      refine lv_aload_n C.1 C.2.1 dX12_qJoins_255 rfl (lv_at hl 2 rfl) ?_
                      refine lv_lload C.1 C.2.1 dX12_qJoins_256 (lv_at hl 0 rfl) ?_
                      refine lv_lload_n C.1 C.2.1 dX12_qJoins_258 rfl (lv_at hl 1 rfl) ?_
                      refine lv_ladd C.1 C.2.1 dX12_qJoins_259 ?_
                      refine lv_lconst (v := (0 : Int64)) C.1 C.2.1 dX12_qJoins_260 (by decide) ?_
                      refine W.lcmp C.1 C.2.1 dX12_qJoins_261 ?_
                      refine lv_if_le (tgt := 269) C.1 C.2.1 dX12_qJoins_262 (by decide) (fun hc => ?_) (fun hc => ?_)
                      · replace h := if_t h hc
                        refine lv_lconst (v := (0 : Int64)) C.1 C.2.1 dX12_qJoins_269 (by decide) ?_
                        exact w_X12_qJoins_270 C (0 : Int64) S3 h _ _ _ hR (lv_sub hl [] rfl)
                      · replace h := if_f h hc
                        refine lv_lconst (v := (1 : Int64)) C.1 C.2.1 dX12_qJoins_265 (by decide) ?_
                        refine lv_goto (tgt := 270) C.1 C.2.1 dX12_qJoins_266 (by decide) ?_
                        exact w_X12_qJoins_270 C (1 : Int64) S3 h _ _ _ hR (lv_sub hl [] rfl)
theorem dX12_codesTell_0 : decode cX12_codesTell 0 = .ok (.aload_n 0, 1) := by decide +kernel
theorem dX12_codesTell_1 : decode cX12_codesTell 1 = .ok (.iload_n 1, 1) := by decide +kernel
theorem dX12_codesTell_2 : decode cX12_codesTell 2 = .ok (.putfield 319, 3) := by decide +kernel
theorem dX12_codesTell_5 : decode cX12_codesTell 5 = .ok (.aload_n 0, 1) := by decide +kernel
theorem dX12_codesTell_6 : decode cX12_codesTell 6 = .ok (.iconst 0, 1) := by decide +kernel
theorem dX12_codesTell_7 : decode cX12_codesTell 7 = .ok (.putfield 416, 3) := by decide +kernel
theorem dX12_codesTell_10 : decode cX12_codesTell 10 = .ok (.aload_n 0, 1) := by decide +kernel
theorem dX12_codesTell_11 : decode cX12_codesTell 11 = .ok (.getfield 130, 3) := by decide +kernel
theorem dX12_codesTell_14 : decode cX12_codesTell 14 = .ok (.iconst 2, 1) := by decide +kernel
theorem dX12_codesTell_15 : decode cX12_codesTell 15 = .ok (.iload_n 1, 1) := by decide +kernel
theorem dX12_codesTell_16 : decode cX12_codesTell 16 = .ok (.iadd, 1) := by decide +kernel
theorem dX12_codesTell_17 : decode cX12_codesTell 17 = .ok (.iaload, 1) := by decide +kernel
theorem dX12_codesTell_18 : decode cX12_codesTell 18 = .ok (.istore_n 3, 1) := by decide +kernel
theorem dX12_codesTell_19 : decode cX12_codesTell 19 = .ok (.iload_n 3, 1) := by decide +kernel
theorem dX12_codesTell_20 : decode cX12_codesTell 20 = .ok (.aload_n 0, 1) := by decide +kernel
theorem dX12_codesTell_21 : decode cX12_codesTell 21 = .ok (.getfield 133, 3) := by decide +kernel
theorem dX12_codesTell_24 : decode cX12_codesTell 24 = .ok (.iconst 2, 1) := by decide +kernel
theorem dX12_codesTell_25 : decode cX12_codesTell 25 = .ok (.iload_n 1, 1) := by decide +kernel
theorem dX12_codesTell_26 : decode cX12_codesTell 26 = .ok (.iadd, 1) := by decide +kernel
theorem dX12_codesTell_27 : decode cX12_codesTell 27 = .ok (.iaload, 1) := by decide +kernel
theorem dX12_codesTell_28 : decode cX12_codesTell 28 = .ok (.if_icmp .ge 73, 3) := by decide +kernel
theorem dX12_codesTell_31 : decode cX12_codesTell 31 = .ok (.aload_n 0, 1) := by decide +kernel
theorem dX12_codesTell_32 : decode cX12_codesTell 32 = .ok (.getfield 136, 3) := by decide +kernel
theorem dX12_codesTell_35 : decode cX12_codesTell 35 = .ok (.sipush 1600, 3) := by decide +kernel
theorem dX12_codesTell_38 : decode cX12_codesTell 38 = .ok (.iload_n 3, 1) := by decide +kernel
theorem dX12_codesTell_39 : decode cX12_codesTell 39 = .ok (.iadd, 1) := by decide +kernel
theorem dX12_codesTell_40 : decode cX12_codesTell 40 = .ok (.iaload, 1) := by decide +kernel
theorem dX12_codesTell_41 : decode cX12_codesTell 41 = .ok (.istore 4, 2) := by decide +kernel
theorem dX12_codesTell_43 : decode cX12_codesTell 43 = .ok (.iload 4, 2) := by decide +kernel
theorem dX12_codesTell_45 : decode cX12_codesTell 45 = .ok (.sipush 1000, 3) := by decide +kernel
theorem dX12_codesTell_48 : decode cX12_codesTell 48 = .ok (.if_icmp .lt 17, 3) := by decide +kernel
theorem dX12_codesTell_51 : decode cX12_codesTell 51 = .ok (.aload_n 0, 1) := by decide +kernel
theorem dX12_codesTell_52 : decode cX12_codesTell 52 = .ok (.iload 4, 2) := by decide +kernel
theorem dX12_codesTell_54 : decode cX12_codesTell 54 = .ok (.sipush 1000, 3) := by decide +kernel
theorem dX12_codesTell_57 : decode cX12_codesTell 57 = .ok (.isub, 1) := by decide +kernel
theorem dX12_codesTell_58 : decode cX12_codesTell 58 = .ok (.i2l, 1) := by decide +kernel
theorem dX12_codesTell_59 : decode cX12_codesTell 59 = .ok (.invokevirtual 419, 3) := by decide +kernel
theorem dX12_codesTell_62 : decode cX12_codesTell 62 = .ok (.goto 33, 3) := by decide +kernel
theorem dX12_codesTell_65 : decode cX12_codesTell 65 = .ok (.iload 4, 2) := by decide +kernel
theorem dX12_codesTell_67 : decode cX12_codesTell 67 = .ok (.bipush 40, 2) := by decide +kernel
theorem dX12_codesTell_69 : decode cX12_codesTell 69 = .ok (.if_icmp .lt 20, 3) := by decide +kernel
theorem dX12_codesTell_72 : decode cX12_codesTell 72 = .ok (.aload_n 0, 1) := by decide +kernel
theorem dX12_codesTell_73 : decode cX12_codesTell 73 = .ok (.aload_n 0, 1) := by decide +kernel
theorem dX12_codesTell_74 : decode cX12_codesTell 74 = .ok (.iload 4, 2) := by decide +kernel
theorem dX12_codesTell_76 : decode cX12_codesTell 76 = .ok (.bipush 40, 2) := by decide +kernel
theorem dX12_codesTell_78 : decode cX12_codesTell 78 = .ok (.isub, 1) := by decide +kernel
theorem dX12_codesTell_79 : decode cX12_codesTell 79 = .ok (.iload_n 2, 1) := by decide +kernel
theorem dX12_codesTell_80 : decode cX12_codesTell 80 = .ok (.invokevirtual 423, 3) := by decide +kernel
theorem dX12_codesTell_83 : decode cX12_codesTell 83 = .ok (.invokevirtual 419, 3) := by decide +kernel
theorem dX12_codesTell_86 : decode cX12_codesTell 86 = .ok (.goto 9, 3) := by decide +kernel
theorem dX12_codesTell_89 : decode cX12_codesTell 89 = .ok (.aload_n 0, 1) := by decide +kernel
theorem dX12_codesTell_90 : decode cX12_codesTell 90 = .ok (.iload 4, 2) := by decide +kernel
theorem dX12_codesTell_92 : decode cX12_codesTell 92 = .ok (.invokevirtual 427, 3) := by decide +kernel
theorem dX12_codesTell_95 : decode cX12_codesTell 95 = .ok (.iinc 3 1, 3) := by decide +kernel
theorem dX12_codesTell_98 : decode cX12_codesTell 98 = .ok (.goto (-79), 3) := by decide +kernel
theorem dX12_codesTell_101 : decode cX12_codesTell 101 = .ok (.aload_n 0, 1) := by decide +kernel
theorem dX12_codesTell_102 : decode cX12_codesTell 102 = .ok (.getfield 255, 3) := by decide +kernel
theorem dX12_codesTell_105 : decode cX12_codesTell 105 = .ok (.iconst 0, 1) := by decide +kernel
theorem dX12_codesTell_106 : decode cX12_codesTell 106 = .ok (.laload, 1) := by decide +kernel
theorem dX12_codesTell_107 : decode cX12_codesTell 107 = .ok (.lreturn, 1) := by decide +kernel
def f_X12_codesTell_95 (K19 : Int32 → Int32 → Int32 → Hp → Option (Int64 × Hp)) (x1 : Int32) (x2 : Int32) (x3 : Int32) (S : Hp) : Option (Int64 × Hp) :=
  le1 (x3 + (1 : Int32)) (fun v1 => K19 x1 x2 v1 S)
set_option maxHeartbeats 4000000 in
set_option maxRecDepth 100000 in
theorem w_X12_codesTell_95 {p : Program} {l : Launch} {e : Env} {s : State} {m : MethodId} {args : Array Value} {below : List Frame} {meth : Method} {c : Code} {E : Ev} {S0 : Hp} {r : (Int64 × Hp)} (C : ho_I p s m args meth c RX12 cX12_codesTell 5 (some .long)) (K19 : Int32 → Int32 → Int32 → Hp → Option (Int64 × Hp)) (hK19 : ∀ (y1 : Int32) (y2 : Int32) (y3 : Int32) (S : Hp), K19 y1 y2 y3 S = some r → ho_G p l e s m args below meth c yM E S0 2 5 (some (.long r.1), r.2) 19 [(0, .ref (E.2.1 0)), (1, .int y1), (2, .int y2), (3, .int y3)] [] S) :
    ∀ (x1 : Int32) (x2 : Int32) (x3 : Int32) (S : Hp), f_X12_codesTell_95 K19 x1 x2 x3 S = some r → ho_G p l e s m args below meth c yM E S0 2 5 (some (.long r.1), r.2) 95 [(0, .ref (E.2.1 0)), (1, .int x1), (2, .int x2), (3, .int x3)] [] S := by
  intro x1 x2 x3 S h H locs ls hR hl
  unfold f_X12_codesTell_95 at h
  obtain ⟨v1, e1, h⟩ := le1_ok h
  refine lv_iinc (v := v1) (lv' := [(3, .int v1), (0, .ref (E.2.1 0)), (1, .int x1), (2, .int x2)]) C.1 C.2.1 dX12_codesTell_95 hl (k := 3) rfl (by rw [e1]; rfl) (by decide) rfl (fun ls hl => ?_)
  refine lv_goto (tgt := 19) C.1 C.2.1 dX12_codesTell_98 (by decide) ?_
  exact hK19 x1 x2 v1 S h _ _ _ hR (lv_sub hl [1, 2, 3, 0] rfl)
def f_X12_codesTell_19 : Nat → Int32 → Int32 → Int32 → Hp → Option (Int64 × Hp)
  | 0, _, _, _, _ => none
  | k + 1, x1, x2, x3, S => ldI S 49 4 ((2 : Int32) + x1) (fun v1 => if v1 ≤ x3 then ldJ S 106 1700 (0 : Int32) (fun v2 => some (v2, S)) else ldI S 50 3200 ((1600 : Int32) + x3) (fun v3 => if v3 < (1000 : Int32) then if v3 < (40 : Int32) then ob (f_X12_qJoins v3 S) (fun S4 => f_X12_codesTell_95 (f_X12_codesTell_19 k) x1 x2 x3 S4) else ob2 (f_X12_qPartOf (v3 - (40 : Int32)) x2 S) (fun r5 S5 => ob (f_X12_qPuts r5 S5) (fun S6 => f_X12_codesTell_95 (f_X12_codesTell_19 k) x1 x2 x3 S6)) else ob (f_X12_qPuts ((v3 - (1000 : Int32)).toInt64) S) (fun S7 => f_X12_codesTell_95 (f_X12_codesTell_19 k) x1 x2 x3 S7)))
set_option maxHeartbeats 4000000 in
set_option maxRecDepth 100000 in
theorem w_X12_codesTell_19 {p : Program} {l : Launch} {e : Env} {s : State} {m : MethodId} {args : Array Value} {below : List Frame} {meth : Method} {c : Code} {E : Ev} {S0 : Hp} {r : (Int64 × Hp)} (C : ho_I p s m args meth c RX12 cX12_codesTell 5 (some .long)) :
    ∀ (k : Nat) (x1 : Int32) (x2 : Int32) (x3 : Int32) (S : Hp), f_X12_codesTell_19 k x1 x2 x3 S = some r → ho_G p l e s m args below meth c yM E S0 2 5 (some (.long r.1), r.2) 19 [(0, .ref (E.2.1 0)), (1, .int x1), (2, .int x2), (3, .int x3)] [] S := by
  intro k
  induction k with
  | zero =>
    intro x1 x2 x3 S h
    exact absurd (show (none : Option (Int64 × Hp)) = some r from h) (by simp)
  | succ k ih =>
    intro x1 x2 x3 S h H locs ls hR hl
    rw [f_X12_codesTell_19] at h
    refine lv_iload_n C.1 C.2.1 dX12_codesTell_19 rfl (lv_at hl 3 rfl) ?_
    refine lv_aload_n C.1 C.2.1 dX12_codesTell_20 rfl (lv_at hl 0 rfl) ?_
    refine ho_getR (a' := 49) C cf12 fM_133 hR aM_0 rfl dX12_codesTell_21 ?_
    refine lv_iconst (v := (2 : Int32)) C.1 C.2.1 dX12_codesTell_24 (by decide) ?_
    refine lv_iload_n C.1 C.2.1 dX12_codesTell_25 rfl (lv_at hl 1 rfl) ?_
    refine lv_iadd C.1 C.2.1 dX12_codesTell_26 ?_
    obtain ⟨v1, e1, hi1, h⟩ := ldI_ok h
    refine hr_ild C hR aM_49 hi1 e1 dX12_codesTell_27 ?_
    refine lv_icmp_ge (tgt := 101) C.1 C.2.1 dX12_codesTell_28 (by decide) (fun hc => ?_) (fun hc => ?_)
    · replace h := if_t h hc
      refine lv_aload_n C.1 C.2.1 dX12_codesTell_101 rfl (lv_at hl 0 rfl) ?_
      refine ho_getR (a' := 106) C cf12 fM_255 hR aM_0 rfl dX12_codesTell_102 ?_
      refine lv_iconst (v := (0 : Int32)) C.1 C.2.1 dX12_codesTell_105 (by decide) ?_
      obtain ⟨v2, e2, hi2, h⟩ := ldJ_ok h
      refine hr_lld C hR aM_106 hi2 e2 dX12_codesTell_106 ?_
      exact ho_lret C hR h dX12_codesTell_107
    · replace h := if_f h hc
      refine lv_aload_n C.1 C.2.1 dX12_codesTell_31 rfl (lv_at hl 0 rfl) ?_
      refine ho_getR (a' := 50) C cf12 fM_136 hR aM_0 rfl dX12_codesTell_32 ?_
      refine lv_sipush (v := (1600 : Int32)) C.1 C.2.1 dX12_codesTell_35 (by decide) ?_
      refine lv_iload_n C.1 C.2.1 dX12_codesTell_38 rfl (lv_at hl 3 rfl) ?_
      refine lv_iadd C.1 C.2.1 dX12_codesTell_39 ?_
      obtain ⟨v3, e3, hi3, h⟩ := ldI_ok h
      refine hr_ild C hR aM_50 hi3 e3 dX12_codesTell_40 ?_
      refine lv_istore (lv' := [(4, .int v3), (0, .ref (E.2.1 0)), (1, .int x1), (2, .int x2), (3, .int x3)]) C.1 C.2.1 dX12_codesTell_41 hl (by decide) rfl (fun ls hl => ?_)
      refine lv_iload C.1 C.2.1 dX12_codesTell_43 (lv_at hl 0 rfl) ?_
      refine lv_sipush (v := (1000 : Int32)) C.1 C.2.1 dX12_codesTell_45 (by decide) ?_
      refine lv_icmp_lt (tgt := 65) C.1 C.2.1 dX12_codesTell_48 (by decide) (fun hc => ?_) (fun hc => ?_)
      · replace h := if_t h hc
        refine lv_iload C.1 C.2.1 dX12_codesTell_65 (lv_at hl 0 rfl) ?_
        refine lv_bipush (v := (40 : Int32)) C.1 C.2.1 dX12_codesTell_67 (by decide) ?_
        refine lv_icmp_lt (tgt := 89) C.1 C.2.1 dX12_codesTell_69 (by decide) (fun hc => ?_) (fun hc => ?_)
        · replace h := if_t h hc
          refine lv_aload_n C.1 C.2.1 dX12_codesTell_89 rfl (lv_at hl 1 rfl) ?_
          refine lv_iload C.1 C.2.1 dX12_codesTell_90 (lv_at hl 0 rfl) ?_
          obtain ⟨S4, h4, h⟩ := ob_ok h
          refine hr_Vv (S' := S4) (As := [.int v3]) (rest := []) C cf12 (c_X12_qJoins l E v3 _ _ h4) yv_X12_qJoins lk_RX12_427 rfl aM_0 rfl rfl hl.1 (Nat.le_of_ble_eq_true rfl) (by decide) (by decide) hR (ho_A hR) dX12_codesTell_92 (fun H locs hR => ?_)
          exact w_X12_codesTell_95 C (f_X12_codesTell_19 k) ih x1 x2 x3 S4 h _ _ _ hR (lv_sub hl [1, 2, 3, 4] rfl)
        · replace h := if_f h hc
          refine lv_aload_n C.1 C.2.1 dX12_codesTell_72 rfl (lv_at hl 1 rfl) ?_
          refine lv_aload_n C.1 C.2.1 dX12_codesTell_73 rfl (lv_at hl 1 rfl) ?_
          refine lv_iload C.1 C.2.1 dX12_codesTell_74 (lv_at hl 0 rfl) ?_
          refine lv_bipush (v := (40 : Int32)) C.1 C.2.1 dX12_codesTell_76 (by decide) ?_
          refine lv_isub C.1 C.2.1 dX12_codesTell_78 ?_
          refine lv_iload_n C.1 C.2.1 dX12_codesTell_79 rfl (lv_at hl 3 rfl) ?_
          obtain ⟨r5, S5, h5, h⟩ := ob2_ok h
          refine hr_Vl (w := r5) (S' := S5) (As := [.int (v3 - (40 : Int32)), .int x2]) (rest := [.ref (E.2.1 0)]) C cf12 (c_X12_qPartOf l E (v3 - (40 : Int32)) x2 _ _ h5) yv_X12_qPartOf lk_RX12_423 rfl aM_0 rfl rfl hl.1 (Nat.le_of_ble_eq_true rfl) (by decide) (by decide) hR (ho_A hR) dX12_codesTell_80 (fun H locs hR => ?_)
          obtain ⟨S6, h6, h⟩ := ob_ok h
          refine hr_Vv (S' := S6) (As := [.long r5]) (rest := []) C cf12 (c_X12_qPuts l E r5 _ _ h6) yv_X12_qPuts lk_RX12_419 rfl aM_0 rfl rfl hl.1 (Nat.le_of_ble_eq_true rfl) (by decide) (by decide) hR (ho_A hR) dX12_codesTell_83 (fun H locs hR => ?_)
          refine lv_goto (tgt := 95) C.1 C.2.1 dX12_codesTell_86 (by decide) ?_
          exact w_X12_codesTell_95 C (f_X12_codesTell_19 k) ih x1 x2 x3 S6 h _ _ _ hR (lv_sub hl [1, 2, 3, 4] rfl)
      · replace h := if_f h hc
        refine lv_aload_n C.1 C.2.1 dX12_codesTell_51 rfl (lv_at hl 1 rfl) ?_
        refine lv_iload C.1 C.2.1 dX12_codesTell_52 (lv_at hl 0 rfl) ?_
        refine lv_sipush (v := (1000 : Int32)) C.1 C.2.1 dX12_codesTell_54 (by decide) ?_
        refine lv_isub C.1 C.2.1 dX12_codesTell_57 ?_
        refine lv_i2l (v := ((v3 - (1000 : Int32)).toInt64)) C.1 C.2.1 dX12_codesTell_58 rfl ?_
        obtain ⟨S7, h7, h⟩ := ob_ok h
        refine hr_Vv (S' := S7) (As := [.long ((v3 - (1000 : Int32)).toInt64)]) (rest := []) C cf12 (c_X12_qPuts l E ((v3 - (1000 : Int32)).toInt64) _ _ h7) yv_X12_qPuts lk_RX12_419 rfl aM_0 rfl rfl hl.1 (Nat.le_of_ble_eq_true rfl) (by decide) (by decide) hR (ho_A hR) dX12_codesTell_59 (fun H locs hR => ?_)
        refine lv_goto (tgt := 95) C.1 C.2.1 dX12_codesTell_62 (by decide) ?_
        exact w_X12_codesTell_95 C (f_X12_codesTell_19 k) ih x1 x2 x3 S7 h _ _ _ hR (lv_sub hl [1, 2, 3, 4] rfl)
def f_X12_codesTell (x1 : Int32) (x2 : Int32) (S : Hp) : Option (Int64 × Hp) :=
  le1 (ho_sI S 0 53 x1) (fun S1 => le1 (ho_sI S1 0 106 (0 : Int32)) (fun S2 => ldI S2 48 4 ((2 : Int32) + x1) (fun v3 => f_X12_codesTell_19 5000 x1 x2 v3 S2)))
set_option maxHeartbeats 4000000 in
set_option maxRecDepth 100000 in
theorem c_X12_codesTell (l : Launch) (E : Ev) (x1 : Int32) (x2 : Int32) (S : Hp) (r : (Int64 × Hp)) (h : f_X12_codesTell x1 x2 S = some r) : ho_M l yM E yX12_codesTell cX12_codesTell 5 (some .long) 2 [.ref (E.2.1 0), .int x1, .int x2] S (some (.long r.1), r.2) := by
  refine ho_in (by decide) (Nat.le_of_ble_eq_true rfl) ?_
  intro p e s m args below meth c C hR ls hl
  have C : ho_I p s m args meth c RX12 cX12_codesTell 5 (some .long) := C
  have hl : lv_has ls 5 [(0, .ref (E.2.1 0)), (1, .int x1), (2, .int x2)] := hl
  unfold f_X12_codesTell at h
  refine lv_aload_n C.1 C.2.1 dX12_codesTell_0 rfl (lv_at hl 0 rfl) ?_
  refine lv_iload_n C.1 C.2.1 dX12_codesTell_1 rfl (lv_at hl 1 rfl) ?_
  obtain ⟨S1, e1, h⟩ := le1_ok h
  refine hr_putI C cf12 fM_319 hR aM_0 e1 dX12_codesTell_2 (fun H locs hR => ?_)
  refine lv_aload_n C.1 C.2.1 dX12_codesTell_5 rfl (lv_at hl 0 rfl) ?_
  refine lv_iconst (v := (0 : Int32)) C.1 C.2.1 dX12_codesTell_6 (by decide) ?_
  obtain ⟨S2, e2, h⟩ := le1_ok h
  refine hr_putI C cf12 fM_416 hR aM_0 e2 dX12_codesTell_7 (fun H locs hR => ?_)
  refine lv_aload_n C.1 C.2.1 dX12_codesTell_10 rfl (lv_at hl 0 rfl) ?_
  refine ho_getR (a' := 48) C cf12 fM_130 hR aM_0 rfl dX12_codesTell_11 ?_
  refine lv_iconst (v := (2 : Int32)) C.1 C.2.1 dX12_codesTell_14 (by decide) ?_
  refine lv_iload_n C.1 C.2.1 dX12_codesTell_15 rfl (lv_at hl 1 rfl) ?_
  refine lv_iadd C.1 C.2.1 dX12_codesTell_16 ?_
  obtain ⟨v3, e3, hi3, h⟩ := ldI_ok h
  refine hr_ild C hR aM_48 hi3 e3 dX12_codesTell_17 ?_
  refine lv_istore_n (lv' := [(3, .int v3), (0, .ref (E.2.1 0)), (1, .int x1), (2, .int x2)]) C.1 C.2.1 dX12_codesTell_18 rfl hl (by decide) rfl (fun ls hl => ?_)
  exact w_X12_codesTell_19 C 5000 x1 x2 v3 S2 h _ _ _ hR (lv_sub hl [1, 2, 3, 0] rfl)
theorem dX12_sightBy_0 : decode cX12_sightBy 0 = .ok (.aload_n 0, 1) := by decide +kernel
theorem dX12_sightBy_1 : decode cX12_sightBy 1 = .ok (.getfield 124, 3) := by decide +kernel
theorem dX12_sightBy_4 : decode cX12_sightBy 4 = .ok (.bipush 11, 2) := by decide +kernel
theorem dX12_sightBy_6 : decode cX12_sightBy 6 = .ok (.iconst 2, 1) := by decide +kernel
theorem dX12_sightBy_7 : decode cX12_sightBy 7 = .ok (.iload_n 2, 1) := by decide +kernel
theorem dX12_sightBy_8 : decode cX12_sightBy 8 = .ok (.imul, 1) := by decide +kernel
theorem dX12_sightBy_9 : decode cX12_sightBy 9 = .ok (.iadd, 1) := by decide +kernel
theorem dX12_sightBy_10 : decode cX12_sightBy 10 = .ok (.iaload, 1) := by decide +kernel
theorem dX12_sightBy_11 : decode cX12_sightBy 11 = .ok (.istore 4, 2) := by decide +kernel
theorem dX12_sightBy_13 : decode cX12_sightBy 13 = .ok (.aload_n 0, 1) := by decide +kernel
theorem dX12_sightBy_14 : decode cX12_sightBy 14 = .ok (.getfield 130, 3) := by decide +kernel
theorem dX12_sightBy_17 : decode cX12_sightBy 17 = .ok (.iconst 2, 1) := by decide +kernel
theorem dX12_sightBy_18 : decode cX12_sightBy 18 = .ok (.iaload, 1) := by decide +kernel
theorem dX12_sightBy_19 : decode cX12_sightBy 19 = .ok (.iconst (-1), 1) := by decide +kernel
theorem dX12_sightBy_20 : decode cX12_sightBy 20 = .ok (.if_icmp .ne 6, 3) := by decide +kernel
theorem dX12_sightBy_23 : decode cX12_sightBy 23 = .ok (.iload 4, 2) := by decide +kernel
theorem dX12_sightBy_25 : decode cX12_sightBy 25 = .ok (.ireturn, 1) := by decide +kernel
theorem dX12_sightBy_26 : decode cX12_sightBy 26 = .ok (.aload_n 0, 1) := by decide +kernel
theorem dX12_sightBy_27 : decode cX12_sightBy 27 = .ok (.iload_n 3, 1) := by decide +kernel
theorem dX12_sightBy_28 : decode cX12_sightBy 28 = .ok (.putfield 430, 3) := by decide +kernel
theorem dX12_sightBy_31 : decode cX12_sightBy 31 = .ok (.aload_n 0, 1) := by decide +kernel
theorem dX12_sightBy_32 : decode cX12_sightBy 32 = .ok (.iload 4, 2) := by decide +kernel
theorem dX12_sightBy_34 : decode cX12_sightBy 34 = .ok (.putfield 433, 3) := by decide +kernel
theorem dX12_sightBy_37 : decode cX12_sightBy 37 = .ok (.aload_n 0, 1) := by decide +kernel
theorem dX12_sightBy_38 : decode cX12_sightBy 38 = .ok (.iconst 0, 1) := by decide +kernel
theorem dX12_sightBy_39 : decode cX12_sightBy 39 = .ok (.iload_n 1, 1) := by decide +kernel
theorem dX12_sightBy_40 : decode cX12_sightBy 40 = .ok (.invokevirtual 436, 3) := by decide +kernel
theorem dX12_sightBy_43 : decode cX12_sightBy 43 = .ok (.lstore 5, 2) := by decide +kernel
theorem dX12_sightBy_45 : decode cX12_sightBy 45 = .ok (.lload 5, 2) := by decide +kernel
theorem dX12_sightBy_47 : decode cX12_sightBy 47 = .ok (.lconst 0, 1) := by decide +kernel
theorem dX12_sightBy_48 : decode cX12_sightBy 48 = .ok (.lcmp, 1) := by decide +kernel
theorem dX12_sightBy_49 : decode cX12_sightBy 49 = .ok (.ifCond .ge 7, 3) := by decide +kernel
theorem dX12_sightBy_52 : decode cX12_sightBy 52 = .ok (.iconst 0, 1) := by decide +kernel
theorem dX12_sightBy_53 : decode cX12_sightBy 53 = .ok (.goto 20, 3) := by decide +kernel
theorem dX12_sightBy_56 : decode cX12_sightBy 56 = .ok (.lload 5, 2) := by decide +kernel
theorem dX12_sightBy_58 : decode cX12_sightBy 58 = .ok (.ldc2_w 439, 3) := by decide +kernel
theorem dX12_sightBy_61 : decode cX12_sightBy 61 = .ok (.lcmp, 1) := by decide +kernel
theorem dX12_sightBy_62 : decode cX12_sightBy 62 = .ok (.ifCond .le 8, 3) := by decide +kernel
theorem dX12_sightBy_65 : decode cX12_sightBy 65 = .ok (.bipush 99, 2) := by decide +kernel
theorem dX12_sightBy_67 : decode cX12_sightBy 67 = .ok (.goto 6, 3) := by decide +kernel
theorem dX12_sightBy_70 : decode cX12_sightBy 70 = .ok (.lload 5, 2) := by decide +kernel
theorem dX12_sightBy_72 : decode cX12_sightBy 72 = .ok (.l2i, 1) := by decide +kernel
theorem dX12_sightBy_73 : decode cX12_sightBy 73 = .ok (.ireturn, 1) := by decide +kernel
def f_X12_sightBy (x1 : Int32) (x2 : Int32) (x3 : Int32) (S : Hp) : Option (Int32 × Hp) :=
  ldI S 46 20 ((11 : Int32) + ((2 : Int32) * x2)) (fun v1 => ldI S 48 4 (2 : Int32) (fun v2 => if v2 = (-1 : Int32) then some (v1, S) else le1 (ho_sI S 0 56 x3) (fun S3 => le1 (ho_sI S3 0 57 v1) (fun S4 => ob2 (f_X12_codesTell (0 : Int32) x1 S4) (fun r5 S5 => if 0 ≤ (lg_cmp r5 (0 : Int64)) then if (lg_cmp r5 (99 : Int64)) ≤ 0 then some ((r5.toInt32), S5) else some ((99 : Int32), S5) else some ((0 : Int32), S5))))))
set_option maxHeartbeats 4000000 in
set_option maxRecDepth 100000 in
theorem c_X12_sightBy (l : Launch) (E : Ev) (x1 : Int32) (x2 : Int32) (x3 : Int32) (S : Hp) (r : (Int32 × Hp)) (h : f_X12_sightBy x1 x2 x3 S = some r) : ho_M l yM E yX12_sightBy cX12_sightBy 7 (some .int) 3 [.ref (E.2.1 0), .int x1, .int x2, .int x3] S (some (.int r.1), r.2) := by
  refine ho_in (by decide) (Nat.le_of_ble_eq_true rfl) ?_
  intro p e s m args below meth c C hR ls hl
  have C : ho_I p s m args meth c RX12 cX12_sightBy 7 (some .int) := C
  have hl : lv_has ls 7 [(0, .ref (E.2.1 0)), (1, .int x1), (2, .int x2), (3, .int x3)] := hl
  unfold f_X12_sightBy at h
  refine lv_aload_n C.1 C.2.1 dX12_sightBy_0 rfl (lv_at hl 0 rfl) ?_
  refine ho_getR (a' := 46) C cf12 fM_124 hR aM_0 rfl dX12_sightBy_1 ?_
  refine lv_bipush (v := (11 : Int32)) C.1 C.2.1 dX12_sightBy_4 (by decide) ?_
  refine lv_iconst (v := (2 : Int32)) C.1 C.2.1 dX12_sightBy_6 (by decide) ?_
  refine lv_iload_n C.1 C.2.1 dX12_sightBy_7 rfl (lv_at hl 2 rfl) ?_
  refine lv_imul C.1 C.2.1 dX12_sightBy_8 ?_
  refine lv_iadd C.1 C.2.1 dX12_sightBy_9 ?_
  obtain ⟨v1, e1, hi1, h⟩ := ldI_ok h
  refine hr_ild C hR aM_46 hi1 e1 dX12_sightBy_10 ?_
  refine lv_istore (lv' := [(4, .int v1), (0, .ref (E.2.1 0)), (1, .int x1), (2, .int x2), (3, .int x3)]) C.1 C.2.1 dX12_sightBy_11 hl (by decide) rfl (fun ls hl => ?_)
  refine lv_aload_n C.1 C.2.1 dX12_sightBy_13 rfl (lv_at hl 1 rfl) ?_
  refine ho_getR (a' := 48) C cf12 fM_130 hR aM_0 rfl dX12_sightBy_14 ?_
  refine lv_iconst (v := (2 : Int32)) C.1 C.2.1 dX12_sightBy_17 (by decide) ?_
  obtain ⟨v2, e2, hi2, h⟩ := ldI_ok h
  refine hr_ild C hR aM_48 hi2 e2 dX12_sightBy_18 ?_
  refine lv_iconst (v := (-1 : Int32)) C.1 C.2.1 dX12_sightBy_19 (by decide) ?_
  refine lv_icmp_ne (tgt := 26) C.1 C.2.1 dX12_sightBy_20 (by decide) (fun hc => ?_) (fun hc => ?_)
  · replace h := if_f h hc
    refine lv_aload_n C.1 C.2.1 dX12_sightBy_26 rfl (lv_at hl 1 rfl) ?_
    refine lv_iload_n C.1 C.2.1 dX12_sightBy_27 rfl (lv_at hl 4 rfl) ?_
    obtain ⟨S3, e3, h⟩ := le1_ok h
    refine hr_putI C cf12 fM_430 hR aM_0 e3 dX12_sightBy_28 (fun H locs hR => ?_)
    refine lv_aload_n C.1 C.2.1 dX12_sightBy_31 rfl (lv_at hl 1 rfl) ?_
    refine lv_iload C.1 C.2.1 dX12_sightBy_32 (lv_at hl 0 rfl) ?_
    obtain ⟨S4, e4, h⟩ := le1_ok h
    refine hr_putI C cf12 fM_433 hR aM_0 e4 dX12_sightBy_34 (fun H locs hR => ?_)
    refine lv_aload_n C.1 C.2.1 dX12_sightBy_37 rfl (lv_at hl 1 rfl) ?_
    refine lv_iconst (v := (0 : Int32)) C.1 C.2.1 dX12_sightBy_38 (by decide) ?_
    refine lv_iload_n C.1 C.2.1 dX12_sightBy_39 rfl (lv_at hl 2 rfl) ?_
    obtain ⟨r5, S5, h5, h⟩ := ob2_ok h
    refine hr_Vl (w := r5) (S' := S5) (As := [.int (0 : Int32), .int x1]) (rest := []) C cf12 (c_X12_codesTell l E (0 : Int32) x1 _ _ h5) yv_X12_codesTell lk_RX12_436 rfl aM_0 rfl rfl hl.1 (Nat.le_of_ble_eq_true rfl) (by decide) (by decide) hR (ho_A hR) dX12_sightBy_40 (fun H locs hR => ?_)
    refine lv_lstore (lv' := [(5, .long r5), (4, .int v1), (0, .ref (E.2.1 0)), (1, .int x1), (2, .int x2), (3, .int x3)]) C.1 C.2.1 dX12_sightBy_43 hl (by decide) rfl (fun ls hl => ?_)
    refine lv_lload C.1 C.2.1 dX12_sightBy_45 (lv_at hl 0 rfl) ?_
    refine lv_lconst (v := (0 : Int64)) C.1 C.2.1 dX12_sightBy_47 (by decide) ?_
    refine W.lcmp C.1 C.2.1 dX12_sightBy_48 ?_
    refine lv_if_ge (tgt := 56) C.1 C.2.1 dX12_sightBy_49 (by decide) (fun hc => ?_) (fun hc => ?_)
    · replace h := if_t h hc
      refine lv_lload C.1 C.2.1 dX12_sightBy_56 (lv_at hl 0 rfl) ?_
      refine lv_ldc2 (v := (99 : Int64)) C.1 C.2.1 C.2.2.2.2.1 (C.2.2.2.2.2.1 _ kc_RX12_439) dX12_sightBy_58 ?_
      refine W.lcmp C.1 C.2.1 dX12_sightBy_61 ?_
      refine lv_if_le (tgt := 70) C.1 C.2.1 dX12_sightBy_62 (by decide) (fun hc => ?_) (fun hc => ?_)
      · replace h := if_t h hc
        refine lv_lload C.1 C.2.1 dX12_sightBy_70 (lv_at hl 0 rfl) ?_
        refine lv_l2i (v := (r5.toInt32)) C.1 C.2.1 dX12_sightBy_72 rfl ?_
        exact ho_iret C hR h dX12_sightBy_73
      · replace h := if_f h hc
        refine lv_bipush (v := (99 : Int32)) C.1 C.2.1 dX12_sightBy_65 (by decide) ?_
        refine lv_goto (tgt := 73) C.1 C.2.1 dX12_sightBy_67 (by decide) ?_
        exact ho_iret C hR h dX12_sightBy_73
    · replace h := if_f h hc
      refine lv_iconst (v := (0 : Int32)) C.1 C.2.1 dX12_sightBy_52 (by decide) ?_
      refine lv_goto (tgt := 73) C.1 C.2.1 dX12_sightBy_53 (by decide) ?_
      exact ho_iret C hR h dX12_sightBy_73
  · replace h := if_t h hc
    refine lv_iload C.1 C.2.1 dX12_sightBy_23 (lv_at hl 0 rfl) ?_
    exact ho_iret C hR h dX12_sightBy_25
theorem dX12_sightOf_0 : decode cX12_sightOf 0 = .ok (.iconst 0, 1) := by decide +kernel
theorem dX12_sightOf_1 : decode cX12_sightOf 1 = .ok (.istore_n 2, 1) := by decide +kernel
theorem dX12_sightOf_2 : decode cX12_sightOf 2 = .ok (.iconst 0, 1) := by decide +kernel
theorem dX12_sightOf_3 : decode cX12_sightOf 3 = .ok (.istore_n 3, 1) := by decide +kernel
theorem dX12_sightOf_4 : decode cX12_sightOf 4 = .ok (.iload_n 3, 1) := by decide +kernel
theorem dX12_sightOf_5 : decode cX12_sightOf 5 = .ok (.aload_n 0, 1) := by decide +kernel
theorem dX12_sightOf_6 : decode cX12_sightOf 6 = .ok (.invokevirtual 413, 3) := by decide +kernel
theorem dX12_sightOf_9 : decode cX12_sightOf 9 = .ok (.if_icmp .ge 23, 3) := by decide +kernel
theorem dX12_sightOf_12 : decode cX12_sightOf 12 = .ok (.iload_n 2, 1) := by decide +kernel
theorem dX12_sightOf_13 : decode cX12_sightOf 13 = .ok (.aload_n 0, 1) := by decide +kernel
theorem dX12_sightOf_14 : decode cX12_sightOf 14 = .ok (.iload_n 1, 1) := by decide +kernel
theorem dX12_sightOf_15 : decode cX12_sightOf 15 = .ok (.iload_n 3, 1) := by decide +kernel
theorem dX12_sightOf_16 : decode cX12_sightOf 16 = .ok (.aload_n 0, 1) := by decide +kernel
theorem dX12_sightOf_17 : decode cX12_sightOf 17 = .ok (.iload_n 3, 1) := by decide +kernel
theorem dX12_sightOf_18 : decode cX12_sightOf 18 = .ok (.invokevirtual 441, 3) := by decide +kernel
theorem dX12_sightOf_21 : decode cX12_sightOf 21 = .ok (.invokevirtual 445, 3) := by decide +kernel
theorem dX12_sightOf_24 : decode cX12_sightOf 24 = .ok (.iadd, 1) := by decide +kernel
theorem dX12_sightOf_25 : decode cX12_sightOf 25 = .ok (.istore_n 2, 1) := by decide +kernel
theorem dX12_sightOf_26 : decode cX12_sightOf 26 = .ok (.iinc 3 1, 3) := by decide +kernel
theorem dX12_sightOf_29 : decode cX12_sightOf 29 = .ok (.goto (-25), 3) := by decide +kernel
theorem dX12_sightOf_32 : decode cX12_sightOf 32 = .ok (.iload_n 2, 1) := by decide +kernel
theorem dX12_sightOf_33 : decode cX12_sightOf 33 = .ok (.ireturn, 1) := by decide +kernel
def f_X12_sightOf_4 : Nat → Int32 → Int32 → Int32 → Hp → Option (Int32 × Hp)
  | 0, _, _, _, _ => none
  | k + 1, x1, x2, x3, S => ob2 (f_X12_watcherMany S) (fun r1 S1 => if r1 ≤ x3 then some (x2, S1) else ob2 (f_X12_seatOf x3 S1) (fun r2 S2 => ob2 (f_X12_sightBy x1 x3 r2 S2) (fun r3 S3 => le1 (x2 + r3) (fun v4 => le1 (x3 + (1 : Int32)) (fun v5 => f_X12_sightOf_4 k x1 v4 v5 S3)))))
set_option maxHeartbeats 4000000 in
set_option maxRecDepth 100000 in
theorem w_X12_sightOf_4 {p : Program} {l : Launch} {e : Env} {s : State} {m : MethodId} {args : Array Value} {below : List Frame} {meth : Method} {c : Code} {E : Ev} {S0 : Hp} {r : (Int32 × Hp)} (C : ho_I p s m args meth c RX12 cX12_sightOf 4 (some .int)) :
    ∀ (k : Nat) (x1 : Int32) (x2 : Int32) (x3 : Int32) (S : Hp), f_X12_sightOf_4 k x1 x2 x3 S = some r → ho_G p l e s m args below meth c yM E S0 4 4 (some (.int r.1), r.2) 4 [(0, .ref (E.2.1 0)), (1, .int x1), (2, .int x2), (3, .int x3)] [] S := by
  intro k
  induction k with
  | zero =>
    intro x1 x2 x3 S h
    exact absurd (show (none : Option (Int32 × Hp)) = some r from h) (by simp)
  | succ k ih =>
    intro x1 x2 x3 S h H locs ls hR hl
    rw [f_X12_sightOf_4] at h
    refine lv_iload_n C.1 C.2.1 dX12_sightOf_4 rfl (lv_at hl 3 rfl) ?_
    refine lv_aload_n C.1 C.2.1 dX12_sightOf_5 rfl (lv_at hl 0 rfl) ?_
    obtain ⟨r1, S1, h1, h⟩ := ob2_ok h
    refine hr_Vi (v := r1) (S' := S1) (As := []) (rest := [.int x3]) C cf12 (c_X12_watcherMany l E _ _ h1) yv_X12_watcherMany lk_RX12_413 rfl aM_0 rfl rfl hl.1 (Nat.le_of_ble_eq_true rfl) (by decide) (by decide) hR (ho_A hR) dX12_sightOf_6 (fun H locs hR => ?_)
    refine lv_icmp_ge (tgt := 32) C.1 C.2.1 dX12_sightOf_9 (by decide) (fun hc => ?_) (fun hc => ?_)
    · replace h := if_t h hc
      refine lv_iload_n C.1 C.2.1 dX12_sightOf_32 rfl (lv_at hl 2 rfl) ?_
      exact ho_iret C hR h dX12_sightOf_33
    · replace h := if_f h hc
      refine lv_iload_n C.1 C.2.1 dX12_sightOf_12 rfl (lv_at hl 2 rfl) ?_
      refine lv_aload_n C.1 C.2.1 dX12_sightOf_13 rfl (lv_at hl 0 rfl) ?_
      refine lv_iload_n C.1 C.2.1 dX12_sightOf_14 rfl (lv_at hl 1 rfl) ?_
      refine lv_iload_n C.1 C.2.1 dX12_sightOf_15 rfl (lv_at hl 3 rfl) ?_
      refine lv_aload_n C.1 C.2.1 dX12_sightOf_16 rfl (lv_at hl 0 rfl) ?_
      refine lv_iload_n C.1 C.2.1 dX12_sightOf_17 rfl (lv_at hl 3 rfl) ?_
      obtain ⟨r2, S2, h2, h⟩ := ob2_ok h
      refine hr_Vi (v := r2) (S' := S2) (As := [.int x3]) (rest := [.int x3, .int x1, .ref (E.2.1 0), .int x2]) C cf12 (c_X12_seatOf l E x3 _ _ h2) yv_X12_seatOf lk_RX12_441 rfl aM_0 rfl rfl hl.1 (Nat.le_of_ble_eq_true rfl) (by decide) (by decide) hR (ho_A hR) dX12_sightOf_18 (fun H locs hR => ?_)
      obtain ⟨r3, S3, h3, h⟩ := ob2_ok h
      refine hr_Vi (v := r3) (S' := S3) (As := [.int x1, .int x3, .int r2]) (rest := [.int x2]) C cf12 (c_X12_sightBy l E x1 x3 r2 _ _ h3) yv_X12_sightBy lk_RX12_445 rfl aM_0 rfl rfl hl.1 (Nat.le_of_ble_eq_true rfl) (by decide) (by decide) hR (ho_A hR) dX12_sightOf_21 (fun H locs hR => ?_)
      refine lv_iadd C.1 C.2.1 dX12_sightOf_24 ?_
      refine lv_topi (fun v4 e4 => ?_)
      replace h := le1_at e4 h
      refine lv_istore_n (lv' := [(2, .int v4), (0, .ref (E.2.1 0)), (1, .int x1), (3, .int x3)]) C.1 C.2.1 dX12_sightOf_25 rfl hl (by decide) rfl (fun ls hl => ?_)
      obtain ⟨v5, e5, h⟩ := le1_ok h
      refine lv_iinc (v := v5) (lv' := [(3, .int v5), (2, .int v4), (0, .ref (E.2.1 0)), (1, .int x1)]) C.1 C.2.1 dX12_sightOf_26 hl (k := 3) rfl (by rw [e5]; rfl) (by decide) rfl (fun ls hl => ?_)
      refine lv_goto (tgt := 4) C.1 C.2.1 dX12_sightOf_29 (by decide) ?_
      exact ih x1 v4 v5 S3 h _ _ _ hR (lv_sub hl [2, 3, 1, 0] rfl)
def f_X12_sightOf (x1 : Int32) (S : Hp) : Option (Int32 × Hp) :=
  f_X12_sightOf_4 5000 x1 (0 : Int32) (0 : Int32) S
set_option maxHeartbeats 4000000 in
set_option maxRecDepth 100000 in
theorem c_X12_sightOf (l : Launch) (E : Ev) (x1 : Int32) (S : Hp) (r : (Int32 × Hp)) (h : f_X12_sightOf x1 S = some r) : ho_M l yM E yX12_sightOf cX12_sightOf 4 (some .int) 4 [.ref (E.2.1 0), .int x1] S (some (.int r.1), r.2) := by
  refine ho_in (by decide) (Nat.le_of_ble_eq_true rfl) ?_
  intro p e s m args below meth c C hR ls hl
  have C : ho_I p s m args meth c RX12 cX12_sightOf 4 (some .int) := C
  have hl : lv_has ls 4 [(0, .ref (E.2.1 0)), (1, .int x1)] := hl
  unfold f_X12_sightOf at h
  refine lv_iconst (v := (0 : Int32)) C.1 C.2.1 dX12_sightOf_0 (by decide) ?_
  refine lv_istore_n (lv' := [(2, .int (0 : Int32)), (0, .ref (E.2.1 0)), (1, .int x1)]) C.1 C.2.1 dX12_sightOf_1 rfl hl (by decide) rfl (fun ls hl => ?_)
  refine lv_iconst (v := (0 : Int32)) C.1 C.2.1 dX12_sightOf_2 (by decide) ?_
  refine lv_istore_n (lv' := [(3, .int (0 : Int32)), (2, .int (0 : Int32)), (0, .ref (E.2.1 0)), (1, .int x1)]) C.1 C.2.1 dX12_sightOf_3 rfl hl (by decide) rfl (fun ls hl => ?_)
  exact w_X12_sightOf_4 C 5000 x1 (0 : Int32) (0 : Int32) S h _ _ _ hR (lv_sub hl [2, 3, 1, 0] rfl)
