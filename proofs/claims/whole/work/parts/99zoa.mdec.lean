/-! level 3: the instructions of the reference's constructor -/
theorem dX12_init_0 : decode cX12_init 0 = .ok (.aload_n 0, 1) := by decide +kernel
theorem dX12_init_1 : decode cX12_init 1 = .ok (.invokespecial 1, 3) := by decide +kernel
theorem dX12_init_4 : decode cX12_init 4 = .ok (.aload_n 0, 1) := by decide +kernel
theorem dX12_init_5 : decode cX12_init 5 = .ok (.sipush 1600, 3) := by decide +kernel
theorem dX12_init_8 : decode cX12_init 8 = .ok (.newarray .int, 2) := by decide +kernel
theorem dX12_init_10 : decode cX12_init 10 = .ok (.putfield 7, 3) := by decide +kernel
theorem dX12_init_13 : decode cX12_init 13 = .ok (.aload_n 0, 1) := by decide +kernel
theorem dX12_init_14 : decode cX12_init 14 = .ok (.iconst (-1), 1) := by decide +kernel
theorem dX12_init_15 : decode cX12_init 15 = .ok (.putfield 13, 3) := by decide +kernel
theorem dX12_init_18 : decode cX12_init 18 = .ok (.aload_n 0, 1) := by decide +kernel
theorem dX12_init_19 : decode cX12_init 19 = .ok (.bipush 6, 2) := by decide +kernel
theorem dX12_init_21 : decode cX12_init 21 = .ok (.newarray .int, 2) := by decide +kernel
theorem dX12_init_23 : decode cX12_init 23 = .ok (.putfield 17, 3) := by decide +kernel
theorem dX12_init_26 : decode cX12_init 26 = .ok (.aload_n 0, 1) := by decide +kernel
theorem dX12_init_27 : decode cX12_init 27 = .ok (.iconst 4, 1) := by decide +kernel
theorem dX12_init_28 : decode cX12_init 28 = .ok (.newarray .char, 2) := by decide +kernel
theorem dX12_init_30 : decode cX12_init 30 = .ok (.dup, 1) := by decide +kernel
theorem dX12_init_31 : decode cX12_init 31 = .ok (.iconst 0, 1) := by decide +kernel
theorem dX12_init_32 : decode cX12_init 32 = .ok (.bipush 110, 2) := by decide +kernel
theorem dX12_init_34 : decode cX12_init 34 = .ok (.castore, 1) := by decide +kernel
theorem dX12_init_35 : decode cX12_init 35 = .ok (.dup, 1) := by decide +kernel
theorem dX12_init_36 : decode cX12_init 36 = .ok (.iconst 1, 1) := by decide +kernel
theorem dX12_init_37 : decode cX12_init 37 = .ok (.bipush 101, 2) := by decide +kernel
theorem dX12_init_39 : decode cX12_init 39 = .ok (.castore, 1) := by decide +kernel
theorem dX12_init_40 : decode cX12_init 40 = .ok (.dup, 1) := by decide +kernel
theorem dX12_init_41 : decode cX12_init 41 = .ok (.iconst 2, 1) := by decide +kernel
theorem dX12_init_42 : decode cX12_init 42 = .ok (.bipush 101, 2) := by decide +kernel
theorem dX12_init_44 : decode cX12_init 44 = .ok (.castore, 1) := by decide +kernel
theorem dX12_init_45 : decode cX12_init 45 = .ok (.dup, 1) := by decide +kernel
theorem dX12_init_46 : decode cX12_init 46 = .ok (.iconst 3, 1) := by decide +kernel
theorem dX12_init_47 : decode cX12_init 47 = .ok (.bipush 100, 2) := by decide +kernel
theorem dX12_init_49 : decode cX12_init 49 = .ok (.castore, 1) := by decide +kernel
theorem dX12_init_50 : decode cX12_init 50 = .ok (.putfield 20, 3) := by decide +kernel
theorem dX12_init_53 : decode cX12_init 53 = .ok (.aload_n 0, 1) := by decide +kernel
theorem dX12_init_54 : decode cX12_init 54 = .ok (.iconst 4, 1) := by decide +kernel
theorem dX12_init_55 : decode cX12_init 55 = .ok (.newarray .char, 2) := by decide +kernel
theorem dX12_init_57 : decode cX12_init 57 = .ok (.dup, 1) := by decide +kernel
theorem dX12_init_58 : decode cX12_init 58 = .ok (.iconst 0, 1) := by decide +kernel
theorem dX12_init_59 : decode cX12_init 59 = .ok (.bipush 100, 2) := by decide +kernel
theorem dX12_init_61 : decode cX12_init 61 = .ok (.castore, 1) := by decide +kernel
theorem dX12_init_62 : decode cX12_init 62 = .ok (.dup, 1) := by decide +kernel
theorem dX12_init_63 : decode cX12_init 63 = .ok (.iconst 1, 1) := by decide +kernel
theorem dX12_init_64 : decode cX12_init 64 = .ok (.bipush 101, 2) := by decide +kernel
theorem dX12_init_66 : decode cX12_init 66 = .ok (.castore, 1) := by decide +kernel
theorem dX12_init_67 : decode cX12_init 67 = .ok (.dup, 1) := by decide +kernel
theorem dX12_init_68 : decode cX12_init 68 = .ok (.iconst 2, 1) := by decide +kernel
theorem dX12_init_69 : decode cX12_init 69 = .ok (.bipush 98, 2) := by decide +kernel
theorem dX12_init_71 : decode cX12_init 71 = .ok (.castore, 1) := by decide +kernel
theorem dX12_init_72 : decode cX12_init 72 = .ok (.dup, 1) := by decide +kernel
theorem dX12_init_73 : decode cX12_init 73 = .ok (.iconst 3, 1) := by decide +kernel
theorem dX12_init_74 : decode cX12_init 74 = .ok (.bipush 116, 2) := by decide +kernel
theorem dX12_init_76 : decode cX12_init 76 = .ok (.castore, 1) := by decide +kernel
theorem dX12_init_77 : decode cX12_init 77 = .ok (.putfield 24, 3) := by decide +kernel
theorem dX12_init_80 : decode cX12_init 80 = .ok (.aload_n 0, 1) := by decide +kernel
theorem dX12_init_81 : decode cX12_init 81 = .ok (.iconst 4, 1) := by decide +kernel
theorem dX12_init_82 : decode cX12_init 82 = .ok (.newarray .char, 2) := by decide +kernel
theorem dX12_init_84 : decode cX12_init 84 = .ok (.dup, 1) := by decide +kernel
theorem dX12_init_85 : decode cX12_init 85 = .ok (.iconst 0, 1) := by decide +kernel
theorem dX12_init_86 : decode cX12_init 86 = .ok (.bipush 114, 2) := by decide +kernel
theorem dX12_init_88 : decode cX12_init 88 = .ok (.castore, 1) := by decide +kernel
theorem dX12_init_89 : decode cX12_init 89 = .ok (.dup, 1) := by decide +kernel
theorem dX12_init_90 : decode cX12_init 90 = .ok (.iconst 1, 1) := by decide +kernel
theorem dX12_init_91 : decode cX12_init 91 = .ok (.bipush 97, 2) := by decide +kernel
theorem dX12_init_93 : decode cX12_init 93 = .ok (.castore, 1) := by decide +kernel
theorem dX12_init_94 : decode cX12_init 94 = .ok (.dup, 1) := by decide +kernel
theorem dX12_init_95 : decode cX12_init 95 = .ok (.iconst 2, 1) := by decide +kernel
theorem dX12_init_96 : decode cX12_init 96 = .ok (.bipush 116, 2) := by decide +kernel
theorem dX12_init_98 : decode cX12_init 98 = .ok (.castore, 1) := by decide +kernel
theorem dX12_init_99 : decode cX12_init 99 = .ok (.dup, 1) := by decide +kernel
theorem dX12_init_100 : decode cX12_init 100 = .ok (.iconst 3, 1) := by decide +kernel
theorem dX12_init_101 : decode cX12_init 101 = .ok (.bipush 101, 2) := by decide +kernel
theorem dX12_init_103 : decode cX12_init 103 = .ok (.castore, 1) := by decide +kernel
theorem dX12_init_104 : decode cX12_init 104 = .ok (.putfield 27, 3) := by decide +kernel
theorem dX12_init_107 : decode cX12_init 107 = .ok (.aload_n 0, 1) := by decide +kernel
theorem dX12_init_108 : decode cX12_init 108 = .ok (.bipush 6, 2) := by decide +kernel
theorem dX12_init_110 : decode cX12_init 110 = .ok (.newarray .char, 2) := by decide +kernel
theorem dX12_init_112 : decode cX12_init 112 = .ok (.dup, 1) := by decide +kernel
theorem dX12_init_113 : decode cX12_init 113 = .ok (.iconst 0, 1) := by decide +kernel
theorem dX12_init_114 : decode cX12_init 114 = .ok (.bipush 115, 2) := by decide +kernel
theorem dX12_init_116 : decode cX12_init 116 = .ok (.castore, 1) := by decide +kernel
theorem dX12_init_117 : decode cX12_init 117 = .ok (.dup, 1) := by decide +kernel
theorem dX12_init_118 : decode cX12_init 118 = .ok (.iconst 1, 1) := by decide +kernel
theorem dX12_init_119 : decode cX12_init 119 = .ok (.bipush 116, 2) := by decide +kernel
theorem dX12_init_121 : decode cX12_init 121 = .ok (.castore, 1) := by decide +kernel
theorem dX12_init_122 : decode cX12_init 122 = .ok (.dup, 1) := by decide +kernel
theorem dX12_init_123 : decode cX12_init 123 = .ok (.iconst 2, 1) := by decide +kernel
theorem dX12_init_124 : decode cX12_init 124 = .ok (.bipush 111, 2) := by decide +kernel
theorem dX12_init_126 : decode cX12_init 126 = .ok (.castore, 1) := by decide +kernel
theorem dX12_init_127 : decode cX12_init 127 = .ok (.dup, 1) := by decide +kernel
theorem dX12_init_128 : decode cX12_init 128 = .ok (.iconst 3, 1) := by decide +kernel
theorem dX12_init_129 : decode cX12_init 129 = .ok (.bipush 114, 2) := by decide +kernel
theorem dX12_init_131 : decode cX12_init 131 = .ok (.castore, 1) := by decide +kernel
theorem dX12_init_132 : decode cX12_init 132 = .ok (.dup, 1) := by decide +kernel
theorem dX12_init_133 : decode cX12_init 133 = .ok (.iconst 4, 1) := by decide +kernel
theorem dX12_init_134 : decode cX12_init 134 = .ok (.bipush 101, 2) := by decide +kernel
theorem dX12_init_136 : decode cX12_init 136 = .ok (.castore, 1) := by decide +kernel
theorem dX12_init_137 : decode cX12_init 137 = .ok (.dup, 1) := by decide +kernel
theorem dX12_init_138 : decode cX12_init 138 = .ok (.iconst 5, 1) := by decide +kernel
theorem dX12_init_139 : decode cX12_init 139 = .ok (.bipush 115, 2) := by decide +kernel
theorem dX12_init_141 : decode cX12_init 141 = .ok (.castore, 1) := by decide +kernel
theorem dX12_init_142 : decode cX12_init 142 = .ok (.putfield 30, 3) := by decide +kernel
theorem dX12_init_145 : decode cX12_init 145 = .ok (.aload_n 0, 1) := by decide +kernel
theorem dX12_init_146 : decode cX12_init 146 = .ok (.bipush 6, 2) := by decide +kernel
theorem dX12_init_148 : decode cX12_init 148 = .ok (.newarray .char, 2) := by decide +kernel
theorem dX12_init_150 : decode cX12_init 150 = .ok (.dup, 1) := by decide +kernel
theorem dX12_init_151 : decode cX12_init 151 = .ok (.iconst 0, 1) := by decide +kernel
theorem dX12_init_152 : decode cX12_init 152 = .ok (.bipush 121, 2) := by decide +kernel
theorem dX12_init_154 : decode cX12_init 154 = .ok (.castore, 1) := by decide +kernel
theorem dX12_init_155 : decode cX12_init 155 = .ok (.dup, 1) := by decide +kernel
theorem dX12_init_156 : decode cX12_init 156 = .ok (.iconst 1, 1) := by decide +kernel
theorem dX12_init_157 : decode cX12_init 157 = .ok (.bipush 105, 2) := by decide +kernel
theorem dX12_init_159 : decode cX12_init 159 = .ok (.castore, 1) := by decide +kernel
theorem dX12_init_160 : decode cX12_init 160 = .ok (.dup, 1) := by decide +kernel
theorem dX12_init_161 : decode cX12_init 161 = .ok (.iconst 2, 1) := by decide +kernel
theorem dX12_init_162 : decode cX12_init 162 = .ok (.bipush 101, 2) := by decide +kernel
theorem dX12_init_164 : decode cX12_init 164 = .ok (.castore, 1) := by decide +kernel
theorem dX12_init_165 : decode cX12_init 165 = .ok (.dup, 1) := by decide +kernel
theorem dX12_init_166 : decode cX12_init 166 = .ok (.iconst 3, 1) := by decide +kernel
theorem dX12_init_167 : decode cX12_init 167 = .ok (.bipush 108, 2) := by decide +kernel
theorem dX12_init_169 : decode cX12_init 169 = .ok (.castore, 1) := by decide +kernel
theorem dX12_init_170 : decode cX12_init 170 = .ok (.dup, 1) := by decide +kernel
theorem dX12_init_171 : decode cX12_init 171 = .ok (.iconst 4, 1) := by decide +kernel
theorem dX12_init_172 : decode cX12_init 172 = .ok (.bipush 100, 2) := by decide +kernel
theorem dX12_init_174 : decode cX12_init 174 = .ok (.castore, 1) := by decide +kernel
theorem dX12_init_175 : decode cX12_init 175 = .ok (.dup, 1) := by decide +kernel
theorem dX12_init_176 : decode cX12_init 176 = .ok (.iconst 5, 1) := by decide +kernel
theorem dX12_init_177 : decode cX12_init 177 = .ok (.bipush 115, 2) := by decide +kernel
theorem dX12_init_179 : decode cX12_init 179 = .ok (.castore, 1) := by decide +kernel
theorem dX12_init_180 : decode cX12_init 180 = .ok (.putfield 33, 3) := by decide +kernel
theorem dX12_init_183 : decode cX12_init 183 = .ok (.aload_n 0, 1) := by decide +kernel
theorem dX12_init_184 : decode cX12_init 184 = .ok (.iconst 5, 1) := by decide +kernel
theorem dX12_init_185 : decode cX12_init 185 = .ok (.newarray .char, 2) := by decide +kernel
theorem dX12_init_187 : decode cX12_init 187 = .ok (.dup, 1) := by decide +kernel
theorem dX12_init_188 : decode cX12_init 188 = .ok (.iconst 0, 1) := by decide +kernel
theorem dX12_init_189 : decode cX12_init 189 = .ok (.bipush 116, 2) := by decide +kernel
theorem dX12_init_191 : decode cX12_init 191 = .ok (.castore, 1) := by decide +kernel
theorem dX12_init_192 : decode cX12_init 192 = .ok (.dup, 1) := by decide +kernel
theorem dX12_init_193 : decode cX12_init 193 = .ok (.iconst 1, 1) := by decide +kernel
theorem dX12_init_194 : decode cX12_init 194 = .ok (.bipush 114, 2) := by decide +kernel
theorem dX12_init_196 : decode cX12_init 196 = .ok (.castore, 1) := by decide +kernel
theorem dX12_init_197 : decode cX12_init 197 = .ok (.dup, 1) := by decide +kernel
theorem dX12_init_198 : decode cX12_init 198 = .ok (.iconst 2, 1) := by decide +kernel
theorem dX12_init_199 : decode cX12_init 199 = .ok (.bipush 105, 2) := by decide +kernel
theorem dX12_init_201 : decode cX12_init 201 = .ok (.castore, 1) := by decide +kernel
theorem dX12_init_202 : decode cX12_init 202 = .ok (.dup, 1) := by decide +kernel
theorem dX12_init_203 : decode cX12_init 203 = .ok (.iconst 3, 1) := by decide +kernel
theorem dX12_init_204 : decode cX12_init 204 = .ok (.bipush 99, 2) := by decide +kernel
theorem dX12_init_206 : decode cX12_init 206 = .ok (.castore, 1) := by decide +kernel
theorem dX12_init_207 : decode cX12_init 207 = .ok (.dup, 1) := by decide +kernel
theorem dX12_init_208 : decode cX12_init 208 = .ok (.iconst 4, 1) := by decide +kernel
theorem dX12_init_209 : decode cX12_init 209 = .ok (.bipush 107, 2) := by decide +kernel
theorem dX12_init_211 : decode cX12_init 211 = .ok (.castore, 1) := by decide +kernel
theorem dX12_init_212 : decode cX12_init 212 = .ok (.putfield 36, 3) := by decide +kernel
theorem dX12_init_215 : decode cX12_init 215 = .ok (.aload_n 0, 1) := by decide +kernel
theorem dX12_init_216 : decode cX12_init 216 = .ok (.iconst 5, 1) := by decide +kernel
theorem dX12_init_217 : decode cX12_init 217 = .ok (.newarray .char, 2) := by decide +kernel
theorem dX12_init_219 : decode cX12_init 219 = .ok (.dup, 1) := by decide +kernel
theorem dX12_init_220 : decode cX12_init 220 = .ok (.iconst 0, 1) := by decide +kernel
theorem dX12_init_221 : decode cX12_init 221 = .ok (.bipush 116, 2) := by decide +kernel
theorem dX12_init_223 : decode cX12_init 223 = .ok (.castore, 1) := by decide +kernel
theorem dX12_init_224 : decode cX12_init 224 = .ok (.dup, 1) := by decide +kernel
theorem dX12_init_225 : decode cX12_init 225 = .ok (.iconst 1, 1) := by decide +kernel
theorem dX12_init_226 : decode cX12_init 226 = .ok (.bipush 97, 2) := by decide +kernel
theorem dX12_init_228 : decode cX12_init 228 = .ok (.castore, 1) := by decide +kernel
theorem dX12_init_229 : decode cX12_init 229 = .ok (.dup, 1) := by decide +kernel
theorem dX12_init_230 : decode cX12_init 230 = .ok (.iconst 2, 1) := by decide +kernel
theorem dX12_init_231 : decode cX12_init 231 = .ok (.bipush 107, 2) := by decide +kernel
theorem dX12_init_233 : decode cX12_init 233 = .ok (.castore, 1) := by decide +kernel
theorem dX12_init_234 : decode cX12_init 234 = .ok (.dup, 1) := by decide +kernel
theorem dX12_init_235 : decode cX12_init 235 = .ok (.iconst 3, 1) := by decide +kernel
theorem dX12_init_236 : decode cX12_init 236 = .ok (.bipush 101, 2) := by decide +kernel
theorem dX12_init_238 : decode cX12_init 238 = .ok (.castore, 1) := by decide +kernel
theorem dX12_init_239 : decode cX12_init 239 = .ok (.dup, 1) := by decide +kernel
theorem dX12_init_240 : decode cX12_init 240 = .ok (.iconst 4, 1) := by decide +kernel
theorem dX12_init_241 : decode cX12_init 241 = .ok (.bipush 115, 2) := by decide +kernel
theorem dX12_init_243 : decode cX12_init 243 = .ok (.castore, 1) := by decide +kernel
theorem dX12_init_244 : decode cX12_init 244 = .ok (.putfield 39, 3) := by decide +kernel
theorem dX12_init_247 : decode cX12_init 247 = .ok (.aload_n 0, 1) := by decide +kernel
theorem dX12_init_248 : decode cX12_init 248 = .ok (.iconst 4, 1) := by decide +kernel
theorem dX12_init_249 : decode cX12_init 249 = .ok (.newarray .char, 2) := by decide +kernel
theorem dX12_init_251 : decode cX12_init 251 = .ok (.dup, 1) := by decide +kernel
theorem dX12_init_252 : decode cX12_init 252 = .ok (.iconst 0, 1) := by decide +kernel
theorem dX12_init_253 : decode cX12_init 253 = .ok (.bipush 102, 2) := by decide +kernel
theorem dX12_init_255 : decode cX12_init 255 = .ok (.castore, 1) := by decide +kernel
theorem dX12_init_256 : decode cX12_init 256 = .ok (.dup, 1) := by decide +kernel
theorem dX12_init_257 : decode cX12_init 257 = .ok (.iconst 1, 1) := by decide +kernel
theorem dX12_init_258 : decode cX12_init 258 = .ok (.bipush 114, 2) := by decide +kernel
theorem dX12_init_260 : decode cX12_init 260 = .ok (.castore, 1) := by decide +kernel
theorem dX12_init_261 : decode cX12_init 261 = .ok (.dup, 1) := by decide +kernel
theorem dX12_init_262 : decode cX12_init 262 = .ok (.iconst 2, 1) := by decide +kernel
theorem dX12_init_263 : decode cX12_init 263 = .ok (.bipush 111, 2) := by decide +kernel
theorem dX12_init_265 : decode cX12_init 265 = .ok (.castore, 1) := by decide +kernel
theorem dX12_init_266 : decode cX12_init 266 = .ok (.dup, 1) := by decide +kernel
theorem dX12_init_267 : decode cX12_init 267 = .ok (.iconst 3, 1) := by decide +kernel
theorem dX12_init_268 : decode cX12_init 268 = .ok (.bipush 109, 2) := by decide +kernel
theorem dX12_init_270 : decode cX12_init 270 = .ok (.castore, 1) := by decide +kernel
theorem dX12_init_271 : decode cX12_init 271 = .ok (.putfield 42, 3) := by decide +kernel
theorem dX12_init_274 : decode cX12_init 274 = .ok (.aload_n 0, 1) := by decide +kernel
theorem dX12_init_275 : decode cX12_init 275 = .ok (.iconst 4, 1) := by decide +kernel
theorem dX12_init_276 : decode cX12_init 276 = .ok (.newarray .char, 2) := by decide +kernel
theorem dX12_init_278 : decode cX12_init 278 = .ok (.dup, 1) := by decide +kernel
theorem dX12_init_279 : decode cX12_init 279 = .ok (.iconst 0, 1) := by decide +kernel
theorem dX12_init_280 : decode cX12_init 280 = .ok (.bipush 108, 2) := by decide +kernel
theorem dX12_init_282 : decode cX12_init 282 = .ok (.castore, 1) := by decide +kernel
theorem dX12_init_283 : decode cX12_init 283 = .ok (.dup, 1) := by decide +kernel
theorem dX12_init_284 : decode cX12_init 284 = .ok (.iconst 1, 1) := by decide +kernel
theorem dX12_init_285 : decode cX12_init 285 = .ok (.bipush 111, 2) := by decide +kernel
theorem dX12_init_287 : decode cX12_init 287 = .ok (.castore, 1) := by decide +kernel
theorem dX12_init_288 : decode cX12_init 288 = .ok (.dup, 1) := by decide +kernel
theorem dX12_init_289 : decode cX12_init 289 = .ok (.iconst 2, 1) := by decide +kernel
theorem dX12_init_290 : decode cX12_init 290 = .ok (.bipush 111, 2) := by decide +kernel
theorem dX12_init_292 : decode cX12_init 292 = .ok (.castore, 1) := by decide +kernel
theorem dX12_init_293 : decode cX12_init 293 = .ok (.dup, 1) := by decide +kernel
theorem dX12_init_294 : decode cX12_init 294 = .ok (.iconst 3, 1) := by decide +kernel
theorem dX12_init_295 : decode cX12_init 295 = .ok (.bipush 107, 2) := by decide +kernel
theorem dX12_init_297 : decode cX12_init 297 = .ok (.castore, 1) := by decide +kernel
theorem dX12_init_298 : decode cX12_init 298 = .ok (.putfield 45, 3) := by decide +kernel
theorem dX12_init_301 : decode cX12_init 301 = .ok (.aload_n 0, 1) := by decide +kernel
theorem dX12_init_302 : decode cX12_init 302 = .ok (.iconst 5, 1) := by decide +kernel
theorem dX12_init_303 : decode cX12_init 303 = .ok (.newarray .char, 2) := by decide +kernel
theorem dX12_init_305 : decode cX12_init 305 = .ok (.dup, 1) := by decide +kernel
theorem dX12_init_306 : decode cX12_init 306 = .ok (.iconst 0, 1) := by decide +kernel
theorem dX12_init_307 : decode cX12_init 307 = .ok (.bipush 119, 2) := by decide +kernel
theorem dX12_init_309 : decode cX12_init 309 = .ok (.castore, 1) := by decide +kernel
theorem dX12_init_310 : decode cX12_init 310 = .ok (.dup, 1) := by decide +kernel
theorem dX12_init_311 : decode cX12_init 311 = .ok (.iconst 1, 1) := by decide +kernel
theorem dX12_init_312 : decode cX12_init 312 = .ok (.bipush 97, 2) := by decide +kernel
theorem dX12_init_314 : decode cX12_init 314 = .ok (.castore, 1) := by decide +kernel
theorem dX12_init_315 : decode cX12_init 315 = .ok (.dup, 1) := by decide +kernel
theorem dX12_init_316 : decode cX12_init 316 = .ok (.iconst 2, 1) := by decide +kernel
theorem dX12_init_317 : decode cX12_init 317 = .ok (.bipush 116, 2) := by decide +kernel
theorem dX12_init_319 : decode cX12_init 319 = .ok (.castore, 1) := by decide +kernel
theorem dX12_init_320 : decode cX12_init 320 = .ok (.dup, 1) := by decide +kernel
theorem dX12_init_321 : decode cX12_init 321 = .ok (.iconst 3, 1) := by decide +kernel
theorem dX12_init_322 : decode cX12_init 322 = .ok (.bipush 99, 2) := by decide +kernel
theorem dX12_init_324 : decode cX12_init 324 = .ok (.castore, 1) := by decide +kernel
theorem dX12_init_325 : decode cX12_init 325 = .ok (.dup, 1) := by decide +kernel
theorem dX12_init_326 : decode cX12_init 326 = .ok (.iconst 4, 1) := by decide +kernel
theorem dX12_init_327 : decode cX12_init 327 = .ok (.bipush 104, 2) := by decide +kernel
theorem dX12_init_329 : decode cX12_init 329 = .ok (.castore, 1) := by decide +kernel
theorem dX12_init_330 : decode cX12_init 330 = .ok (.putfield 48, 3) := by decide +kernel
theorem dX12_init_333 : decode cX12_init 333 = .ok (.aload_n 0, 1) := by decide +kernel
theorem dX12_init_334 : decode cX12_init 334 = .ok (.iconst 4, 1) := by decide +kernel
theorem dX12_init_335 : decode cX12_init 335 = .ok (.newarray .char, 2) := by decide +kernel
theorem dX12_init_337 : decode cX12_init 337 = .ok (.dup, 1) := by decide +kernel
theorem dX12_init_338 : decode cX12_init 338 = .ok (.iconst 0, 1) := by decide +kernel
theorem dX12_init_339 : decode cX12_init 339 = .ok (.bipush 115, 2) := by decide +kernel
theorem dX12_init_341 : decode cX12_init 341 = .ok (.castore, 1) := by decide +kernel
theorem dX12_init_342 : decode cX12_init 342 = .ok (.dup, 1) := by decide +kernel
theorem dX12_init_343 : decode cX12_init 343 = .ok (.iconst 1, 1) := by decide +kernel
theorem dX12_init_344 : decode cX12_init 344 = .ok (.bipush 101, 2) := by decide +kernel
theorem dX12_init_346 : decode cX12_init 346 = .ok (.castore, 1) := by decide +kernel
theorem dX12_init_347 : decode cX12_init 347 = .ok (.dup, 1) := by decide +kernel
theorem dX12_init_348 : decode cX12_init 348 = .ok (.iconst 2, 1) := by decide +kernel
theorem dX12_init_349 : decode cX12_init 349 = .ok (.bipush 97, 2) := by decide +kernel
theorem dX12_init_351 : decode cX12_init 351 = .ok (.castore, 1) := by decide +kernel
theorem dX12_init_352 : decode cX12_init 352 = .ok (.dup, 1) := by decide +kernel
theorem dX12_init_353 : decode cX12_init 353 = .ok (.iconst 3, 1) := by decide +kernel
theorem dX12_init_354 : decode cX12_init 354 = .ok (.bipush 116, 2) := by decide +kernel
theorem dX12_init_356 : decode cX12_init 356 = .ok (.castore, 1) := by decide +kernel
theorem dX12_init_357 : decode cX12_init 357 = .ok (.putfield 51, 3) := by decide +kernel
theorem dX12_init_360 : decode cX12_init 360 = .ok (.aload_n 0, 1) := by decide +kernel
theorem dX12_init_361 : decode cX12_init 361 = .ok (.iconst 5, 1) := by decide +kernel
theorem dX12_init_362 : decode cX12_init 362 = .ok (.newarray .char, 2) := by decide +kernel
theorem dX12_init_364 : decode cX12_init 364 = .ok (.dup, 1) := by decide +kernel
theorem dX12_init_365 : decode cX12_init 365 = .ok (.iconst 0, 1) := by decide +kernel
theorem dX12_init_366 : decode cX12_init 366 = .ok (.bipush 103, 2) := by decide +kernel
theorem dX12_init_368 : decode cX12_init 368 = .ok (.castore, 1) := by decide +kernel
theorem dX12_init_369 : decode cX12_init 369 = .ok (.dup, 1) := by decide +kernel
theorem dX12_init_370 : decode cX12_init 370 = .ok (.iconst 1, 1) := by decide +kernel
theorem dX12_init_371 : decode cX12_init 371 = .ok (.bipush 108, 2) := by decide +kernel
theorem dX12_init_373 : decode cX12_init 373 = .ok (.castore, 1) := by decide +kernel
theorem dX12_init_374 : decode cX12_init 374 = .ok (.dup, 1) := by decide +kernel
theorem dX12_init_375 : decode cX12_init 375 = .ok (.iconst 2, 1) := by decide +kernel
theorem dX12_init_376 : decode cX12_init 376 = .ok (.bipush 97, 2) := by decide +kernel
theorem dX12_init_378 : decode cX12_init 378 = .ok (.castore, 1) := by decide +kernel
theorem dX12_init_379 : decode cX12_init 379 = .ok (.dup, 1) := by decide +kernel
theorem dX12_init_380 : decode cX12_init 380 = .ok (.iconst 3, 1) := by decide +kernel
theorem dX12_init_381 : decode cX12_init 381 = .ok (.bipush 115, 2) := by decide +kernel
theorem dX12_init_383 : decode cX12_init 383 = .ok (.castore, 1) := by decide +kernel
theorem dX12_init_384 : decode cX12_init 384 = .ok (.dup, 1) := by decide +kernel
theorem dX12_init_385 : decode cX12_init 385 = .ok (.iconst 4, 1) := by decide +kernel
theorem dX12_init_386 : decode cX12_init 386 = .ok (.bipush 115, 2) := by decide +kernel
theorem dX12_init_388 : decode cX12_init 388 = .ok (.castore, 1) := by decide +kernel
theorem dX12_init_389 : decode cX12_init 389 = .ok (.putfield 54, 3) := by decide +kernel
theorem dX12_init_392 : decode cX12_init 392 = .ok (.aload_n 0, 1) := by decide +kernel
theorem dX12_init_393 : decode cX12_init 393 = .ok (.iconst 4, 1) := by decide +kernel
theorem dX12_init_394 : decode cX12_init 394 = .ok (.newarray .char, 2) := by decide +kernel
theorem dX12_init_396 : decode cX12_init 396 = .ok (.dup, 1) := by decide +kernel
theorem dX12_init_397 : decode cX12_init 397 = .ok (.iconst 0, 1) := by decide +kernel
theorem dX12_init_398 : decode cX12_init 398 = .ok (.bipush 115, 2) := by decide +kernel
theorem dX12_init_400 : decode cX12_init 400 = .ok (.castore, 1) := by decide +kernel
theorem dX12_init_401 : decode cX12_init 401 = .ok (.dup, 1) := by decide +kernel
theorem dX12_init_402 : decode cX12_init 402 = .ok (.iconst 1, 1) := by decide +kernel
theorem dX12_init_403 : decode cX12_init 403 = .ok (.bipush 101, 2) := by decide +kernel
theorem dX12_init_405 : decode cX12_init 405 = .ok (.castore, 1) := by decide +kernel
theorem dX12_init_406 : decode cX12_init 406 = .ok (.dup, 1) := by decide +kernel
theorem dX12_init_407 : decode cX12_init 407 = .ok (.iconst 2, 1) := by decide +kernel
theorem dX12_init_408 : decode cX12_init 408 = .ok (.bipush 101, 2) := by decide +kernel
theorem dX12_init_410 : decode cX12_init 410 = .ok (.castore, 1) := by decide +kernel
theorem dX12_init_411 : decode cX12_init 411 = .ok (.dup, 1) := by decide +kernel
theorem dX12_init_412 : decode cX12_init 412 = .ok (.iconst 3, 1) := by decide +kernel
theorem dX12_init_413 : decode cX12_init 413 = .ok (.bipush 115, 2) := by decide +kernel
theorem dX12_init_415 : decode cX12_init 415 = .ok (.castore, 1) := by decide +kernel
theorem dX12_init_416 : decode cX12_init 416 = .ok (.putfield 57, 3) := by decide +kernel
theorem dX12_init_419 : decode cX12_init 419 = .ok (.aload_n 0, 1) := by decide +kernel
theorem dX12_init_420 : decode cX12_init 420 = .ok (.iconst 5, 1) := by decide +kernel
theorem dX12_init_421 : decode cX12_init 421 = .ok (.newarray .char, 2) := by decide +kernel
theorem dX12_init_423 : decode cX12_init 423 = .ok (.dup, 1) := by decide +kernel
theorem dX12_init_424 : decode cX12_init 424 = .ok (.iconst 0, 1) := by decide +kernel
theorem dX12_init_425 : decode cX12_init 425 = .ok (.bipush 108, 2) := by decide +kernel
theorem dX12_init_427 : decode cX12_init 427 = .ok (.castore, 1) := by decide +kernel
theorem dX12_init_428 : decode cX12_init 428 = .ok (.dup, 1) := by decide +kernel
theorem dX12_init_429 : decode cX12_init 429 = .ok (.iconst 1, 1) := by decide +kernel
theorem dX12_init_430 : decode cX12_init 430 = .ok (.bipush 111, 2) := by decide +kernel
theorem dX12_init_432 : decode cX12_init 432 = .ok (.castore, 1) := by decide +kernel
theorem dX12_init_433 : decode cX12_init 433 = .ok (.dup, 1) := by decide +kernel
theorem dX12_init_434 : decode cX12_init 434 = .ok (.iconst 2, 1) := by decide +kernel
theorem dX12_init_435 : decode cX12_init 435 = .ok (.bipush 115, 2) := by decide +kernel
theorem dX12_init_437 : decode cX12_init 437 = .ok (.castore, 1) := by decide +kernel
theorem dX12_init_438 : decode cX12_init 438 = .ok (.dup, 1) := by decide +kernel
theorem dX12_init_439 : decode cX12_init 439 = .ok (.iconst 3, 1) := by decide +kernel
theorem dX12_init_440 : decode cX12_init 440 = .ok (.bipush 101, 2) := by decide +kernel
theorem dX12_init_442 : decode cX12_init 442 = .ok (.castore, 1) := by decide +kernel
theorem dX12_init_443 : decode cX12_init 443 = .ok (.dup, 1) := by decide +kernel
theorem dX12_init_444 : decode cX12_init 444 = .ok (.iconst 4, 1) := by decide +kernel
theorem dX12_init_445 : decode cX12_init 445 = .ok (.bipush 115, 2) := by decide +kernel
theorem dX12_init_447 : decode cX12_init 447 = .ok (.castore, 1) := by decide +kernel
theorem dX12_init_448 : decode cX12_init 448 = .ok (.putfield 60, 3) := by decide +kernel
theorem dX12_init_451 : decode cX12_init 451 = .ok (.aload_n 0, 1) := by decide +kernel
theorem dX12_init_452 : decode cX12_init 452 = .ok (.bipush 6, 2) := by decide +kernel
theorem dX12_init_454 : decode cX12_init 454 = .ok (.newarray .char, 2) := by decide +kernel
theorem dX12_init_456 : decode cX12_init 456 = .ok (.dup, 1) := by decide +kernel
theorem dX12_init_457 : decode cX12_init 457 = .ok (.iconst 0, 1) := by decide +kernel
theorem dX12_init_458 : decode cX12_init 458 = .ok (.bipush 98, 2) := by decide +kernel
theorem dX12_init_460 : decode cX12_init 460 = .ok (.castore, 1) := by decide +kernel
theorem dX12_init_461 : decode cX12_init 461 = .ok (.dup, 1) := by decide +kernel
theorem dX12_init_462 : decode cX12_init 462 = .ok (.iconst 1, 1) := by decide +kernel
theorem dX12_init_463 : decode cX12_init 463 = .ok (.bipush 101, 2) := by decide +kernel
theorem dX12_init_465 : decode cX12_init 465 = .ok (.castore, 1) := by decide +kernel
theorem dX12_init_466 : decode cX12_init 466 = .ok (.dup, 1) := by decide +kernel
theorem dX12_init_467 : decode cX12_init 467 = .ok (.iconst 2, 1) := by decide +kernel
theorem dX12_init_468 : decode cX12_init 468 = .ok (.bipush 108, 2) := by decide +kernel
theorem dX12_init_470 : decode cX12_init 470 = .ok (.castore, 1) := by decide +kernel
theorem dX12_init_471 : decode cX12_init 471 = .ok (.dup, 1) := by decide +kernel
theorem dX12_init_472 : decode cX12_init 472 = .ok (.iconst 3, 1) := by decide +kernel
theorem dX12_init_473 : decode cX12_init 473 = .ok (.bipush 105, 2) := by decide +kernel
theorem dX12_init_475 : decode cX12_init 475 = .ok (.castore, 1) := by decide +kernel
theorem dX12_init_476 : decode cX12_init 476 = .ok (.dup, 1) := by decide +kernel
theorem dX12_init_477 : decode cX12_init 477 = .ok (.iconst 4, 1) := by decide +kernel
theorem dX12_init_478 : decode cX12_init 478 = .ok (.bipush 101, 2) := by decide +kernel
theorem dX12_init_480 : decode cX12_init 480 = .ok (.castore, 1) := by decide +kernel
theorem dX12_init_481 : decode cX12_init 481 = .ok (.dup, 1) := by decide +kernel
theorem dX12_init_482 : decode cX12_init 482 = .ok (.iconst 5, 1) := by decide +kernel
theorem dX12_init_483 : decode cX12_init 483 = .ok (.bipush 102, 2) := by decide +kernel
theorem dX12_init_485 : decode cX12_init 485 = .ok (.castore, 1) := by decide +kernel
theorem dX12_init_486 : decode cX12_init 486 = .ok (.putfield 63, 3) := by decide +kernel
theorem dX12_init_489 : decode cX12_init 489 = .ok (.aload_n 0, 1) := by decide +kernel
theorem dX12_init_490 : decode cX12_init 490 = .ok (.iconst 4, 1) := by decide +kernel
theorem dX12_init_491 : decode cX12_init 491 = .ok (.newarray .char, 2) := by decide +kernel
theorem dX12_init_493 : decode cX12_init 493 = .ok (.dup, 1) := by decide +kernel
theorem dX12_init_494 : decode cX12_init 494 = .ok (.iconst 0, 1) := by decide +kernel
theorem dX12_init_495 : decode cX12_init 495 = .ok (.bipush 98, 2) := by decide +kernel
theorem dX12_init_497 : decode cX12_init 497 = .ok (.castore, 1) := by decide +kernel
theorem dX12_init_498 : decode cX12_init 498 = .ok (.dup, 1) := by decide +kernel
theorem dX12_init_499 : decode cX12_init 499 = .ok (.iconst 1, 1) := by decide +kernel
theorem dX12_init_500 : decode cX12_init 500 = .ok (.bipush 111, 2) := by decide +kernel
theorem dX12_init_502 : decode cX12_init 502 = .ok (.castore, 1) := by decide +kernel
theorem dX12_init_503 : decode cX12_init 503 = .ok (.dup, 1) := by decide +kernel
theorem dX12_init_504 : decode cX12_init 504 = .ok (.iconst 2, 1) := by decide +kernel
theorem dX12_init_505 : decode cX12_init 505 = .ok (.bipush 121, 2) := by decide +kernel
theorem dX12_init_507 : decode cX12_init 507 = .ok (.castore, 1) := by decide +kernel
theorem dX12_init_508 : decode cX12_init 508 = .ok (.dup, 1) := by decide +kernel
theorem dX12_init_509 : decode cX12_init 509 = .ok (.iconst 3, 1) := by decide +kernel
theorem dX12_init_510 : decode cX12_init 510 = .ok (.bipush 115, 2) := by decide +kernel
theorem dX12_init_512 : decode cX12_init 512 = .ok (.castore, 1) := by decide +kernel
theorem dX12_init_513 : decode cX12_init 513 = .ok (.putfield 66, 3) := by decide +kernel
theorem dX12_init_516 : decode cX12_init 516 = .ok (.aload_n 0, 1) := by decide +kernel
theorem dX12_init_517 : decode cX12_init 517 = .ok (.iconst 5, 1) := by decide +kernel
theorem dX12_init_518 : decode cX12_init 518 = .ok (.newarray .char, 2) := by decide +kernel
theorem dX12_init_520 : decode cX12_init 520 = .ok (.dup, 1) := by decide +kernel
theorem dX12_init_521 : decode cX12_init 521 = .ok (.iconst 0, 1) := by decide +kernel
theorem dX12_init_522 : decode cX12_init 522 = .ok (.bipush 116, 2) := by decide +kernel
theorem dX12_init_524 : decode cX12_init 524 = .ok (.castore, 1) := by decide +kernel
theorem dX12_init_525 : decode cX12_init 525 = .ok (.dup, 1) := by decide +kernel
theorem dX12_init_526 : decode cX12_init 526 = .ok (.iconst 1, 1) := by decide +kernel
theorem dX12_init_527 : decode cX12_init 527 = .ok (.bipush 105, 2) := by decide +kernel
theorem dX12_init_529 : decode cX12_init 529 = .ok (.castore, 1) := by decide +kernel
theorem dX12_init_530 : decode cX12_init 530 = .ok (.dup, 1) := by decide +kernel
theorem dX12_init_531 : decode cX12_init 531 = .ok (.iconst 2, 1) := by decide +kernel
theorem dX12_init_532 : decode cX12_init 532 = .ok (.bipush 109, 2) := by decide +kernel
theorem dX12_init_534 : decode cX12_init 534 = .ok (.castore, 1) := by decide +kernel
theorem dX12_init_535 : decode cX12_init 535 = .ok (.dup, 1) := by decide +kernel
theorem dX12_init_536 : decode cX12_init 536 = .ok (.iconst 3, 1) := by decide +kernel
theorem dX12_init_537 : decode cX12_init 537 = .ok (.bipush 101, 2) := by decide +kernel
theorem dX12_init_539 : decode cX12_init 539 = .ok (.castore, 1) := by decide +kernel
theorem dX12_init_540 : decode cX12_init 540 = .ok (.dup, 1) := by decide +kernel
theorem dX12_init_541 : decode cX12_init 541 = .ok (.iconst 4, 1) := by decide +kernel
theorem dX12_init_542 : decode cX12_init 542 = .ok (.bipush 115, 2) := by decide +kernel
theorem dX12_init_544 : decode cX12_init 544 = .ok (.castore, 1) := by decide +kernel
theorem dX12_init_545 : decode cX12_init 545 = .ok (.putfield 69, 3) := by decide +kernel
theorem dX12_init_548 : decode cX12_init 548 = .ok (.aload_n 0, 1) := by decide +kernel
theorem dX12_init_549 : decode cX12_init 549 = .ok (.iconst 4, 1) := by decide +kernel
theorem dX12_init_550 : decode cX12_init 550 = .ok (.newarray .char, 2) := by decide +kernel
theorem dX12_init_552 : decode cX12_init 552 = .ok (.dup, 1) := by decide +kernel
theorem dX12_init_553 : decode cX12_init 553 = .ok (.iconst 0, 1) := by decide +kernel
theorem dX12_init_554 : decode cX12_init 554 = .ok (.bipush 121, 2) := by decide +kernel
theorem dX12_init_556 : decode cX12_init 556 = .ok (.castore, 1) := by decide +kernel
theorem dX12_init_557 : decode cX12_init 557 = .ok (.dup, 1) := by decide +kernel
theorem dX12_init_558 : decode cX12_init 558 = .ok (.iconst 1, 1) := by decide +kernel
theorem dX12_init_559 : decode cX12_init 559 = .ok (.bipush 101, 2) := by decide +kernel
theorem dX12_init_561 : decode cX12_init 561 = .ok (.castore, 1) := by decide +kernel
theorem dX12_init_562 : decode cX12_init 562 = .ok (.dup, 1) := by decide +kernel
theorem dX12_init_563 : decode cX12_init 563 = .ok (.iconst 2, 1) := by decide +kernel
theorem dX12_init_564 : decode cX12_init 564 = .ok (.bipush 97, 2) := by decide +kernel
theorem dX12_init_566 : decode cX12_init 566 = .ok (.castore, 1) := by decide +kernel
theorem dX12_init_567 : decode cX12_init 567 = .ok (.dup, 1) := by decide +kernel
theorem dX12_init_568 : decode cX12_init 568 = .ok (.iconst 3, 1) := by decide +kernel
theorem dX12_init_569 : decode cX12_init 569 = .ok (.bipush 114, 2) := by decide +kernel
theorem dX12_init_571 : decode cX12_init 571 = .ok (.castore, 1) := by decide +kernel
theorem dX12_init_572 : decode cX12_init 572 = .ok (.putfield 72, 3) := by decide +kernel
theorem dX12_init_575 : decode cX12_init 575 = .ok (.aload_n 0, 1) := by decide +kernel
theorem dX12_init_576 : decode cX12_init 576 = .ok (.bipush 6, 2) := by decide +kernel
theorem dX12_init_578 : decode cX12_init 578 = .ok (.newarray .char, 2) := by decide +kernel
theorem dX12_init_580 : decode cX12_init 580 = .ok (.dup, 1) := by decide +kernel
theorem dX12_init_581 : decode cX12_init 581 = .ok (.iconst 0, 1) := by decide +kernel
theorem dX12_init_582 : decode cX12_init 582 = .ok (.bipush 110, 2) := by decide +kernel
theorem dX12_init_584 : decode cX12_init 584 = .ok (.castore, 1) := by decide +kernel
theorem dX12_init_585 : decode cX12_init 585 = .ok (.dup, 1) := by decide +kernel
theorem dX12_init_586 : decode cX12_init 586 = .ok (.iconst 1, 1) := by decide +kernel
theorem dX12_init_587 : decode cX12_init 587 = .ok (.bipush 117, 2) := by decide +kernel
theorem dX12_init_589 : decode cX12_init 589 = .ok (.castore, 1) := by decide +kernel
theorem dX12_init_590 : decode cX12_init 590 = .ok (.dup, 1) := by decide +kernel
theorem dX12_init_591 : decode cX12_init 591 = .ok (.iconst 2, 1) := by decide +kernel
theorem dX12_init_592 : decode cX12_init 592 = .ok (.bipush 109, 2) := by decide +kernel
theorem dX12_init_594 : decode cX12_init 594 = .ok (.castore, 1) := by decide +kernel
theorem dX12_init_595 : decode cX12_init 595 = .ok (.dup, 1) := by decide +kernel
theorem dX12_init_596 : decode cX12_init 596 = .ok (.iconst 3, 1) := by decide +kernel
theorem dX12_init_597 : decode cX12_init 597 = .ok (.bipush 98, 2) := by decide +kernel
theorem dX12_init_599 : decode cX12_init 599 = .ok (.castore, 1) := by decide +kernel
theorem dX12_init_600 : decode cX12_init 600 = .ok (.dup, 1) := by decide +kernel
theorem dX12_init_601 : decode cX12_init 601 = .ok (.iconst 4, 1) := by decide +kernel
theorem dX12_init_602 : decode cX12_init 602 = .ok (.bipush 101, 2) := by decide +kernel
theorem dX12_init_604 : decode cX12_init 604 = .ok (.castore, 1) := by decide +kernel
theorem dX12_init_605 : decode cX12_init 605 = .ok (.dup, 1) := by decide +kernel
theorem dX12_init_606 : decode cX12_init 606 = .ok (.iconst 5, 1) := by decide +kernel
theorem dX12_init_607 : decode cX12_init 607 = .ok (.bipush 114, 2) := by decide +kernel
theorem dX12_init_609 : decode cX12_init 609 = .ok (.castore, 1) := by decide +kernel
theorem dX12_init_610 : decode cX12_init 610 = .ok (.putfield 75, 3) := by decide +kernel
theorem dX12_init_613 : decode cX12_init 613 = .ok (.aload_n 0, 1) := by decide +kernel
theorem dX12_init_614 : decode cX12_init 614 = .ok (.iconst 5, 1) := by decide +kernel
theorem dX12_init_615 : decode cX12_init 615 = .ok (.newarray .char, 2) := by decide +kernel
theorem dX12_init_617 : decode cX12_init 617 = .ok (.dup, 1) := by decide +kernel
theorem dX12_init_618 : decode cX12_init 618 = .ok (.iconst 0, 1) := by decide +kernel
theorem dX12_init_619 : decode cX12_init 619 = .ok (.bipush 107, 2) := by decide +kernel
theorem dX12_init_621 : decode cX12_init 621 = .ok (.castore, 1) := by decide +kernel
theorem dX12_init_622 : decode cX12_init 622 = .ok (.dup, 1) := by decide +kernel
theorem dX12_init_623 : decode cX12_init 623 = .ok (.iconst 1, 1) := by decide +kernel
theorem dX12_init_624 : decode cX12_init 624 = .ok (.bipush 110, 2) := by decide +kernel
theorem dX12_init_626 : decode cX12_init 626 = .ok (.castore, 1) := by decide +kernel
theorem dX12_init_627 : decode cX12_init 627 = .ok (.dup, 1) := by decide +kernel
theorem dX12_init_628 : decode cX12_init 628 = .ok (.iconst 2, 1) := by decide +kernel
theorem dX12_init_629 : decode cX12_init 629 = .ok (.bipush 111, 2) := by decide +kernel
theorem dX12_init_631 : decode cX12_init 631 = .ok (.castore, 1) := by decide +kernel
theorem dX12_init_632 : decode cX12_init 632 = .ok (.dup, 1) := by decide +kernel
theorem dX12_init_633 : decode cX12_init 633 = .ok (.iconst 3, 1) := by decide +kernel
theorem dX12_init_634 : decode cX12_init 634 = .ok (.bipush 119, 2) := by decide +kernel
theorem dX12_init_636 : decode cX12_init 636 = .ok (.castore, 1) := by decide +kernel
theorem dX12_init_637 : decode cX12_init 637 = .ok (.dup, 1) := by decide +kernel
theorem dX12_init_638 : decode cX12_init 638 = .ok (.iconst 4, 1) := by decide +kernel
theorem dX12_init_639 : decode cX12_init 639 = .ok (.bipush 110, 2) := by decide +kernel
theorem dX12_init_641 : decode cX12_init 641 = .ok (.castore, 1) := by decide +kernel
theorem dX12_init_642 : decode cX12_init 642 = .ok (.putfield 78, 3) := by decide +kernel
theorem dX12_init_645 : decode cX12_init 645 = .ok (.aload_n 0, 1) := by decide +kernel
theorem dX12_init_646 : decode cX12_init 646 = .ok (.iconst 5, 1) := by decide +kernel
theorem dX12_init_647 : decode cX12_init 647 = .ok (.newarray .char, 2) := by decide +kernel
theorem dX12_init_649 : decode cX12_init 649 = .ok (.dup, 1) := by decide +kernel
theorem dX12_init_650 : decode cX12_init 650 = .ok (.iconst 0, 1) := by decide +kernel
theorem dX12_init_651 : decode cX12_init 651 = .ok (.bipush 115, 2) := by decide +kernel
theorem dX12_init_653 : decode cX12_init 653 = .ok (.castore, 1) := by decide +kernel
theorem dX12_init_654 : decode cX12_init 654 = .ok (.dup, 1) := by decide +kernel
theorem dX12_init_655 : decode cX12_init 655 = .ok (.iconst 1, 1) := by decide +kernel
theorem dX12_init_656 : decode cX12_init 656 = .ok (.bipush 105, 2) := by decide +kernel
theorem dX12_init_658 : decode cX12_init 658 = .ok (.castore, 1) := by decide +kernel
theorem dX12_init_659 : decode cX12_init 659 = .ok (.dup, 1) := by decide +kernel
theorem dX12_init_660 : decode cX12_init 660 = .ok (.iconst 2, 1) := by decide +kernel
theorem dX12_init_661 : decode cX12_init 661 = .ok (.bipush 103, 2) := by decide +kernel
theorem dX12_init_663 : decode cX12_init 663 = .ok (.castore, 1) := by decide +kernel
theorem dX12_init_664 : decode cX12_init 664 = .ok (.dup, 1) := by decide +kernel
theorem dX12_init_665 : decode cX12_init 665 = .ok (.iconst 3, 1) := by decide +kernel
theorem dX12_init_666 : decode cX12_init 666 = .ok (.bipush 104, 2) := by decide +kernel
theorem dX12_init_668 : decode cX12_init 668 = .ok (.castore, 1) := by decide +kernel
theorem dX12_init_669 : decode cX12_init 669 = .ok (.dup, 1) := by decide +kernel
theorem dX12_init_670 : decode cX12_init 670 = .ok (.iconst 4, 1) := by decide +kernel
theorem dX12_init_671 : decode cX12_init 671 = .ok (.bipush 116, 2) := by decide +kernel
theorem dX12_init_673 : decode cX12_init 673 = .ok (.castore, 1) := by decide +kernel
theorem dX12_init_674 : decode cX12_init 674 = .ok (.putfield 81, 3) := by decide +kernel
theorem dX12_init_677 : decode cX12_init 677 = .ok (.aload_n 0, 1) := by decide +kernel
theorem dX12_init_678 : decode cX12_init 678 = .ok (.iconst 4, 1) := by decide +kernel
theorem dX12_init_679 : decode cX12_init 679 = .ok (.newarray .char, 2) := by decide +kernel
theorem dX12_init_681 : decode cX12_init 681 = .ok (.dup, 1) := by decide +kernel
theorem dX12_init_682 : decode cX12_init 682 = .ok (.iconst 0, 1) := by decide +kernel
theorem dX12_init_683 : decode cX12_init 683 = .ok (.bipush 108, 2) := by decide +kernel
theorem dX12_init_685 : decode cX12_init 685 = .ok (.castore, 1) := by decide +kernel
theorem dX12_init_686 : decode cX12_init 686 = .ok (.dup, 1) := by decide +kernel
theorem dX12_init_687 : decode cX12_init 687 = .ok (.iconst 1, 1) := by decide +kernel
theorem dX12_init_688 : decode cX12_init 688 = .ok (.bipush 101, 2) := by decide +kernel
theorem dX12_init_690 : decode cX12_init 690 = .ok (.castore, 1) := by decide +kernel
theorem dX12_init_691 : decode cX12_init 691 = .ok (.dup, 1) := by decide +kernel
theorem dX12_init_692 : decode cX12_init 692 = .ok (.iconst 2, 1) := by decide +kernel
theorem dX12_init_693 : decode cX12_init 693 = .ok (.bipush 102, 2) := by decide +kernel
theorem dX12_init_695 : decode cX12_init 695 = .ok (.castore, 1) := by decide +kernel
theorem dX12_init_696 : decode cX12_init 696 = .ok (.dup, 1) := by decide +kernel
theorem dX12_init_697 : decode cX12_init 697 = .ok (.iconst 3, 1) := by decide +kernel
theorem dX12_init_698 : decode cX12_init 698 = .ok (.bipush 116, 2) := by decide +kernel
theorem dX12_init_700 : decode cX12_init 700 = .ok (.castore, 1) := by decide +kernel
theorem dX12_init_701 : decode cX12_init 701 = .ok (.putfield 84, 3) := by decide +kernel
theorem dX12_init_704 : decode cX12_init 704 = .ok (.aload_n 0, 1) := by decide +kernel
theorem dX12_init_705 : decode cX12_init 705 = .ok (.iconst 4, 1) := by decide +kernel
theorem dX12_init_706 : decode cX12_init 706 = .ok (.newarray .char, 2) := by decide +kernel
theorem dX12_init_708 : decode cX12_init 708 = .ok (.dup, 1) := by decide +kernel
theorem dX12_init_709 : decode cX12_init 709 = .ok (.iconst 0, 1) := by decide +kernel
theorem dX12_init_710 : decode cX12_init 710 = .ok (.bipush 115, 2) := by decide +kernel
theorem dX12_init_712 : decode cX12_init 712 = .ok (.castore, 1) := by decide +kernel
theorem dX12_init_713 : decode cX12_init 713 = .ok (.dup, 1) := by decide +kernel
theorem dX12_init_714 : decode cX12_init 714 = .ok (.iconst 1, 1) := by decide +kernel
theorem dX12_init_715 : decode cX12_init 715 = .ok (.bipush 101, 2) := by decide +kernel
theorem dX12_init_717 : decode cX12_init 717 = .ok (.castore, 1) := by decide +kernel
theorem dX12_init_718 : decode cX12_init 718 = .ok (.dup, 1) := by decide +kernel
theorem dX12_init_719 : decode cX12_init 719 = .ok (.iconst 2, 1) := by decide +kernel
theorem dX12_init_720 : decode cX12_init 720 = .ok (.bipush 101, 2) := by decide +kernel
theorem dX12_init_722 : decode cX12_init 722 = .ok (.castore, 1) := by decide +kernel
theorem dX12_init_723 : decode cX12_init 723 = .ok (.dup, 1) := by decide +kernel
theorem dX12_init_724 : decode cX12_init 724 = .ok (.iconst 3, 1) := by decide +kernel
theorem dX12_init_725 : decode cX12_init 725 = .ok (.bipush 110, 2) := by decide +kernel
theorem dX12_init_727 : decode cX12_init 727 = .ok (.castore, 1) := by decide +kernel
theorem dX12_init_728 : decode cX12_init 728 = .ok (.putfield 87, 3) := by decide +kernel
theorem dX12_init_731 : decode cX12_init 731 = .ok (.aload_n 0, 1) := by decide +kernel
theorem dX12_init_732 : decode cX12_init 732 = .ok (.iconst 2, 1) := by decide +kernel
theorem dX12_init_733 : decode cX12_init 733 = .ok (.newarray .char, 2) := by decide +kernel
theorem dX12_init_735 : decode cX12_init 735 = .ok (.dup, 1) := by decide +kernel
theorem dX12_init_736 : decode cX12_init 736 = .ok (.iconst 0, 1) := by decide +kernel
theorem dX12_init_737 : decode cX12_init 737 = .ok (.bipush 111, 2) := by decide +kernel
theorem dX12_init_739 : decode cX12_init 739 = .ok (.castore, 1) := by decide +kernel
theorem dX12_init_740 : decode cX12_init 740 = .ok (.dup, 1) := by decide +kernel
theorem dX12_init_741 : decode cX12_init 741 = .ok (.iconst 1, 1) := by decide +kernel
theorem dX12_init_742 : decode cX12_init 742 = .ok (.bipush 114, 2) := by decide +kernel
theorem dX12_init_744 : decode cX12_init 744 = .ok (.castore, 1) := by decide +kernel
theorem dX12_init_745 : decode cX12_init 745 = .ok (.putfield 90, 3) := by decide +kernel
theorem dX12_init_748 : decode cX12_init 748 = .ok (.aload_n 0, 1) := by decide +kernel
theorem dX12_init_749 : decode cX12_init 749 = .ok (.iconst 3, 1) := by decide +kernel
theorem dX12_init_750 : decode cX12_init 750 = .ok (.newarray .char, 2) := by decide +kernel
theorem dX12_init_752 : decode cX12_init 752 = .ok (.dup, 1) := by decide +kernel
theorem dX12_init_753 : decode cX12_init 753 = .ok (.iconst 0, 1) := by decide +kernel
theorem dX12_init_754 : decode cX12_init 754 = .ok (.bipush 97, 2) := by decide +kernel
theorem dX12_init_756 : decode cX12_init 756 = .ok (.castore, 1) := by decide +kernel
theorem dX12_init_757 : decode cX12_init 757 = .ok (.dup, 1) := by decide +kernel
theorem dX12_init_758 : decode cX12_init 758 = .ok (.iconst 1, 1) := by decide +kernel
theorem dX12_init_759 : decode cX12_init 759 = .ok (.bipush 110, 2) := by decide +kernel
theorem dX12_init_761 : decode cX12_init 761 = .ok (.castore, 1) := by decide +kernel
theorem dX12_init_762 : decode cX12_init 762 = .ok (.dup, 1) := by decide +kernel
theorem dX12_init_763 : decode cX12_init 763 = .ok (.iconst 2, 1) := by decide +kernel
theorem dX12_init_764 : decode cX12_init 764 = .ok (.bipush 100, 2) := by decide +kernel
theorem dX12_init_766 : decode cX12_init 766 = .ok (.castore, 1) := by decide +kernel
theorem dX12_init_767 : decode cX12_init 767 = .ok (.putfield 93, 3) := by decide +kernel
theorem dX12_init_770 : decode cX12_init 770 = .ok (.aload_n 0, 1) := by decide +kernel
theorem dX12_init_771 : decode cX12_init 771 = .ok (.iconst 3, 1) := by decide +kernel
theorem dX12_init_772 : decode cX12_init 772 = .ok (.newarray .char, 2) := by decide +kernel
theorem dX12_init_774 : decode cX12_init 774 = .ok (.dup, 1) := by decide +kernel
theorem dX12_init_775 : decode cX12_init 775 = .ok (.iconst 0, 1) := by decide +kernel
theorem dX12_init_776 : decode cX12_init 776 = .ok (.bipush 110, 2) := by decide +kernel
theorem dX12_init_778 : decode cX12_init 778 = .ok (.castore, 1) := by decide +kernel
theorem dX12_init_779 : decode cX12_init 779 = .ok (.dup, 1) := by decide +kernel
theorem dX12_init_780 : decode cX12_init 780 = .ok (.iconst 1, 1) := by decide +kernel
theorem dX12_init_781 : decode cX12_init 781 = .ok (.bipush 111, 2) := by decide +kernel
theorem dX12_init_783 : decode cX12_init 783 = .ok (.castore, 1) := by decide +kernel
theorem dX12_init_784 : decode cX12_init 784 = .ok (.dup, 1) := by decide +kernel
theorem dX12_init_785 : decode cX12_init 785 = .ok (.iconst 2, 1) := by decide +kernel
theorem dX12_init_786 : decode cX12_init 786 = .ok (.bipush 116, 2) := by decide +kernel
theorem dX12_init_788 : decode cX12_init 788 = .ok (.castore, 1) := by decide +kernel
theorem dX12_init_789 : decode cX12_init 789 = .ok (.putfield 96, 3) := by decide +kernel
theorem dX12_init_792 : decode cX12_init 792 = .ok (.aload_n 0, 1) := by decide +kernel
theorem dX12_init_793 : decode cX12_init 793 = .ok (.iconst 3, 1) := by decide +kernel
theorem dX12_init_794 : decode cX12_init 794 = .ok (.newarray .char, 2) := by decide +kernel
theorem dX12_init_796 : decode cX12_init 796 = .ok (.dup, 1) := by decide +kernel
theorem dX12_init_797 : decode cX12_init 797 = .ok (.iconst 0, 1) := by decide +kernel
theorem dX12_init_798 : decode cX12_init 798 = .ok (.bipush 97, 2) := by decide +kernel
theorem dX12_init_800 : decode cX12_init 800 = .ok (.castore, 1) := by decide +kernel
theorem dX12_init_801 : decode cX12_init 801 = .ok (.dup, 1) := by decide +kernel
theorem dX12_init_802 : decode cX12_init 802 = .ok (.iconst 1, 1) := by decide +kernel
theorem dX12_init_803 : decode cX12_init 803 = .ok (.bipush 108, 2) := by decide +kernel
theorem dX12_init_805 : decode cX12_init 805 = .ok (.castore, 1) := by decide +kernel
theorem dX12_init_806 : decode cX12_init 806 = .ok (.dup, 1) := by decide +kernel
theorem dX12_init_807 : decode cX12_init 807 = .ok (.iconst 2, 1) := by decide +kernel
theorem dX12_init_808 : decode cX12_init 808 = .ok (.bipush 108, 2) := by decide +kernel
theorem dX12_init_810 : decode cX12_init 810 = .ok (.castore, 1) := by decide +kernel
theorem dX12_init_811 : decode cX12_init 811 = .ok (.putfield 99, 3) := by decide +kernel
theorem dX12_init_814 : decode cX12_init 814 = .ok (.aload_n 0, 1) := by decide +kernel
theorem dX12_init_815 : decode cX12_init 815 = .ok (.iconst 3, 1) := by decide +kernel
theorem dX12_init_816 : decode cX12_init 816 = .ok (.newarray .char, 2) := by decide +kernel
theorem dX12_init_818 : decode cX12_init 818 = .ok (.dup, 1) := by decide +kernel
theorem dX12_init_819 : decode cX12_init 819 = .ok (.iconst 0, 1) := by decide +kernel
theorem dX12_init_820 : decode cX12_init 820 = .ok (.bipush 109, 2) := by decide +kernel
theorem dX12_init_822 : decode cX12_init 822 = .ok (.castore, 1) := by decide +kernel
theorem dX12_init_823 : decode cX12_init 823 = .ok (.dup, 1) := by decide +kernel
theorem dX12_init_824 : decode cX12_init 824 = .ok (.iconst 1, 1) := by decide +kernel
theorem dX12_init_825 : decode cX12_init 825 = .ok (.bipush 105, 2) := by decide +kernel
theorem dX12_init_827 : decode cX12_init 827 = .ok (.castore, 1) := by decide +kernel
theorem dX12_init_828 : decode cX12_init 828 = .ok (.dup, 1) := by decide +kernel
theorem dX12_init_829 : decode cX12_init 829 = .ok (.iconst 2, 1) := by decide +kernel
theorem dX12_init_830 : decode cX12_init 830 = .ok (.bipush 110, 2) := by decide +kernel
theorem dX12_init_832 : decode cX12_init 832 = .ok (.castore, 1) := by decide +kernel
theorem dX12_init_833 : decode cX12_init 833 = .ok (.putfield 102, 3) := by decide +kernel
theorem dX12_init_836 : decode cX12_init 836 = .ok (.aload_n 0, 1) := by decide +kernel
theorem dX12_init_837 : decode cX12_init 837 = .ok (.iconst 3, 1) := by decide +kernel
theorem dX12_init_838 : decode cX12_init 838 = .ok (.newarray .char, 2) := by decide +kernel
theorem dX12_init_840 : decode cX12_init 840 = .ok (.dup, 1) := by decide +kernel
theorem dX12_init_841 : decode cX12_init 841 = .ok (.iconst 0, 1) := by decide +kernel
theorem dX12_init_842 : decode cX12_init 842 = .ok (.bipush 109, 2) := by decide +kernel
theorem dX12_init_844 : decode cX12_init 844 = .ok (.castore, 1) := by decide +kernel
theorem dX12_init_845 : decode cX12_init 845 = .ok (.dup, 1) := by decide +kernel
theorem dX12_init_846 : decode cX12_init 846 = .ok (.iconst 1, 1) := by decide +kernel
theorem dX12_init_847 : decode cX12_init 847 = .ok (.bipush 97, 2) := by decide +kernel
theorem dX12_init_849 : decode cX12_init 849 = .ok (.castore, 1) := by decide +kernel
theorem dX12_init_850 : decode cX12_init 850 = .ok (.dup, 1) := by decide +kernel
theorem dX12_init_851 : decode cX12_init 851 = .ok (.iconst 2, 1) := by decide +kernel
theorem dX12_init_852 : decode cX12_init 852 = .ok (.bipush 120, 2) := by decide +kernel
theorem dX12_init_854 : decode cX12_init 854 = .ok (.castore, 1) := by decide +kernel
theorem dX12_init_855 : decode cX12_init 855 = .ok (.putfield 105, 3) := by decide +kernel
theorem dX12_init_858 : decode cX12_init 858 = .ok (.aload_n 0, 1) := by decide +kernel
theorem dX12_init_859 : decode cX12_init 859 = .ok (.bipush 6, 2) := by decide +kernel
theorem dX12_init_861 : decode cX12_init 861 = .ok (.newarray .int, 2) := by decide +kernel
theorem dX12_init_863 : decode cX12_init 863 = .ok (.putfield 108, 3) := by decide +kernel
theorem dX12_init_866 : decode cX12_init 866 = .ok (.aload_n 0, 1) := by decide +kernel
theorem dX12_init_867 : decode cX12_init 867 = .ok (.bipush 36, 2) := by decide +kernel
theorem dX12_init_869 : decode cX12_init 869 = .ok (.newarray .long, 2) := by decide +kernel
theorem dX12_init_871 : decode cX12_init 871 = .ok (.putfield 111, 3) := by decide +kernel
theorem dX12_init_874 : decode cX12_init 874 = .ok (.aload_n 0, 1) := by decide +kernel
theorem dX12_init_875 : decode cX12_init 875 = .ok (.bipush 6, 2) := by decide +kernel
theorem dX12_init_877 : decode cX12_init 877 = .ok (.newarray .int, 2) := by decide +kernel
theorem dX12_init_879 : decode cX12_init 879 = .ok (.putfield 115, 3) := by decide +kernel
theorem dX12_init_882 : decode cX12_init 882 = .ok (.aload_n 0, 1) := by decide +kernel
theorem dX12_init_883 : decode cX12_init 883 = .ok (.bipush 24, 2) := by decide +kernel
theorem dX12_init_885 : decode cX12_init 885 = .ok (.newarray .int, 2) := by decide +kernel
theorem dX12_init_887 : decode cX12_init 887 = .ok (.putfield 118, 3) := by decide +kernel
theorem dX12_init_890 : decode cX12_init 890 = .ok (.aload_n 0, 1) := by decide +kernel
theorem dX12_init_891 : decode cX12_init 891 = .ok (.bipush 36, 2) := by decide +kernel
theorem dX12_init_893 : decode cX12_init 893 = .ok (.newarray .int, 2) := by decide +kernel
theorem dX12_init_895 : decode cX12_init 895 = .ok (.putfield 121, 3) := by decide +kernel
theorem dX12_init_898 : decode cX12_init 898 = .ok (.aload_n 0, 1) := by decide +kernel
theorem dX12_init_899 : decode cX12_init 899 = .ok (.bipush 20, 2) := by decide +kernel
theorem dX12_init_901 : decode cX12_init 901 = .ok (.newarray .int, 2) := by decide +kernel
theorem dX12_init_903 : decode cX12_init 903 = .ok (.putfield 124, 3) := by decide +kernel
theorem dX12_init_906 : decode cX12_init 906 = .ok (.aload_n 0, 1) := by decide +kernel
theorem dX12_init_907 : decode cX12_init 907 = .ok (.iconst 4, 1) := by decide +kernel
theorem dX12_init_908 : decode cX12_init 908 = .ok (.newarray .int, 2) := by decide +kernel
theorem dX12_init_910 : decode cX12_init 910 = .ok (.dup, 1) := by decide +kernel
theorem dX12_init_911 : decode cX12_init 911 = .ok (.iconst 0, 1) := by decide +kernel
theorem dX12_init_912 : decode cX12_init 912 = .ok (.bipush 50, 2) := by decide +kernel
theorem dX12_init_914 : decode cX12_init 914 = .ok (.iastore, 1) := by decide +kernel
theorem dX12_init_915 : decode cX12_init 915 = .ok (.dup, 1) := by decide +kernel
theorem dX12_init_916 : decode cX12_init 916 = .ok (.iconst 1, 1) := by decide +kernel
theorem dX12_init_917 : decode cX12_init 917 = .ok (.iconst 0, 1) := by decide +kernel
theorem dX12_init_918 : decode cX12_init 918 = .ok (.iastore, 1) := by decide +kernel
theorem dX12_init_919 : decode cX12_init 919 = .ok (.dup, 1) := by decide +kernel
theorem dX12_init_920 : decode cX12_init 920 = .ok (.iconst 2, 1) := by decide +kernel
theorem dX12_init_921 : decode cX12_init 921 = .ok (.bipush 50, 2) := by decide +kernel
theorem dX12_init_923 : decode cX12_init 923 = .ok (.iastore, 1) := by decide +kernel
theorem dX12_init_924 : decode cX12_init 924 = .ok (.dup, 1) := by decide +kernel
theorem dX12_init_925 : decode cX12_init 925 = .ok (.iconst 3, 1) := by decide +kernel
theorem dX12_init_926 : decode cX12_init 926 = .ok (.iconst 0, 1) := by decide +kernel
theorem dX12_init_927 : decode cX12_init 927 = .ok (.iastore, 1) := by decide +kernel
theorem dX12_init_928 : decode cX12_init 928 = .ok (.putfield 127, 3) := by decide +kernel
theorem dX12_init_931 : decode cX12_init 931 = .ok (.aload_n 0, 1) := by decide +kernel
theorem dX12_init_932 : decode cX12_init 932 = .ok (.iconst 4, 1) := by decide +kernel
theorem dX12_init_933 : decode cX12_init 933 = .ok (.newarray .int, 2) := by decide +kernel
theorem dX12_init_935 : decode cX12_init 935 = .ok (.dup, 1) := by decide +kernel
theorem dX12_init_936 : decode cX12_init 936 = .ok (.iconst 0, 1) := by decide +kernel
theorem dX12_init_937 : decode cX12_init 937 = .ok (.iconst (-1), 1) := by decide +kernel
theorem dX12_init_938 : decode cX12_init 938 = .ok (.iastore, 1) := by decide +kernel
theorem dX12_init_939 : decode cX12_init 939 = .ok (.dup, 1) := by decide +kernel
theorem dX12_init_940 : decode cX12_init 940 = .ok (.iconst 1, 1) := by decide +kernel
theorem dX12_init_941 : decode cX12_init 941 = .ok (.iconst (-1), 1) := by decide +kernel
theorem dX12_init_942 : decode cX12_init 942 = .ok (.iastore, 1) := by decide +kernel
theorem dX12_init_943 : decode cX12_init 943 = .ok (.dup, 1) := by decide +kernel
theorem dX12_init_944 : decode cX12_init 944 = .ok (.iconst 2, 1) := by decide +kernel
theorem dX12_init_945 : decode cX12_init 945 = .ok (.iconst (-1), 1) := by decide +kernel
theorem dX12_init_946 : decode cX12_init 946 = .ok (.iastore, 1) := by decide +kernel
theorem dX12_init_947 : decode cX12_init 947 = .ok (.dup, 1) := by decide +kernel
theorem dX12_init_948 : decode cX12_init 948 = .ok (.iconst 3, 1) := by decide +kernel
theorem dX12_init_949 : decode cX12_init 949 = .ok (.iconst (-1), 1) := by decide +kernel
theorem dX12_init_950 : decode cX12_init 950 = .ok (.iastore, 1) := by decide +kernel
theorem dX12_init_951 : decode cX12_init 951 = .ok (.putfield 130, 3) := by decide +kernel
theorem dX12_init_954 : decode cX12_init 954 = .ok (.aload_n 0, 1) := by decide +kernel
theorem dX12_init_955 : decode cX12_init 955 = .ok (.iconst 4, 1) := by decide +kernel
theorem dX12_init_956 : decode cX12_init 956 = .ok (.newarray .int, 2) := by decide +kernel
theorem dX12_init_958 : decode cX12_init 958 = .ok (.putfield 133, 3) := by decide +kernel
theorem dX12_init_961 : decode cX12_init 961 = .ok (.aload_n 0, 1) := by decide +kernel
theorem dX12_init_962 : decode cX12_init 962 = .ok (.sipush 3200, 3) := by decide +kernel
theorem dX12_init_965 : decode cX12_init 965 = .ok (.newarray .int, 2) := by decide +kernel
theorem dX12_init_967 : decode cX12_init 967 = .ok (.putfield 136, 3) := by decide +kernel
theorem dX12_init_970 : decode cX12_init 970 = .ok (.aload_n 0, 1) := by decide +kernel
theorem dX12_init_971 : decode cX12_init 971 = .ok (.bipush 117, 2) := by decide +kernel
theorem dX12_init_973 : decode cX12_init 973 = .ok (.newarray .int, 2) := by decide +kernel
theorem dX12_init_975 : decode cX12_init 975 = .ok (.putfield 139, 3) := by decide +kernel
theorem dX12_init_978 : decode cX12_init 978 = .ok (.aload_n 0, 1) := by decide +kernel
theorem dX12_init_979 : decode cX12_init 979 = .ok (.bipush 26, 2) := by decide +kernel
theorem dX12_init_981 : decode cX12_init 981 = .ok (.newarray .int, 2) := by decide +kernel
theorem dX12_init_983 : decode cX12_init 983 = .ok (.putfield 142, 3) := by decide +kernel
theorem dX12_init_986 : decode cX12_init 986 = .ok (.aload_n 0, 1) := by decide +kernel
theorem dX12_init_987 : decode cX12_init 987 = .ok (.bipush 36, 2) := by decide +kernel
theorem dX12_init_989 : decode cX12_init 989 = .ok (.newarray .int, 2) := by decide +kernel
theorem dX12_init_991 : decode cX12_init 991 = .ok (.putfield 145, 3) := by decide +kernel
theorem dX12_init_994 : decode cX12_init 994 = .ok (.aload_n 0, 1) := by decide +kernel
theorem dX12_init_995 : decode cX12_init 995 = .ok (.bipush 6, 2) := by decide +kernel
theorem dX12_init_997 : decode cX12_init 997 = .ok (.newarray .int, 2) := by decide +kernel
theorem dX12_init_999 : decode cX12_init 999 = .ok (.putfield 148, 3) := by decide +kernel
theorem dX12_init_1002 : decode cX12_init 1002 = .ok (.aload_n 0, 1) := by decide +kernel
theorem dX12_init_1003 : decode cX12_init 1003 = .ok (.bipush 6, 2) := by decide +kernel
theorem dX12_init_1005 : decode cX12_init 1005 = .ok (.newarray .int, 2) := by decide +kernel
theorem dX12_init_1007 : decode cX12_init 1007 = .ok (.putfield 151, 3) := by decide +kernel
theorem dX12_init_1010 : decode cX12_init 1010 = .ok (.aload_n 0, 1) := by decide +kernel
theorem dX12_init_1011 : decode cX12_init 1011 = .ok (.bipush 6, 2) := by decide +kernel
theorem dX12_init_1013 : decode cX12_init 1013 = .ok (.newarray .int, 2) := by decide +kernel
theorem dX12_init_1015 : decode cX12_init 1015 = .ok (.putfield 154, 3) := by decide +kernel
theorem dX12_init_1018 : decode cX12_init 1018 = .ok (.aload_n 0, 1) := by decide +kernel
theorem dX12_init_1019 : decode cX12_init 1019 = .ok (.bipush 26, 2) := by decide +kernel
theorem dX12_init_1021 : decode cX12_init 1021 = .ok (.newarray .int, 2) := by decide +kernel
theorem dX12_init_1023 : decode cX12_init 1023 = .ok (.putfield 157, 3) := by decide +kernel
theorem dX12_init_1026 : decode cX12_init 1026 = .ok (.aload_n 0, 1) := by decide +kernel
theorem dX12_init_1027 : decode cX12_init 1027 = .ok (.bipush 48, 2) := by decide +kernel
theorem dX12_init_1029 : decode cX12_init 1029 = .ok (.newarray .int, 2) := by decide +kernel
theorem dX12_init_1031 : decode cX12_init 1031 = .ok (.putfield 160, 3) := by decide +kernel
theorem dX12_init_1034 : decode cX12_init 1034 = .ok (.aload_n 0, 1) := by decide +kernel
theorem dX12_init_1035 : decode cX12_init 1035 = .ok (.sipush 384, 3) := by decide +kernel
theorem dX12_init_1038 : decode cX12_init 1038 = .ok (.newarray .int, 2) := by decide +kernel
theorem dX12_init_1040 : decode cX12_init 1040 = .ok (.putfield 163, 3) := by decide +kernel
theorem dX12_init_1043 : decode cX12_init 1043 = .ok (.aload_n 0, 1) := by decide +kernel
theorem dX12_init_1044 : decode cX12_init 1044 = .ok (.bipush 64, 2) := by decide +kernel
theorem dX12_init_1046 : decode cX12_init 1046 = .ok (.newarray .boolean, 2) := by decide +kernel
theorem dX12_init_1048 : decode cX12_init 1048 = .ok (.putfield 166, 3) := by decide +kernel
theorem dX12_init_1051 : decode cX12_init 1051 = .ok (.aload_n 0, 1) := by decide +kernel
theorem dX12_init_1052 : decode cX12_init 1052 = .ok (.sipush 2340, 3) := by decide +kernel
theorem dX12_init_1055 : decode cX12_init 1055 = .ok (.newarray .int, 2) := by decide +kernel
theorem dX12_init_1057 : decode cX12_init 1057 = .ok (.putfield 170, 3) := by decide +kernel
theorem dX12_init_1060 : decode cX12_init 1060 = .ok (.aload_n 0, 1) := by decide +kernel
theorem dX12_init_1061 : decode cX12_init 1061 = .ok (.lconst 1, 1) := by decide +kernel
theorem dX12_init_1062 : decode cX12_init 1062 = .ok (.putfield 173, 3) := by decide +kernel
theorem dX12_init_1065 : decode cX12_init 1065 = .ok (.aload_n 0, 1) := by decide +kernel
theorem dX12_init_1066 : decode cX12_init 1066 = .ok (.iconst 5, 1) := by decide +kernel
theorem dX12_init_1067 : decode cX12_init 1067 = .ok (.newarray .char, 2) := by decide +kernel
theorem dX12_init_1069 : decode cX12_init 1069 = .ok (.dup, 1) := by decide +kernel
theorem dX12_init_1070 : decode cX12_init 1070 = .ok (.iconst 0, 1) := by decide +kernel
theorem dX12_init_1071 : decode cX12_init 1071 = .ok (.bipush 102, 2) := by decide +kernel
theorem dX12_init_1073 : decode cX12_init 1073 = .ok (.castore, 1) := by decide +kernel
theorem dX12_init_1074 : decode cX12_init 1074 = .ok (.dup, 1) := by decide +kernel
theorem dX12_init_1075 : decode cX12_init 1075 = .ok (.iconst 1, 1) := by decide +kernel
theorem dX12_init_1076 : decode cX12_init 1076 = .ok (.bipush 105, 2) := by decide +kernel
theorem dX12_init_1078 : decode cX12_init 1078 = .ok (.castore, 1) := by decide +kernel
theorem dX12_init_1079 : decode cX12_init 1079 = .ok (.dup, 1) := by decide +kernel
theorem dX12_init_1080 : decode cX12_init 1080 = .ok (.iconst 2, 1) := by decide +kernel
theorem dX12_init_1081 : decode cX12_init 1081 = .ok (.bipush 114, 2) := by decide +kernel
theorem dX12_init_1083 : decode cX12_init 1083 = .ok (.castore, 1) := by decide +kernel
theorem dX12_init_1084 : decode cX12_init 1084 = .ok (.dup, 1) := by decide +kernel
theorem dX12_init_1085 : decode cX12_init 1085 = .ok (.iconst 3, 1) := by decide +kernel
theorem dX12_init_1086 : decode cX12_init 1086 = .ok (.bipush 115, 2) := by decide +kernel
theorem dX12_init_1088 : decode cX12_init 1088 = .ok (.castore, 1) := by decide +kernel
theorem dX12_init_1089 : decode cX12_init 1089 = .ok (.dup, 1) := by decide +kernel
theorem dX12_init_1090 : decode cX12_init 1090 = .ok (.iconst 4, 1) := by decide +kernel
theorem dX12_init_1091 : decode cX12_init 1091 = .ok (.bipush 116, 2) := by decide +kernel
theorem dX12_init_1093 : decode cX12_init 1093 = .ok (.castore, 1) := by decide +kernel
theorem dX12_init_1094 : decode cX12_init 1094 = .ok (.putfield 177, 3) := by decide +kernel
theorem dX12_init_1097 : decode cX12_init 1097 = .ok (.aload_n 0, 1) := by decide +kernel
theorem dX12_init_1098 : decode cX12_init 1098 = .ok (.iconst 4, 1) := by decide +kernel
theorem dX12_init_1099 : decode cX12_init 1099 = .ok (.newarray .char, 2) := by decide +kernel
theorem dX12_init_1101 : decode cX12_init 1101 = .ok (.dup, 1) := by decide +kernel
theorem dX12_init_1102 : decode cX12_init 1102 = .ok (.iconst 0, 1) := by decide +kernel
theorem dX12_init_1103 : decode cX12_init 1103 = .ok (.bipush 108, 2) := by decide +kernel
theorem dX12_init_1105 : decode cX12_init 1105 = .ok (.castore, 1) := by decide +kernel
theorem dX12_init_1106 : decode cX12_init 1106 = .ok (.dup, 1) := by decide +kernel
theorem dX12_init_1107 : decode cX12_init 1107 = .ok (.iconst 1, 1) := by decide +kernel
theorem dX12_init_1108 : decode cX12_init 1108 = .ok (.bipush 97, 2) := by decide +kernel
theorem dX12_init_1110 : decode cX12_init 1110 = .ok (.castore, 1) := by decide +kernel
theorem dX12_init_1111 : decode cX12_init 1111 = .ok (.dup, 1) := by decide +kernel
theorem dX12_init_1112 : decode cX12_init 1112 = .ok (.iconst 2, 1) := by decide +kernel
theorem dX12_init_1113 : decode cX12_init 1113 = .ok (.bipush 115, 2) := by decide +kernel
theorem dX12_init_1115 : decode cX12_init 1115 = .ok (.castore, 1) := by decide +kernel
theorem dX12_init_1116 : decode cX12_init 1116 = .ok (.dup, 1) := by decide +kernel
theorem dX12_init_1117 : decode cX12_init 1117 = .ok (.iconst 3, 1) := by decide +kernel
theorem dX12_init_1118 : decode cX12_init 1118 = .ok (.bipush 116, 2) := by decide +kernel
theorem dX12_init_1120 : decode cX12_init 1120 = .ok (.castore, 1) := by decide +kernel
theorem dX12_init_1121 : decode cX12_init 1121 = .ok (.putfield 180, 3) := by decide +kernel
theorem dX12_init_1124 : decode cX12_init 1124 = .ok (.aload_n 0, 1) := by decide +kernel
theorem dX12_init_1125 : decode cX12_init 1125 = .ok (.iconst 5, 1) := by decide +kernel
theorem dX12_init_1126 : decode cX12_init 1126 = .ok (.newarray .char, 2) := by decide +kernel
theorem dX12_init_1128 : decode cX12_init 1128 = .ok (.dup, 1) := by decide +kernel
theorem dX12_init_1129 : decode cX12_init 1129 = .ok (.iconst 0, 1) := by decide +kernel
theorem dX12_init_1130 : decode cX12_init 1130 = .ok (.bipush 111, 2) := by decide +kernel
theorem dX12_init_1132 : decode cX12_init 1132 = .ok (.castore, 1) := by decide +kernel
theorem dX12_init_1133 : decode cX12_init 1133 = .ok (.dup, 1) := by decide +kernel
theorem dX12_init_1134 : decode cX12_init 1134 = .ok (.iconst 1, 1) := by decide +kernel
theorem dX12_init_1135 : decode cX12_init 1135 = .ok (.bipush 102, 2) := by decide +kernel
theorem dX12_init_1137 : decode cX12_init 1137 = .ok (.castore, 1) := by decide +kernel
theorem dX12_init_1138 : decode cX12_init 1138 = .ok (.dup, 1) := by decide +kernel
theorem dX12_init_1139 : decode cX12_init 1139 = .ok (.iconst 2, 1) := by decide +kernel
theorem dX12_init_1140 : decode cX12_init 1140 = .ok (.bipush 116, 2) := by decide +kernel
theorem dX12_init_1142 : decode cX12_init 1142 = .ok (.castore, 1) := by decide +kernel
theorem dX12_init_1143 : decode cX12_init 1143 = .ok (.dup, 1) := by decide +kernel
theorem dX12_init_1144 : decode cX12_init 1144 = .ok (.iconst 3, 1) := by decide +kernel
theorem dX12_init_1145 : decode cX12_init 1145 = .ok (.bipush 101, 2) := by decide +kernel
theorem dX12_init_1147 : decode cX12_init 1147 = .ok (.castore, 1) := by decide +kernel
theorem dX12_init_1148 : decode cX12_init 1148 = .ok (.dup, 1) := by decide +kernel
theorem dX12_init_1149 : decode cX12_init 1149 = .ok (.iconst 4, 1) := by decide +kernel
theorem dX12_init_1150 : decode cX12_init 1150 = .ok (.bipush 110, 2) := by decide +kernel
theorem dX12_init_1152 : decode cX12_init 1152 = .ok (.castore, 1) := by decide +kernel
theorem dX12_init_1153 : decode cX12_init 1153 = .ok (.putfield 183, 3) := by decide +kernel
theorem dX12_init_1156 : decode cX12_init 1156 = .ok (.aload_n 0, 1) := by decide +kernel
theorem dX12_init_1157 : decode cX12_init 1157 = .ok (.iconst 5, 1) := by decide +kernel
theorem dX12_init_1158 : decode cX12_init 1158 = .ok (.newarray .char, 2) := by decide +kernel
theorem dX12_init_1160 : decode cX12_init 1160 = .ok (.dup, 1) := by decide +kernel
theorem dX12_init_1161 : decode cX12_init 1161 = .ok (.iconst 0, 1) := by decide +kernel
theorem dX12_init_1162 : decode cX12_init 1162 = .ok (.bipush 116, 2) := by decide +kernel
theorem dX12_init_1164 : decode cX12_init 1164 = .ok (.castore, 1) := by decide +kernel
theorem dX12_init_1165 : decode cX12_init 1165 = .ok (.dup, 1) := by decide +kernel
theorem dX12_init_1166 : decode cX12_init 1166 = .ok (.iconst 1, 1) := by decide +kernel
theorem dX12_init_1167 : decode cX12_init 1167 = .ok (.bipush 111, 2) := by decide +kernel
theorem dX12_init_1169 : decode cX12_init 1169 = .ok (.castore, 1) := by decide +kernel
theorem dX12_init_1170 : decode cX12_init 1170 = .ok (.dup, 1) := by decide +kernel
theorem dX12_init_1171 : decode cX12_init 1171 = .ok (.iconst 2, 1) := by decide +kernel
theorem dX12_init_1172 : decode cX12_init 1172 = .ok (.bipush 116, 2) := by decide +kernel
theorem dX12_init_1174 : decode cX12_init 1174 = .ok (.castore, 1) := by decide +kernel
theorem dX12_init_1175 : decode cX12_init 1175 = .ok (.dup, 1) := by decide +kernel
theorem dX12_init_1176 : decode cX12_init 1176 = .ok (.iconst 3, 1) := by decide +kernel
theorem dX12_init_1177 : decode cX12_init 1177 = .ok (.bipush 97, 2) := by decide +kernel
theorem dX12_init_1179 : decode cX12_init 1179 = .ok (.castore, 1) := by decide +kernel
theorem dX12_init_1180 : decode cX12_init 1180 = .ok (.dup, 1) := by decide +kernel
theorem dX12_init_1181 : decode cX12_init 1181 = .ok (.iconst 4, 1) := by decide +kernel
theorem dX12_init_1182 : decode cX12_init 1182 = .ok (.bipush 108, 2) := by decide +kernel
theorem dX12_init_1184 : decode cX12_init 1184 = .ok (.castore, 1) := by decide +kernel
theorem dX12_init_1185 : decode cX12_init 1185 = .ok (.putfield 186, 3) := by decide +kernel
theorem dX12_init_1188 : decode cX12_init 1188 = .ok (.aload_n 0, 1) := by decide +kernel
theorem dX12_init_1189 : decode cX12_init 1189 = .ok (.iconst 4, 1) := by decide +kernel
theorem dX12_init_1190 : decode cX12_init 1190 = .ok (.newarray .char, 2) := by decide +kernel
theorem dX12_init_1192 : decode cX12_init 1192 = .ok (.dup, 1) := by decide +kernel
theorem dX12_init_1193 : decode cX12_init 1193 = .ok (.iconst 0, 1) := by decide +kernel
theorem dX12_init_1194 : decode cX12_init 1194 = .ok (.bipush 109, 2) := by decide +kernel
theorem dX12_init_1196 : decode cX12_init 1196 = .ok (.castore, 1) := by decide +kernel
theorem dX12_init_1197 : decode cX12_init 1197 = .ok (.dup, 1) := by decide +kernel
theorem dX12_init_1198 : decode cX12_init 1198 = .ok (.iconst 1, 1) := by decide +kernel
theorem dX12_init_1199 : decode cX12_init 1199 = .ok (.bipush 111, 2) := by decide +kernel
theorem dX12_init_1201 : decode cX12_init 1201 = .ok (.castore, 1) := by decide +kernel
theorem dX12_init_1202 : decode cX12_init 1202 = .ok (.dup, 1) := by decide +kernel
theorem dX12_init_1203 : decode cX12_init 1203 = .ok (.iconst 2, 1) := by decide +kernel
theorem dX12_init_1204 : decode cX12_init 1204 = .ok (.bipush 115, 2) := by decide +kernel
theorem dX12_init_1206 : decode cX12_init 1206 = .ok (.castore, 1) := by decide +kernel
theorem dX12_init_1207 : decode cX12_init 1207 = .ok (.dup, 1) := by decide +kernel
theorem dX12_init_1208 : decode cX12_init 1208 = .ok (.iconst 3, 1) := by decide +kernel
theorem dX12_init_1209 : decode cX12_init 1209 = .ok (.bipush 116, 2) := by decide +kernel
theorem dX12_init_1211 : decode cX12_init 1211 = .ok (.castore, 1) := by decide +kernel
theorem dX12_init_1212 : decode cX12_init 1212 = .ok (.putfield 189, 3) := by decide +kernel
theorem dX12_init_1215 : decode cX12_init 1215 = .ok (.aload_n 0, 1) := by decide +kernel
theorem dX12_init_1216 : decode cX12_init 1216 = .ok (.iconst 5, 1) := by decide +kernel
theorem dX12_init_1217 : decode cX12_init 1217 = .ok (.newarray .char, 2) := by decide +kernel
theorem dX12_init_1219 : decode cX12_init 1219 = .ok (.dup, 1) := by decide +kernel
theorem dX12_init_1220 : decode cX12_init 1220 = .ok (.iconst 0, 1) := by decide +kernel
theorem dX12_init_1221 : decode cX12_init 1221 = .ok (.bipush 108, 2) := by decide +kernel
theorem dX12_init_1223 : decode cX12_init 1223 = .ok (.castore, 1) := by decide +kernel
theorem dX12_init_1224 : decode cX12_init 1224 = .ok (.dup, 1) := by decide +kernel
theorem dX12_init_1225 : decode cX12_init 1225 = .ok (.iconst 1, 1) := by decide +kernel
theorem dX12_init_1226 : decode cX12_init 1226 = .ok (.bipush 101, 2) := by decide +kernel
theorem dX12_init_1228 : decode cX12_init 1228 = .ok (.castore, 1) := by decide +kernel
theorem dX12_init_1229 : decode cX12_init 1229 = .ok (.dup, 1) := by decide +kernel
theorem dX12_init_1230 : decode cX12_init 1230 = .ok (.iconst 2, 1) := by decide +kernel
theorem dX12_init_1231 : decode cX12_init 1231 = .ok (.bipush 97, 2) := by decide +kernel
theorem dX12_init_1233 : decode cX12_init 1233 = .ok (.castore, 1) := by decide +kernel
theorem dX12_init_1234 : decode cX12_init 1234 = .ok (.dup, 1) := by decide +kernel
theorem dX12_init_1235 : decode cX12_init 1235 = .ok (.iconst 3, 1) := by decide +kernel
theorem dX12_init_1236 : decode cX12_init 1236 = .ok (.bipush 115, 2) := by decide +kernel
theorem dX12_init_1238 : decode cX12_init 1238 = .ok (.castore, 1) := by decide +kernel
theorem dX12_init_1239 : decode cX12_init 1239 = .ok (.dup, 1) := by decide +kernel
theorem dX12_init_1240 : decode cX12_init 1240 = .ok (.iconst 4, 1) := by decide +kernel
theorem dX12_init_1241 : decode cX12_init 1241 = .ok (.bipush 116, 2) := by decide +kernel
theorem dX12_init_1243 : decode cX12_init 1243 = .ok (.castore, 1) := by decide +kernel
theorem dX12_init_1244 : decode cX12_init 1244 = .ok (.putfield 192, 3) := by decide +kernel
theorem dX12_init_1247 : decode cX12_init 1247 = .ok (.aload_n 0, 1) := by decide +kernel
theorem dX12_init_1248 : decode cX12_init 1248 = .ok (.iconst 3, 1) := by decide +kernel
theorem dX12_init_1249 : decode cX12_init 1249 = .ok (.newarray .char, 2) := by decide +kernel
theorem dX12_init_1251 : decode cX12_init 1251 = .ok (.dup, 1) := by decide +kernel
theorem dX12_init_1252 : decode cX12_init 1252 = .ok (.iconst 0, 1) := by decide +kernel
theorem dX12_init_1253 : decode cX12_init 1253 = .ok (.bipush 110, 2) := by decide +kernel
theorem dX12_init_1255 : decode cX12_init 1255 = .ok (.castore, 1) := by decide +kernel
theorem dX12_init_1256 : decode cX12_init 1256 = .ok (.dup, 1) := by decide +kernel
theorem dX12_init_1257 : decode cX12_init 1257 = .ok (.iconst 1, 1) := by decide +kernel
theorem dX12_init_1258 : decode cX12_init 1258 = .ok (.bipush 111, 2) := by decide +kernel
theorem dX12_init_1260 : decode cX12_init 1260 = .ok (.castore, 1) := by decide +kernel
theorem dX12_init_1261 : decode cX12_init 1261 = .ok (.dup, 1) := by decide +kernel
theorem dX12_init_1262 : decode cX12_init 1262 = .ok (.iconst 2, 1) := by decide +kernel
theorem dX12_init_1263 : decode cX12_init 1263 = .ok (.bipush 116, 2) := by decide +kernel
theorem dX12_init_1265 : decode cX12_init 1265 = .ok (.castore, 1) := by decide +kernel
theorem dX12_init_1266 : decode cX12_init 1266 = .ok (.putfield 195, 3) := by decide +kernel
theorem dX12_init_1269 : decode cX12_init 1269 = .ok (.aload_n 0, 1) := by decide +kernel
theorem dX12_init_1270 : decode cX12_init 1270 = .ok (.iconst 3, 1) := by decide +kernel
theorem dX12_init_1271 : decode cX12_init 1271 = .ok (.newarray .char, 2) := by decide +kernel
theorem dX12_init_1273 : decode cX12_init 1273 = .ok (.dup, 1) := by decide +kernel
theorem dX12_init_1274 : decode cX12_init 1274 = .ok (.iconst 0, 1) := by decide +kernel
theorem dX12_init_1275 : decode cX12_init 1275 = .ok (.bipush 97, 2) := by decide +kernel
theorem dX12_init_1277 : decode cX12_init 1277 = .ok (.castore, 1) := by decide +kernel
theorem dX12_init_1278 : decode cX12_init 1278 = .ok (.dup, 1) := by decide +kernel
theorem dX12_init_1279 : decode cX12_init 1279 = .ok (.iconst 1, 1) := by decide +kernel
theorem dX12_init_1280 : decode cX12_init 1280 = .ok (.bipush 110, 2) := by decide +kernel
theorem dX12_init_1282 : decode cX12_init 1282 = .ok (.castore, 1) := by decide +kernel
theorem dX12_init_1283 : decode cX12_init 1283 = .ok (.dup, 1) := by decide +kernel
theorem dX12_init_1284 : decode cX12_init 1284 = .ok (.iconst 2, 1) := by decide +kernel
theorem dX12_init_1285 : decode cX12_init 1285 = .ok (.bipush 100, 2) := by decide +kernel
theorem dX12_init_1287 : decode cX12_init 1287 = .ok (.castore, 1) := by decide +kernel
theorem dX12_init_1288 : decode cX12_init 1288 = .ok (.putfield 198, 3) := by decide +kernel
theorem dX12_init_1291 : decode cX12_init 1291 = .ok (.aload_n 0, 1) := by decide +kernel
theorem dX12_init_1292 : decode cX12_init 1292 = .ok (.iconst 2, 1) := by decide +kernel
theorem dX12_init_1293 : decode cX12_init 1293 = .ok (.newarray .char, 2) := by decide +kernel
theorem dX12_init_1295 : decode cX12_init 1295 = .ok (.dup, 1) := by decide +kernel
theorem dX12_init_1296 : decode cX12_init 1296 = .ok (.iconst 0, 1) := by decide +kernel
theorem dX12_init_1297 : decode cX12_init 1297 = .ok (.bipush 111, 2) := by decide +kernel
theorem dX12_init_1299 : decode cX12_init 1299 = .ok (.castore, 1) := by decide +kernel
theorem dX12_init_1300 : decode cX12_init 1300 = .ok (.dup, 1) := by decide +kernel
theorem dX12_init_1301 : decode cX12_init 1301 = .ok (.iconst 1, 1) := by decide +kernel
theorem dX12_init_1302 : decode cX12_init 1302 = .ok (.bipush 114, 2) := by decide +kernel
theorem dX12_init_1304 : decode cX12_init 1304 = .ok (.castore, 1) := by decide +kernel
theorem dX12_init_1305 : decode cX12_init 1305 = .ok (.putfield 201, 3) := by decide +kernel
theorem dX12_init_1308 : decode cX12_init 1308 = .ok (.aload_n 0, 1) := by decide +kernel
theorem dX12_init_1309 : decode cX12_init 1309 = .ok (.iconst 3, 1) := by decide +kernel
theorem dX12_init_1310 : decode cX12_init 1310 = .ok (.newarray .char, 2) := by decide +kernel
theorem dX12_init_1312 : decode cX12_init 1312 = .ok (.dup, 1) := by decide +kernel
theorem dX12_init_1313 : decode cX12_init 1313 = .ok (.iconst 0, 1) := by decide +kernel
theorem dX12_init_1314 : decode cX12_init 1314 = .ok (.bipush 97, 2) := by decide +kernel
theorem dX12_init_1316 : decode cX12_init 1316 = .ok (.castore, 1) := by decide +kernel
theorem dX12_init_1317 : decode cX12_init 1317 = .ok (.dup, 1) := by decide +kernel
theorem dX12_init_1318 : decode cX12_init 1318 = .ok (.iconst 1, 1) := by decide +kernel
theorem dX12_init_1319 : decode cX12_init 1319 = .ok (.bipush 108, 2) := by decide +kernel
theorem dX12_init_1321 : decode cX12_init 1321 = .ok (.castore, 1) := by decide +kernel
theorem dX12_init_1322 : decode cX12_init 1322 = .ok (.dup, 1) := by decide +kernel
theorem dX12_init_1323 : decode cX12_init 1323 = .ok (.iconst 2, 1) := by decide +kernel
theorem dX12_init_1324 : decode cX12_init 1324 = .ok (.bipush 108, 2) := by decide +kernel
theorem dX12_init_1326 : decode cX12_init 1326 = .ok (.castore, 1) := by decide +kernel
theorem dX12_init_1327 : decode cX12_init 1327 = .ok (.putfield 204, 3) := by decide +kernel
theorem dX12_init_1330 : decode cX12_init 1330 = .ok (.aload_n 0, 1) := by decide +kernel
theorem dX12_init_1331 : decode cX12_init 1331 = .ok (.iconst 3, 1) := by decide +kernel
theorem dX12_init_1332 : decode cX12_init 1332 = .ok (.newarray .char, 2) := by decide +kernel
theorem dX12_init_1334 : decode cX12_init 1334 = .ok (.dup, 1) := by decide +kernel
theorem dX12_init_1335 : decode cX12_init 1335 = .ok (.iconst 0, 1) := by decide +kernel
theorem dX12_init_1336 : decode cX12_init 1336 = .ok (.bipush 109, 2) := by decide +kernel
theorem dX12_init_1338 : decode cX12_init 1338 = .ok (.castore, 1) := by decide +kernel
theorem dX12_init_1339 : decode cX12_init 1339 = .ok (.dup, 1) := by decide +kernel
theorem dX12_init_1340 : decode cX12_init 1340 = .ok (.iconst 1, 1) := by decide +kernel
theorem dX12_init_1341 : decode cX12_init 1341 = .ok (.bipush 105, 2) := by decide +kernel
theorem dX12_init_1343 : decode cX12_init 1343 = .ok (.castore, 1) := by decide +kernel
theorem dX12_init_1344 : decode cX12_init 1344 = .ok (.dup, 1) := by decide +kernel
theorem dX12_init_1345 : decode cX12_init 1345 = .ok (.iconst 2, 1) := by decide +kernel
theorem dX12_init_1346 : decode cX12_init 1346 = .ok (.bipush 110, 2) := by decide +kernel
theorem dX12_init_1348 : decode cX12_init 1348 = .ok (.castore, 1) := by decide +kernel
theorem dX12_init_1349 : decode cX12_init 1349 = .ok (.putfield 207, 3) := by decide +kernel
theorem dX12_init_1352 : decode cX12_init 1352 = .ok (.aload_n 0, 1) := by decide +kernel
theorem dX12_init_1353 : decode cX12_init 1353 = .ok (.iconst 3, 1) := by decide +kernel
theorem dX12_init_1354 : decode cX12_init 1354 = .ok (.newarray .char, 2) := by decide +kernel
theorem dX12_init_1356 : decode cX12_init 1356 = .ok (.dup, 1) := by decide +kernel
theorem dX12_init_1357 : decode cX12_init 1357 = .ok (.iconst 0, 1) := by decide +kernel
theorem dX12_init_1358 : decode cX12_init 1358 = .ok (.bipush 109, 2) := by decide +kernel
theorem dX12_init_1360 : decode cX12_init 1360 = .ok (.castore, 1) := by decide +kernel
theorem dX12_init_1361 : decode cX12_init 1361 = .ok (.dup, 1) := by decide +kernel
theorem dX12_init_1362 : decode cX12_init 1362 = .ok (.iconst 1, 1) := by decide +kernel
theorem dX12_init_1363 : decode cX12_init 1363 = .ok (.bipush 97, 2) := by decide +kernel
theorem dX12_init_1365 : decode cX12_init 1365 = .ok (.castore, 1) := by decide +kernel
theorem dX12_init_1366 : decode cX12_init 1366 = .ok (.dup, 1) := by decide +kernel
theorem dX12_init_1367 : decode cX12_init 1367 = .ok (.iconst 2, 1) := by decide +kernel
theorem dX12_init_1368 : decode cX12_init 1368 = .ok (.bipush 120, 2) := by decide +kernel
theorem dX12_init_1370 : decode cX12_init 1370 = .ok (.castore, 1) := by decide +kernel
theorem dX12_init_1371 : decode cX12_init 1371 = .ok (.putfield 210, 3) := by decide +kernel
theorem dX12_init_1374 : decode cX12_init 1374 = .ok (.aload_n 0, 1) := by decide +kernel
theorem dX12_init_1375 : decode cX12_init 1375 = .ok (.iconst 4, 1) := by decide +kernel
theorem dX12_init_1376 : decode cX12_init 1376 = .ok (.newarray .char, 2) := by decide +kernel
theorem dX12_init_1378 : decode cX12_init 1378 = .ok (.dup, 1) := by decide +kernel
theorem dX12_init_1379 : decode cX12_init 1379 = .ok (.iconst 0, 1) := by decide +kernel
theorem dX12_init_1380 : decode cX12_init 1380 = .ok (.bipush 108, 2) := by decide +kernel
theorem dX12_init_1382 : decode cX12_init 1382 = .ok (.castore, 1) := by decide +kernel
theorem dX12_init_1383 : decode cX12_init 1383 = .ok (.dup, 1) := by decide +kernel
theorem dX12_init_1384 : decode cX12_init 1384 = .ok (.iconst 1, 1) := by decide +kernel
theorem dX12_init_1385 : decode cX12_init 1385 = .ok (.bipush 111, 2) := by decide +kernel
theorem dX12_init_1387 : decode cX12_init 1387 = .ok (.castore, 1) := by decide +kernel
theorem dX12_init_1388 : decode cX12_init 1388 = .ok (.dup, 1) := by decide +kernel
theorem dX12_init_1389 : decode cX12_init 1389 = .ok (.iconst 2, 1) := by decide +kernel
theorem dX12_init_1390 : decode cX12_init 1390 = .ok (.bipush 111, 2) := by decide +kernel
theorem dX12_init_1392 : decode cX12_init 1392 = .ok (.castore, 1) := by decide +kernel
theorem dX12_init_1393 : decode cX12_init 1393 = .ok (.dup, 1) := by decide +kernel
theorem dX12_init_1394 : decode cX12_init 1394 = .ok (.iconst 3, 1) := by decide +kernel
theorem dX12_init_1395 : decode cX12_init 1395 = .ok (.bipush 107, 2) := by decide +kernel
theorem dX12_init_1397 : decode cX12_init 1397 = .ok (.castore, 1) := by decide +kernel
theorem dX12_init_1398 : decode cX12_init 1398 = .ok (.putfield 213, 3) := by decide +kernel
theorem dX12_init_1401 : decode cX12_init 1401 = .ok (.aload_n 0, 1) := by decide +kernel
theorem dX12_init_1402 : decode cX12_init 1402 = .ok (.iconst 5, 1) := by decide +kernel
theorem dX12_init_1403 : decode cX12_init 1403 = .ok (.newarray .char, 2) := by decide +kernel
theorem dX12_init_1405 : decode cX12_init 1405 = .ok (.dup, 1) := by decide +kernel
theorem dX12_init_1406 : decode cX12_init 1406 = .ok (.iconst 0, 1) := by decide +kernel
theorem dX12_init_1407 : decode cX12_init 1407 = .ok (.bipush 116, 2) := by decide +kernel
theorem dX12_init_1409 : decode cX12_init 1409 = .ok (.castore, 1) := by decide +kernel
theorem dX12_init_1410 : decode cX12_init 1410 = .ok (.dup, 1) := by decide +kernel
theorem dX12_init_1411 : decode cX12_init 1411 = .ok (.iconst 1, 1) := by decide +kernel
theorem dX12_init_1412 : decode cX12_init 1412 = .ok (.bipush 105, 2) := by decide +kernel
theorem dX12_init_1414 : decode cX12_init 1414 = .ok (.castore, 1) := by decide +kernel
theorem dX12_init_1415 : decode cX12_init 1415 = .ok (.dup, 1) := by decide +kernel
theorem dX12_init_1416 : decode cX12_init 1416 = .ok (.iconst 2, 1) := by decide +kernel
theorem dX12_init_1417 : decode cX12_init 1417 = .ok (.bipush 109, 2) := by decide +kernel
theorem dX12_init_1419 : decode cX12_init 1419 = .ok (.castore, 1) := by decide +kernel
theorem dX12_init_1420 : decode cX12_init 1420 = .ok (.dup, 1) := by decide +kernel
theorem dX12_init_1421 : decode cX12_init 1421 = .ok (.iconst 3, 1) := by decide +kernel
theorem dX12_init_1422 : decode cX12_init 1422 = .ok (.bipush 101, 2) := by decide +kernel
theorem dX12_init_1424 : decode cX12_init 1424 = .ok (.castore, 1) := by decide +kernel
theorem dX12_init_1425 : decode cX12_init 1425 = .ok (.dup, 1) := by decide +kernel
theorem dX12_init_1426 : decode cX12_init 1426 = .ok (.iconst 4, 1) := by decide +kernel
theorem dX12_init_1427 : decode cX12_init 1427 = .ok (.bipush 115, 2) := by decide +kernel
theorem dX12_init_1429 : decode cX12_init 1429 = .ok (.castore, 1) := by decide +kernel
theorem dX12_init_1430 : decode cX12_init 1430 = .ok (.putfield 216, 3) := by decide +kernel
theorem dX12_init_1433 : decode cX12_init 1433 = .ok (.aload_n 0, 1) := by decide +kernel
theorem dX12_init_1434 : decode cX12_init 1434 = .ok (.iconst 4, 1) := by decide +kernel
theorem dX12_init_1435 : decode cX12_init 1435 = .ok (.newarray .char, 2) := by decide +kernel
theorem dX12_init_1437 : decode cX12_init 1437 = .ok (.dup, 1) := by decide +kernel
theorem dX12_init_1438 : decode cX12_init 1438 = .ok (.iconst 0, 1) := by decide +kernel
theorem dX12_init_1439 : decode cX12_init 1439 = .ok (.bipush 121, 2) := by decide +kernel
theorem dX12_init_1441 : decode cX12_init 1441 = .ok (.castore, 1) := by decide +kernel
theorem dX12_init_1442 : decode cX12_init 1442 = .ok (.dup, 1) := by decide +kernel
theorem dX12_init_1443 : decode cX12_init 1443 = .ok (.iconst 1, 1) := by decide +kernel
theorem dX12_init_1444 : decode cX12_init 1444 = .ok (.bipush 101, 2) := by decide +kernel
theorem dX12_init_1446 : decode cX12_init 1446 = .ok (.castore, 1) := by decide +kernel
theorem dX12_init_1447 : decode cX12_init 1447 = .ok (.dup, 1) := by decide +kernel
theorem dX12_init_1448 : decode cX12_init 1448 = .ok (.iconst 2, 1) := by decide +kernel
theorem dX12_init_1449 : decode cX12_init 1449 = .ok (.bipush 97, 2) := by decide +kernel
theorem dX12_init_1451 : decode cX12_init 1451 = .ok (.castore, 1) := by decide +kernel
theorem dX12_init_1452 : decode cX12_init 1452 = .ok (.dup, 1) := by decide +kernel
theorem dX12_init_1453 : decode cX12_init 1453 = .ok (.iconst 3, 1) := by decide +kernel
theorem dX12_init_1454 : decode cX12_init 1454 = .ok (.bipush 114, 2) := by decide +kernel
theorem dX12_init_1456 : decode cX12_init 1456 = .ok (.castore, 1) := by decide +kernel
theorem dX12_init_1457 : decode cX12_init 1457 = .ok (.putfield 219, 3) := by decide +kernel
theorem dX12_init_1460 : decode cX12_init 1460 = .ok (.aload_n 0, 1) := by decide +kernel
theorem dX12_init_1461 : decode cX12_init 1461 = .ok (.iconst 4, 1) := by decide +kernel
theorem dX12_init_1462 : decode cX12_init 1462 = .ok (.newarray .char, 2) := by decide +kernel
theorem dX12_init_1464 : decode cX12_init 1464 = .ok (.dup, 1) := by decide +kernel
theorem dX12_init_1465 : decode cX12_init 1465 = .ok (.iconst 0, 1) := by decide +kernel
theorem dX12_init_1466 : decode cX12_init 1466 = .ok (.bipush 115, 2) := by decide +kernel
theorem dX12_init_1468 : decode cX12_init 1468 = .ok (.castore, 1) := by decide +kernel
theorem dX12_init_1469 : decode cX12_init 1469 = .ok (.dup, 1) := by decide +kernel
theorem dX12_init_1470 : decode cX12_init 1470 = .ok (.iconst 1, 1) := by decide +kernel
theorem dX12_init_1471 : decode cX12_init 1471 = .ok (.bipush 101, 2) := by decide +kernel
theorem dX12_init_1473 : decode cX12_init 1473 = .ok (.castore, 1) := by decide +kernel
theorem dX12_init_1474 : decode cX12_init 1474 = .ok (.dup, 1) := by decide +kernel
theorem dX12_init_1475 : decode cX12_init 1475 = .ok (.iconst 2, 1) := by decide +kernel
theorem dX12_init_1476 : decode cX12_init 1476 = .ok (.bipush 97, 2) := by decide +kernel
theorem dX12_init_1478 : decode cX12_init 1478 = .ok (.castore, 1) := by decide +kernel
theorem dX12_init_1479 : decode cX12_init 1479 = .ok (.dup, 1) := by decide +kernel
theorem dX12_init_1480 : decode cX12_init 1480 = .ok (.iconst 3, 1) := by decide +kernel
theorem dX12_init_1481 : decode cX12_init 1481 = .ok (.bipush 116, 2) := by decide +kernel
theorem dX12_init_1483 : decode cX12_init 1483 = .ok (.castore, 1) := by decide +kernel
theorem dX12_init_1484 : decode cX12_init 1484 = .ok (.putfield 222, 3) := by decide +kernel
theorem dX12_init_1487 : decode cX12_init 1487 = .ok (.aload_n 0, 1) := by decide +kernel
theorem dX12_init_1488 : decode cX12_init 1488 = .ok (.iconst 5, 1) := by decide +kernel
theorem dX12_init_1489 : decode cX12_init 1489 = .ok (.newarray .char, 2) := by decide +kernel
theorem dX12_init_1491 : decode cX12_init 1491 = .ok (.dup, 1) := by decide +kernel
theorem dX12_init_1492 : decode cX12_init 1492 = .ok (.iconst 0, 1) := by decide +kernel
theorem dX12_init_1493 : decode cX12_init 1493 = .ok (.bipush 103, 2) := by decide +kernel
theorem dX12_init_1495 : decode cX12_init 1495 = .ok (.castore, 1) := by decide +kernel
theorem dX12_init_1496 : decode cX12_init 1496 = .ok (.dup, 1) := by decide +kernel
theorem dX12_init_1497 : decode cX12_init 1497 = .ok (.iconst 1, 1) := by decide +kernel
theorem dX12_init_1498 : decode cX12_init 1498 = .ok (.bipush 108, 2) := by decide +kernel
theorem dX12_init_1500 : decode cX12_init 1500 = .ok (.castore, 1) := by decide +kernel
theorem dX12_init_1501 : decode cX12_init 1501 = .ok (.dup, 1) := by decide +kernel
theorem dX12_init_1502 : decode cX12_init 1502 = .ok (.iconst 2, 1) := by decide +kernel
theorem dX12_init_1503 : decode cX12_init 1503 = .ok (.bipush 97, 2) := by decide +kernel
theorem dX12_init_1505 : decode cX12_init 1505 = .ok (.castore, 1) := by decide +kernel
theorem dX12_init_1506 : decode cX12_init 1506 = .ok (.dup, 1) := by decide +kernel
theorem dX12_init_1507 : decode cX12_init 1507 = .ok (.iconst 3, 1) := by decide +kernel
theorem dX12_init_1508 : decode cX12_init 1508 = .ok (.bipush 115, 2) := by decide +kernel
theorem dX12_init_1510 : decode cX12_init 1510 = .ok (.castore, 1) := by decide +kernel
theorem dX12_init_1511 : decode cX12_init 1511 = .ok (.dup, 1) := by decide +kernel
theorem dX12_init_1512 : decode cX12_init 1512 = .ok (.iconst 4, 1) := by decide +kernel
theorem dX12_init_1513 : decode cX12_init 1513 = .ok (.bipush 115, 2) := by decide +kernel
theorem dX12_init_1515 : decode cX12_init 1515 = .ok (.castore, 1) := by decide +kernel
theorem dX12_init_1516 : decode cX12_init 1516 = .ok (.putfield 225, 3) := by decide +kernel
theorem dX12_init_1519 : decode cX12_init 1519 = .ok (.aload_n 0, 1) := by decide +kernel
theorem dX12_init_1520 : decode cX12_init 1520 = .ok (.iconst 5, 1) := by decide +kernel
theorem dX12_init_1521 : decode cX12_init 1521 = .ok (.newarray .char, 2) := by decide +kernel
theorem dX12_init_1523 : decode cX12_init 1523 = .ok (.dup, 1) := by decide +kernel
theorem dX12_init_1524 : decode cX12_init 1524 = .ok (.iconst 0, 1) := by decide +kernel
theorem dX12_init_1525 : decode cX12_init 1525 = .ok (.bipush 116, 2) := by decide +kernel
theorem dX12_init_1527 : decode cX12_init 1527 = .ok (.castore, 1) := by decide +kernel
theorem dX12_init_1528 : decode cX12_init 1528 = .ok (.dup, 1) := by decide +kernel
theorem dX12_init_1529 : decode cX12_init 1529 = .ok (.iconst 1, 1) := by decide +kernel
theorem dX12_init_1530 : decode cX12_init 1530 = .ok (.bipush 97, 2) := by decide +kernel
theorem dX12_init_1532 : decode cX12_init 1532 = .ok (.castore, 1) := by decide +kernel
theorem dX12_init_1533 : decode cX12_init 1533 = .ok (.dup, 1) := by decide +kernel
theorem dX12_init_1534 : decode cX12_init 1534 = .ok (.iconst 2, 1) := by decide +kernel
theorem dX12_init_1535 : decode cX12_init 1535 = .ok (.bipush 107, 2) := by decide +kernel
theorem dX12_init_1537 : decode cX12_init 1537 = .ok (.castore, 1) := by decide +kernel
theorem dX12_init_1538 : decode cX12_init 1538 = .ok (.dup, 1) := by decide +kernel
theorem dX12_init_1539 : decode cX12_init 1539 = .ok (.iconst 3, 1) := by decide +kernel
theorem dX12_init_1540 : decode cX12_init 1540 = .ok (.bipush 101, 2) := by decide +kernel
theorem dX12_init_1542 : decode cX12_init 1542 = .ok (.castore, 1) := by decide +kernel
theorem dX12_init_1543 : decode cX12_init 1543 = .ok (.dup, 1) := by decide +kernel
theorem dX12_init_1544 : decode cX12_init 1544 = .ok (.iconst 4, 1) := by decide +kernel
theorem dX12_init_1545 : decode cX12_init 1545 = .ok (.bipush 115, 2) := by decide +kernel
theorem dX12_init_1547 : decode cX12_init 1547 = .ok (.castore, 1) := by decide +kernel
theorem dX12_init_1548 : decode cX12_init 1548 = .ok (.putfield 228, 3) := by decide +kernel
theorem dX12_init_1551 : decode cX12_init 1551 = .ok (.aload_n 0, 1) := by decide +kernel
theorem dX12_init_1552 : decode cX12_init 1552 = .ok (.bipush 6, 2) := by decide +kernel
theorem dX12_init_1554 : decode cX12_init 1554 = .ok (.newarray .char, 2) := by decide +kernel
theorem dX12_init_1556 : decode cX12_init 1556 = .ok (.dup, 1) := by decide +kernel
theorem dX12_init_1557 : decode cX12_init 1557 = .ok (.iconst 0, 1) := by decide +kernel
theorem dX12_init_1558 : decode cX12_init 1558 = .ok (.bipush 98, 2) := by decide +kernel
theorem dX12_init_1560 : decode cX12_init 1560 = .ok (.castore, 1) := by decide +kernel
theorem dX12_init_1561 : decode cX12_init 1561 = .ok (.dup, 1) := by decide +kernel
theorem dX12_init_1562 : decode cX12_init 1562 = .ok (.iconst 1, 1) := by decide +kernel
theorem dX12_init_1563 : decode cX12_init 1563 = .ok (.bipush 101, 2) := by decide +kernel
theorem dX12_init_1565 : decode cX12_init 1565 = .ok (.castore, 1) := by decide +kernel
theorem dX12_init_1566 : decode cX12_init 1566 = .ok (.dup, 1) := by decide +kernel
theorem dX12_init_1567 : decode cX12_init 1567 = .ok (.iconst 2, 1) := by decide +kernel
theorem dX12_init_1568 : decode cX12_init 1568 = .ok (.bipush 108, 2) := by decide +kernel
theorem dX12_init_1570 : decode cX12_init 1570 = .ok (.castore, 1) := by decide +kernel
theorem dX12_init_1571 : decode cX12_init 1571 = .ok (.dup, 1) := by decide +kernel
theorem dX12_init_1572 : decode cX12_init 1572 = .ok (.iconst 3, 1) := by decide +kernel
theorem dX12_init_1573 : decode cX12_init 1573 = .ok (.bipush 105, 2) := by decide +kernel
theorem dX12_init_1575 : decode cX12_init 1575 = .ok (.castore, 1) := by decide +kernel
theorem dX12_init_1576 : decode cX12_init 1576 = .ok (.dup, 1) := by decide +kernel
theorem dX12_init_1577 : decode cX12_init 1577 = .ok (.iconst 4, 1) := by decide +kernel
theorem dX12_init_1578 : decode cX12_init 1578 = .ok (.bipush 101, 2) := by decide +kernel
theorem dX12_init_1580 : decode cX12_init 1580 = .ok (.castore, 1) := by decide +kernel
theorem dX12_init_1581 : decode cX12_init 1581 = .ok (.dup, 1) := by decide +kernel
theorem dX12_init_1582 : decode cX12_init 1582 = .ok (.iconst 5, 1) := by decide +kernel
theorem dX12_init_1583 : decode cX12_init 1583 = .ok (.bipush 102, 2) := by decide +kernel
theorem dX12_init_1585 : decode cX12_init 1585 = .ok (.castore, 1) := by decide +kernel
theorem dX12_init_1586 : decode cX12_init 1586 = .ok (.putfield 231, 3) := by decide +kernel
theorem dX12_init_1589 : decode cX12_init 1589 = .ok (.aload_n 0, 1) := by decide +kernel
theorem dX12_init_1590 : decode cX12_init 1590 = .ok (.bipush 6, 2) := by decide +kernel
theorem dX12_init_1592 : decode cX12_init 1592 = .ok (.newarray .char, 2) := by decide +kernel
theorem dX12_init_1594 : decode cX12_init 1594 = .ok (.dup, 1) := by decide +kernel
theorem dX12_init_1595 : decode cX12_init 1595 = .ok (.iconst 0, 1) := by decide +kernel
theorem dX12_init_1596 : decode cX12_init 1596 = .ok (.bipush 110, 2) := by decide +kernel
theorem dX12_init_1598 : decode cX12_init 1598 = .ok (.castore, 1) := by decide +kernel
theorem dX12_init_1599 : decode cX12_init 1599 = .ok (.dup, 1) := by decide +kernel
theorem dX12_init_1600 : decode cX12_init 1600 = .ok (.iconst 1, 1) := by decide +kernel
theorem dX12_init_1601 : decode cX12_init 1601 = .ok (.bipush 117, 2) := by decide +kernel
theorem dX12_init_1603 : decode cX12_init 1603 = .ok (.castore, 1) := by decide +kernel
theorem dX12_init_1604 : decode cX12_init 1604 = .ok (.dup, 1) := by decide +kernel
theorem dX12_init_1605 : decode cX12_init 1605 = .ok (.iconst 2, 1) := by decide +kernel
theorem dX12_init_1606 : decode cX12_init 1606 = .ok (.bipush 109, 2) := by decide +kernel
theorem dX12_init_1608 : decode cX12_init 1608 = .ok (.castore, 1) := by decide +kernel
theorem dX12_init_1609 : decode cX12_init 1609 = .ok (.dup, 1) := by decide +kernel
theorem dX12_init_1610 : decode cX12_init 1610 = .ok (.iconst 3, 1) := by decide +kernel
theorem dX12_init_1611 : decode cX12_init 1611 = .ok (.bipush 98, 2) := by decide +kernel
theorem dX12_init_1613 : decode cX12_init 1613 = .ok (.castore, 1) := by decide +kernel
theorem dX12_init_1614 : decode cX12_init 1614 = .ok (.dup, 1) := by decide +kernel
theorem dX12_init_1615 : decode cX12_init 1615 = .ok (.iconst 4, 1) := by decide +kernel
theorem dX12_init_1616 : decode cX12_init 1616 = .ok (.bipush 101, 2) := by decide +kernel
theorem dX12_init_1618 : decode cX12_init 1618 = .ok (.castore, 1) := by decide +kernel
theorem dX12_init_1619 : decode cX12_init 1619 = .ok (.dup, 1) := by decide +kernel
theorem dX12_init_1620 : decode cX12_init 1620 = .ok (.iconst 5, 1) := by decide +kernel
theorem dX12_init_1621 : decode cX12_init 1621 = .ok (.bipush 114, 2) := by decide +kernel
theorem dX12_init_1623 : decode cX12_init 1623 = .ok (.castore, 1) := by decide +kernel
theorem dX12_init_1624 : decode cX12_init 1624 = .ok (.putfield 234, 3) := by decide +kernel
theorem dX12_init_1627 : decode cX12_init 1627 = .ok (.aload_n 0, 1) := by decide +kernel
theorem dX12_init_1628 : decode cX12_init 1628 = .ok (.iconst 5, 1) := by decide +kernel
theorem dX12_init_1629 : decode cX12_init 1629 = .ok (.newarray .char, 2) := by decide +kernel
theorem dX12_init_1631 : decode cX12_init 1631 = .ok (.dup, 1) := by decide +kernel
theorem dX12_init_1632 : decode cX12_init 1632 = .ok (.iconst 0, 1) := by decide +kernel
theorem dX12_init_1633 : decode cX12_init 1633 = .ok (.bipush 107, 2) := by decide +kernel
theorem dX12_init_1635 : decode cX12_init 1635 = .ok (.castore, 1) := by decide +kernel
theorem dX12_init_1636 : decode cX12_init 1636 = .ok (.dup, 1) := by decide +kernel
theorem dX12_init_1637 : decode cX12_init 1637 = .ok (.iconst 1, 1) := by decide +kernel
theorem dX12_init_1638 : decode cX12_init 1638 = .ok (.bipush 110, 2) := by decide +kernel
theorem dX12_init_1640 : decode cX12_init 1640 = .ok (.castore, 1) := by decide +kernel
theorem dX12_init_1641 : decode cX12_init 1641 = .ok (.dup, 1) := by decide +kernel
theorem dX12_init_1642 : decode cX12_init 1642 = .ok (.iconst 2, 1) := by decide +kernel
theorem dX12_init_1643 : decode cX12_init 1643 = .ok (.bipush 111, 2) := by decide +kernel
theorem dX12_init_1645 : decode cX12_init 1645 = .ok (.castore, 1) := by decide +kernel
theorem dX12_init_1646 : decode cX12_init 1646 = .ok (.dup, 1) := by decide +kernel
theorem dX12_init_1647 : decode cX12_init 1647 = .ok (.iconst 3, 1) := by decide +kernel
theorem dX12_init_1648 : decode cX12_init 1648 = .ok (.bipush 119, 2) := by decide +kernel
theorem dX12_init_1650 : decode cX12_init 1650 = .ok (.castore, 1) := by decide +kernel
theorem dX12_init_1651 : decode cX12_init 1651 = .ok (.dup, 1) := by decide +kernel
theorem dX12_init_1652 : decode cX12_init 1652 = .ok (.iconst 4, 1) := by decide +kernel
theorem dX12_init_1653 : decode cX12_init 1653 = .ok (.bipush 110, 2) := by decide +kernel
theorem dX12_init_1655 : decode cX12_init 1655 = .ok (.castore, 1) := by decide +kernel
theorem dX12_init_1656 : decode cX12_init 1656 = .ok (.putfield 237, 3) := by decide +kernel
theorem dX12_init_1659 : decode cX12_init 1659 = .ok (.aload_n 0, 1) := by decide +kernel
theorem dX12_init_1660 : decode cX12_init 1660 = .ok (.iconst 5, 1) := by decide +kernel
theorem dX12_init_1661 : decode cX12_init 1661 = .ok (.newarray .char, 2) := by decide +kernel
theorem dX12_init_1663 : decode cX12_init 1663 = .ok (.dup, 1) := by decide +kernel
theorem dX12_init_1664 : decode cX12_init 1664 = .ok (.iconst 0, 1) := by decide +kernel
theorem dX12_init_1665 : decode cX12_init 1665 = .ok (.bipush 115, 2) := by decide +kernel
theorem dX12_init_1667 : decode cX12_init 1667 = .ok (.castore, 1) := by decide +kernel
theorem dX12_init_1668 : decode cX12_init 1668 = .ok (.dup, 1) := by decide +kernel
theorem dX12_init_1669 : decode cX12_init 1669 = .ok (.iconst 1, 1) := by decide +kernel
theorem dX12_init_1670 : decode cX12_init 1670 = .ok (.bipush 105, 2) := by decide +kernel
theorem dX12_init_1672 : decode cX12_init 1672 = .ok (.castore, 1) := by decide +kernel
theorem dX12_init_1673 : decode cX12_init 1673 = .ok (.dup, 1) := by decide +kernel
theorem dX12_init_1674 : decode cX12_init 1674 = .ok (.iconst 2, 1) := by decide +kernel
theorem dX12_init_1675 : decode cX12_init 1675 = .ok (.bipush 103, 2) := by decide +kernel
theorem dX12_init_1677 : decode cX12_init 1677 = .ok (.castore, 1) := by decide +kernel
theorem dX12_init_1678 : decode cX12_init 1678 = .ok (.dup, 1) := by decide +kernel
theorem dX12_init_1679 : decode cX12_init 1679 = .ok (.iconst 3, 1) := by decide +kernel
theorem dX12_init_1680 : decode cX12_init 1680 = .ok (.bipush 104, 2) := by decide +kernel
theorem dX12_init_1682 : decode cX12_init 1682 = .ok (.castore, 1) := by decide +kernel
theorem dX12_init_1683 : decode cX12_init 1683 = .ok (.dup, 1) := by decide +kernel
theorem dX12_init_1684 : decode cX12_init 1684 = .ok (.iconst 4, 1) := by decide +kernel
theorem dX12_init_1685 : decode cX12_init 1685 = .ok (.bipush 116, 2) := by decide +kernel
theorem dX12_init_1687 : decode cX12_init 1687 = .ok (.castore, 1) := by decide +kernel
theorem dX12_init_1688 : decode cX12_init 1688 = .ok (.putfield 240, 3) := by decide +kernel
theorem dX12_init_1691 : decode cX12_init 1691 = .ok (.aload_n 0, 1) := by decide +kernel
theorem dX12_init_1692 : decode cX12_init 1692 = .ok (.iconst 4, 1) := by decide +kernel
theorem dX12_init_1693 : decode cX12_init 1693 = .ok (.newarray .char, 2) := by decide +kernel
theorem dX12_init_1695 : decode cX12_init 1695 = .ok (.dup, 1) := by decide +kernel
theorem dX12_init_1696 : decode cX12_init 1696 = .ok (.iconst 0, 1) := by decide +kernel
theorem dX12_init_1697 : decode cX12_init 1697 = .ok (.bipush 108, 2) := by decide +kernel
theorem dX12_init_1699 : decode cX12_init 1699 = .ok (.castore, 1) := by decide +kernel
theorem dX12_init_1700 : decode cX12_init 1700 = .ok (.dup, 1) := by decide +kernel
theorem dX12_init_1701 : decode cX12_init 1701 = .ok (.iconst 1, 1) := by decide +kernel
theorem dX12_init_1702 : decode cX12_init 1702 = .ok (.bipush 101, 2) := by decide +kernel
theorem dX12_init_1704 : decode cX12_init 1704 = .ok (.castore, 1) := by decide +kernel
theorem dX12_init_1705 : decode cX12_init 1705 = .ok (.dup, 1) := by decide +kernel
theorem dX12_init_1706 : decode cX12_init 1706 = .ok (.iconst 2, 1) := by decide +kernel
theorem dX12_init_1707 : decode cX12_init 1707 = .ok (.bipush 102, 2) := by decide +kernel
theorem dX12_init_1709 : decode cX12_init 1709 = .ok (.castore, 1) := by decide +kernel
theorem dX12_init_1710 : decode cX12_init 1710 = .ok (.dup, 1) := by decide +kernel
theorem dX12_init_1711 : decode cX12_init 1711 = .ok (.iconst 3, 1) := by decide +kernel
theorem dX12_init_1712 : decode cX12_init 1712 = .ok (.bipush 116, 2) := by decide +kernel
theorem dX12_init_1714 : decode cX12_init 1714 = .ok (.castore, 1) := by decide +kernel
theorem dX12_init_1715 : decode cX12_init 1715 = .ok (.putfield 243, 3) := by decide +kernel
theorem dX12_init_1718 : decode cX12_init 1718 = .ok (.aload_n 0, 1) := by decide +kernel
theorem dX12_init_1719 : decode cX12_init 1719 = .ok (.iconst 4, 1) := by decide +kernel
theorem dX12_init_1720 : decode cX12_init 1720 = .ok (.newarray .char, 2) := by decide +kernel
theorem dX12_init_1722 : decode cX12_init 1722 = .ok (.dup, 1) := by decide +kernel
theorem dX12_init_1723 : decode cX12_init 1723 = .ok (.iconst 0, 1) := by decide +kernel
theorem dX12_init_1724 : decode cX12_init 1724 = .ok (.bipush 115, 2) := by decide +kernel
theorem dX12_init_1726 : decode cX12_init 1726 = .ok (.castore, 1) := by decide +kernel
theorem dX12_init_1727 : decode cX12_init 1727 = .ok (.dup, 1) := by decide +kernel
theorem dX12_init_1728 : decode cX12_init 1728 = .ok (.iconst 1, 1) := by decide +kernel
theorem dX12_init_1729 : decode cX12_init 1729 = .ok (.bipush 101, 2) := by decide +kernel
theorem dX12_init_1731 : decode cX12_init 1731 = .ok (.castore, 1) := by decide +kernel
theorem dX12_init_1732 : decode cX12_init 1732 = .ok (.dup, 1) := by decide +kernel
theorem dX12_init_1733 : decode cX12_init 1733 = .ok (.iconst 2, 1) := by decide +kernel
theorem dX12_init_1734 : decode cX12_init 1734 = .ok (.bipush 101, 2) := by decide +kernel
theorem dX12_init_1736 : decode cX12_init 1736 = .ok (.castore, 1) := by decide +kernel
theorem dX12_init_1737 : decode cX12_init 1737 = .ok (.dup, 1) := by decide +kernel
theorem dX12_init_1738 : decode cX12_init 1738 = .ok (.iconst 3, 1) := by decide +kernel
theorem dX12_init_1739 : decode cX12_init 1739 = .ok (.bipush 110, 2) := by decide +kernel
theorem dX12_init_1741 : decode cX12_init 1741 = .ok (.castore, 1) := by decide +kernel
theorem dX12_init_1742 : decode cX12_init 1742 = .ok (.putfield 246, 3) := by decide +kernel
theorem dX12_init_1745 : decode cX12_init 1745 = .ok (.aload_n 0, 1) := by decide +kernel
theorem dX12_init_1746 : decode cX12_init 1746 = .ok (.sipush 1700, 3) := by decide +kernel
theorem dX12_init_1749 : decode cX12_init 1749 = .ok (.newarray .int, 2) := by decide +kernel
theorem dX12_init_1751 : decode cX12_init 1751 = .ok (.putfield 249, 3) := by decide +kernel
theorem dX12_init_1754 : decode cX12_init 1754 = .ok (.aload_n 0, 1) := by decide +kernel
theorem dX12_init_1755 : decode cX12_init 1755 = .ok (.sipush 1700, 3) := by decide +kernel
theorem dX12_init_1758 : decode cX12_init 1758 = .ok (.newarray .int, 2) := by decide +kernel
theorem dX12_init_1760 : decode cX12_init 1760 = .ok (.putfield 252, 3) := by decide +kernel
theorem dX12_init_1763 : decode cX12_init 1763 = .ok (.aload_n 0, 1) := by decide +kernel
theorem dX12_init_1764 : decode cX12_init 1764 = .ok (.sipush 1700, 3) := by decide +kernel
theorem dX12_init_1767 : decode cX12_init 1767 = .ok (.newarray .long, 2) := by decide +kernel
theorem dX12_init_1769 : decode cX12_init 1769 = .ok (.putfield 255, 3) := by decide +kernel
theorem dX12_init_1772 : decode cX12_init 1772 = .ok (.aload_n 0, 1) := by decide +kernel
theorem dX12_init_1773 : decode cX12_init 1773 = .ok (.bipush 48, 2) := by decide +kernel
theorem dX12_init_1775 : decode cX12_init 1775 = .ok (.newarray .int, 2) := by decide +kernel
theorem dX12_init_1777 : decode cX12_init 1777 = .ok (.putfield 258, 3) := by decide +kernel
theorem dX12_init_1780 : decode cX12_init 1780 = .ok (.return_, 1) := by decide +kernel
